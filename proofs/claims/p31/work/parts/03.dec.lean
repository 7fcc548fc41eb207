theorem dX0_init_0 : decode cX0_init 0 = .ok (.aload_n 0, 1) := by decide +kernel
theorem dX0_init_1 : decode cX0_init 1 = .ok (.invokespecial 3, 3) := by decide +kernel
theorem dX0_init_4 : decode cX0_init 4 = .ok (.aload_n 0, 1) := by decide +kernel
theorem dX0_init_5 : decode cX0_init 5 = .ok (.aload_n 1, 1) := by decide +kernel
theorem dX0_init_6 : decode cX0_init 6 = .ok (.putfield 9, 3) := by decide +kernel
theorem dX0_init_9 : decode cX0_init 9 = .ok (.return_, 1) := by decide +kernel
theorem dX0_toneAt_0 : decode cX0_toneAt 0 = .ok (.iconst 0, 1) := by decide +kernel
theorem dX0_toneAt_1 : decode cX0_toneAt 1 = .ok (.istore 6, 2) := by decide +kernel
theorem dX0_toneAt_3 : decode cX0_toneAt 3 = .ok (.aload_n 0, 1) := by decide +kernel
theorem dX0_toneAt_4 : decode cX0_toneAt 4 = .ok (.getfield 9, 3) := by decide +kernel
theorem dX0_toneAt_7 : decode cX0_toneAt 7 = .ok (.astore 7, 2) := by decide +kernel
theorem dX0_toneAt_9 : decode cX0_toneAt 9 = .ok (.aload 7, 2) := by decide +kernel
theorem dX0_toneAt_11 : decode cX0_toneAt 11 = .ok (.arraylength, 1) := by decide +kernel
theorem dX0_toneAt_12 : decode cX0_toneAt 12 = .ok (.istore 8, 2) := by decide +kernel
theorem dX0_toneAt_14 : decode cX0_toneAt 14 = .ok (.iconst 0, 1) := by decide +kernel
theorem dX0_toneAt_15 : decode cX0_toneAt 15 = .ok (.istore 9, 2) := by decide +kernel
theorem dX0_toneAt_17 : decode cX0_toneAt 17 = .ok (.iload 9, 2) := by decide +kernel
theorem dX0_toneAt_19 : decode cX0_toneAt 19 = .ok (.iload 8, 2) := by decide +kernel
theorem dX0_toneAt_21 : decode cX0_toneAt 21 = .ok (.if_icmp .ge 90, 3) := by decide +kernel
theorem dX0_toneAt_24 : decode cX0_toneAt 24 = .ok (.aload 7, 2) := by decide +kernel
theorem dX0_toneAt_26 : decode cX0_toneAt 26 = .ok (.iload 9, 2) := by decide +kernel
theorem dX0_toneAt_28 : decode cX0_toneAt 28 = .ok (.iaload, 1) := by decide +kernel
theorem dX0_toneAt_29 : decode cX0_toneAt 29 = .ok (.istore 10, 2) := by decide +kernel
theorem dX0_toneAt_31 : decode cX0_toneAt 31 = .ok (.iload 10, 2) := by decide +kernel
theorem dX0_toneAt_33 : decode cX0_toneAt 33 = .ok (.bipush (-5), 2) := by decide +kernel
theorem dX0_toneAt_35 : decode cX0_toneAt 35 = .ok (.if_icmp .le 31, 3) := by decide +kernel
theorem dX0_toneAt_38 : decode cX0_toneAt 38 = .ok (.iload 6, 2) := by decide +kernel
theorem dX0_toneAt_40 : decode cX0_toneAt 40 = .ok (.aload_n 1, 1) := by decide +kernel
theorem dX0_toneAt_41 : decode cX0_toneAt 41 = .ok (.arraylength, 1) := by decide +kernel
theorem dX0_toneAt_42 : decode cX0_toneAt 42 = .ok (.if_icmp .ge 63, 3) := by decide +kernel
theorem dX0_toneAt_45 : decode cX0_toneAt 45 = .ok (.aload_n 1, 1) := by decide +kernel
theorem dX0_toneAt_46 : decode cX0_toneAt 46 = .ok (.iload 6, 2) := by decide +kernel
theorem dX0_toneAt_48 : decode cX0_toneAt 48 = .ok (.iload 10, 2) := by decide +kernel
theorem dX0_toneAt_50 : decode cX0_toneAt 50 = .ok (.iload_n 2, 1) := by decide +kernel
theorem dX0_toneAt_51 : decode cX0_toneAt 51 = .ok (.iload_n 3, 1) := by decide +kernel
theorem dX0_toneAt_52 : decode cX0_toneAt 52 = .ok (.iload 4, 2) := by decide +kernel
theorem dX0_toneAt_54 : decode cX0_toneAt 54 = .ok (.iload 5, 2) := by decide +kernel
theorem dX0_toneAt_56 : decode cX0_toneAt 56 = .ok (.invokestatic 15, 3) := by decide +kernel
theorem dX0_toneAt_59 : decode cX0_toneAt 59 = .ok (.iastore, 1) := by decide +kernel
theorem dX0_toneAt_60 : decode cX0_toneAt 60 = .ok (.iinc 6 1, 3) := by decide +kernel
theorem dX0_toneAt_63 : decode cX0_toneAt 63 = .ok (.goto 42, 3) := by decide +kernel
theorem dX0_toneAt_66 : decode cX0_toneAt 66 = .ok (.iload 6, 2) := by decide +kernel
theorem dX0_toneAt_68 : decode cX0_toneAt 68 = .ok (.iconst 2, 1) := by decide +kernel
theorem dX0_toneAt_69 : decode cX0_toneAt 69 = .ok (.if_icmp .lt 36, 3) := by decide +kernel
theorem dX0_toneAt_72 : decode cX0_toneAt 72 = .ok (.iload 6, 2) := by decide +kernel
theorem dX0_toneAt_74 : decode cX0_toneAt 74 = .ok (.aload_n 1, 1) := by decide +kernel
theorem dX0_toneAt_75 : decode cX0_toneAt 75 = .ok (.arraylength, 1) := by decide +kernel
theorem dX0_toneAt_76 : decode cX0_toneAt 76 = .ok (.if_icmp .gt 29, 3) := by decide +kernel
theorem dX0_toneAt_79 : decode cX0_toneAt 79 = .ok (.iinc 6 (-1), 3) := by decide +kernel
theorem dX0_toneAt_82 : decode cX0_toneAt 82 = .ok (.aload_n 1, 1) := by decide +kernel
theorem dX0_toneAt_83 : decode cX0_toneAt 83 = .ok (.iload 6, 2) := by decide +kernel
theorem dX0_toneAt_85 : decode cX0_toneAt 85 = .ok (.iconst 1, 1) := by decide +kernel
theorem dX0_toneAt_86 : decode cX0_toneAt 86 = .ok (.isub, 1) := by decide +kernel
theorem dX0_toneAt_87 : decode cX0_toneAt 87 = .ok (.iload 10, 2) := by decide +kernel
theorem dX0_toneAt_89 : decode cX0_toneAt 89 = .ok (.aload_n 1, 1) := by decide +kernel
theorem dX0_toneAt_90 : decode cX0_toneAt 90 = .ok (.iload 6, 2) := by decide +kernel
theorem dX0_toneAt_92 : decode cX0_toneAt 92 = .ok (.iconst 1, 1) := by decide +kernel
theorem dX0_toneAt_93 : decode cX0_toneAt 93 = .ok (.isub, 1) := by decide +kernel
theorem dX0_toneAt_94 : decode cX0_toneAt 94 = .ok (.iaload, 1) := by decide +kernel
theorem dX0_toneAt_95 : decode cX0_toneAt 95 = .ok (.i2l, 1) := by decide +kernel
theorem dX0_toneAt_96 : decode cX0_toneAt 96 = .ok (.aload_n 1, 1) := by decide +kernel
theorem dX0_toneAt_97 : decode cX0_toneAt 97 = .ok (.iload 6, 2) := by decide +kernel
theorem dX0_toneAt_99 : decode cX0_toneAt 99 = .ok (.iaload, 1) := by decide +kernel
theorem dX0_toneAt_100 : decode cX0_toneAt 100 = .ok (.i2l, 1) := by decide +kernel
theorem dX0_toneAt_101 : decode cX0_toneAt 101 = .ok (.invokestatic 19, 3) := by decide +kernel
theorem dX0_toneAt_104 : decode cX0_toneAt 104 = .ok (.iastore, 1) := by decide +kernel
theorem dX0_toneAt_105 : decode cX0_toneAt 105 = .ok (.iinc 9 1, 3) := by decide +kernel
theorem dX0_toneAt_108 : decode cX0_toneAt 108 = .ok (.goto (-91), 3) := by decide +kernel
theorem dX0_toneAt_111 : decode cX0_toneAt 111 = .ok (.iload 6, 2) := by decide +kernel
theorem dX0_toneAt_113 : decode cX0_toneAt 113 = .ok (.iconst 1, 1) := by decide +kernel
theorem dX0_toneAt_114 : decode cX0_toneAt 114 = .ok (.if_icmp .ge 7, 3) := by decide +kernel
theorem dX0_toneAt_117 : decode cX0_toneAt 117 = .ok (.iconst 0, 1) := by decide +kernel
theorem dX0_toneAt_118 : decode cX0_toneAt 118 = .ok (.goto 13, 3) := by decide +kernel
theorem dX0_toneAt_121 : decode cX0_toneAt 121 = .ok (.aload_n 1, 1) := by decide +kernel
theorem dX0_toneAt_122 : decode cX0_toneAt 122 = .ok (.iconst 0, 1) := by decide +kernel
theorem dX0_toneAt_123 : decode cX0_toneAt 123 = .ok (.iaload, 1) := by decide +kernel
theorem dX0_toneAt_124 : decode cX0_toneAt 124 = .ok (.i2l, 1) := by decide +kernel
theorem dX0_toneAt_125 : decode cX0_toneAt 125 = .ok (.iconst 0, 1) := by decide +kernel
theorem dX0_toneAt_126 : decode cX0_toneAt 126 = .ok (.bipush 100, 2) := by decide +kernel
theorem dX0_toneAt_128 : decode cX0_toneAt 128 = .ok (.invokestatic 23, 3) := by decide +kernel
theorem dX0_toneAt_131 : decode cX0_toneAt 131 = .ok (.ireturn, 1) := by decide +kernel
theorem dX0_operand_0 : decode cX0_operand 0 = .ok (.iload_n 0, 1) := by decide +kernel
theorem dX0_operand_1 : decode cX0_operand 1 = .ok (.tableswitch 40 (-4) (-1) #[37, 35, 33, 31], 31) := by decide +kernel
theorem dX0_operand_32 : decode cX0_operand 32 = .ok (.iload_n 1, 1) := by decide +kernel
theorem dX0_operand_33 : decode cX0_operand 33 = .ok (.ireturn, 1) := by decide +kernel
theorem dX0_operand_34 : decode cX0_operand 34 = .ok (.iload_n 2, 1) := by decide +kernel
theorem dX0_operand_35 : decode cX0_operand 35 = .ok (.ireturn, 1) := by decide +kernel
theorem dX0_operand_36 : decode cX0_operand 36 = .ok (.iload_n 3, 1) := by decide +kernel
theorem dX0_operand_37 : decode cX0_operand 37 = .ok (.ireturn, 1) := by decide +kernel
theorem dX0_operand_38 : decode cX0_operand 38 = .ok (.iload 4, 2) := by decide +kernel
theorem dX0_operand_40 : decode cX0_operand 40 = .ok (.ireturn, 1) := by decide +kernel
theorem dX0_operand_41 : decode cX0_operand 41 = .ok (.iload_n 0, 1) := by decide +kernel
theorem dX0_operand_42 : decode cX0_operand 42 = .ok (.ireturn, 1) := by decide +kernel
theorem dX0_result_0 : decode cX0_result 0 = .ok (.iload_n 0, 1) := by decide +kernel
theorem dX0_result_1 : decode cX0_result 1 = .ok (.tableswitch 60 (-7) (-5) #[49, 38, 27], 27) := by decide +kernel
theorem dX0_result_28 : decode cX0_result 28 = .ok (.lload_n 1, 1) := by decide +kernel
theorem dX0_result_29 : decode cX0_result 29 = .ok (.lload_n 3, 1) := by decide +kernel
theorem dX0_result_30 : decode cX0_result 30 = .ok (.ladd, 1) := by decide +kernel
theorem dX0_result_31 : decode cX0_result 31 = .ok (.ldc 27, 2) := by decide +kernel
theorem dX0_result_33 : decode cX0_result 33 = .ok (.ldc 28, 2) := by decide +kernel
theorem dX0_result_35 : decode cX0_result 35 = .ok (.invokestatic 23, 3) := by decide +kernel
theorem dX0_result_38 : decode cX0_result 38 = .ok (.ireturn, 1) := by decide +kernel
theorem dX0_result_39 : decode cX0_result 39 = .ok (.lload_n 1, 1) := by decide +kernel
theorem dX0_result_40 : decode cX0_result 40 = .ok (.lload_n 3, 1) := by decide +kernel
theorem dX0_result_41 : decode cX0_result 41 = .ok (.lsub, 1) := by decide +kernel
theorem dX0_result_42 : decode cX0_result 42 = .ok (.ldc 27, 2) := by decide +kernel
theorem dX0_result_44 : decode cX0_result 44 = .ok (.ldc 28, 2) := by decide +kernel
theorem dX0_result_46 : decode cX0_result 46 = .ok (.invokestatic 23, 3) := by decide +kernel
theorem dX0_result_49 : decode cX0_result 49 = .ok (.ireturn, 1) := by decide +kernel
theorem dX0_result_50 : decode cX0_result 50 = .ok (.lload_n 1, 1) := by decide +kernel
theorem dX0_result_51 : decode cX0_result 51 = .ok (.lload_n 3, 1) := by decide +kernel
theorem dX0_result_52 : decode cX0_result 52 = .ok (.lmul, 1) := by decide +kernel
theorem dX0_result_53 : decode cX0_result 53 = .ok (.ldc 27, 2) := by decide +kernel
theorem dX0_result_55 : decode cX0_result 55 = .ok (.ldc 28, 2) := by decide +kernel
theorem dX0_result_57 : decode cX0_result 57 = .ok (.invokestatic 23, 3) := by decide +kernel
theorem dX0_result_60 : decode cX0_result 60 = .ok (.ireturn, 1) := by decide +kernel
theorem dX0_result_61 : decode cX0_result 61 = .ok (.lload_n 3, 1) := by decide +kernel
theorem dX0_result_62 : decode cX0_result 62 = .ok (.lconst 0, 1) := by decide +kernel
theorem dX0_result_63 : decode cX0_result 63 = .ok (.lcmp, 1) := by decide +kernel
theorem dX0_result_64 : decode cX0_result 64 = .ok (.ifCond .ne 7, 3) := by decide +kernel
theorem dX0_result_67 : decode cX0_result 67 = .ok (.iconst 0, 1) := by decide +kernel
theorem dX0_result_68 : decode cX0_result 68 = .ok (.goto 13, 3) := by decide +kernel
theorem dX0_result_71 : decode cX0_result 71 = .ok (.lload_n 1, 1) := by decide +kernel
theorem dX0_result_72 : decode cX0_result 72 = .ok (.lload_n 3, 1) := by decide +kernel
theorem dX0_result_73 : decode cX0_result 73 = .ok (.ldiv, 1) := by decide +kernel
theorem dX0_result_74 : decode cX0_result 74 = .ok (.ldc 27, 2) := by decide +kernel
theorem dX0_result_76 : decode cX0_result 76 = .ok (.ldc 28, 2) := by decide +kernel
theorem dX0_result_78 : decode cX0_result 78 = .ok (.invokestatic 23, 3) := by decide +kernel
theorem dX0_result_81 : decode cX0_result 81 = .ok (.ireturn, 1) := by decide +kernel
theorem dX1_init_0 : decode cX1_init 0 = .ok (.aload_n 0, 1) := by decide +kernel
theorem dX1_init_1 : decode cX1_init 1 = .ok (.invokespecial 1, 3) := by decide +kernel
theorem dX1_init_4 : decode cX1_init 4 = .ok (.aload_n 0, 1) := by decide +kernel
theorem dX1_init_5 : decode cX1_init 5 = .ok (.iconst 1, 1) := by decide +kernel
theorem dX1_init_6 : decode cX1_init 6 = .ok (.putfield 7, 3) := by decide +kernel
theorem dX1_init_9 : decode cX1_init 9 = .ok (.return_, 1) := by decide +kernel
theorem dX1_p_0 : decode cX1_p 0 = .ok (.aload_n 0, 1) := by decide +kernel
theorem dX1_p_1 : decode cX1_p 1 = .ok (.getfield 7, 3) := by decide +kernel
theorem dX1_p_4 : decode cX1_p 4 = .ok (.aload_n 0, 1) := by decide +kernel
theorem dX1_p_5 : decode cX1_p 5 = .ok (.getfield 7, 3) := by decide +kernel
theorem dX1_p_8 : decode cX1_p 8 = .ok (.imul, 1) := by decide +kernel
theorem dX1_p_9 : decode cX1_p 9 = .ok (.aload_n 0, 1) := by decide +kernel
theorem dX1_p_10 : decode cX1_p 10 = .ok (.getfield 13, 3) := by decide +kernel
theorem dX1_p_13 : decode cX1_p 13 = .ok (.aload_n 0, 1) := by decide +kernel
theorem dX1_p_14 : decode cX1_p 14 = .ok (.getfield 13, 3) := by decide +kernel
theorem dX1_p_17 : decode cX1_p 17 = .ok (.imul, 1) := by decide +kernel
theorem dX1_p_18 : decode cX1_p 18 = .ok (.iadd, 1) := by decide +kernel
theorem dX1_p_19 : decode cX1_p 19 = .ok (.ireturn, 1) := by decide +kernel
theorem dX1_become_0 : decode cX1_become 0 = .ok (.aload_n 0, 1) := by decide +kernel
theorem dX1_become_1 : decode cX1_become 1 = .ok (.aload_n 1, 1) := by decide +kernel
theorem dX1_become_2 : decode cX1_become 2 = .ok (.getfield 16, 3) := by decide +kernel
theorem dX1_become_5 : decode cX1_become 5 = .ok (.putfield 16, 3) := by decide +kernel
theorem dX1_become_8 : decode cX1_become 8 = .ok (.aload_n 0, 1) := by decide +kernel
theorem dX1_become_9 : decode cX1_become 9 = .ok (.aload_n 1, 1) := by decide +kernel
theorem dX1_become_10 : decode cX1_become 10 = .ok (.getfield 7, 3) := by decide +kernel
theorem dX1_become_13 : decode cX1_become 13 = .ok (.putfield 7, 3) := by decide +kernel
theorem dX1_become_16 : decode cX1_become 16 = .ok (.aload_n 0, 1) := by decide +kernel
theorem dX1_become_17 : decode cX1_become 17 = .ok (.aload_n 1, 1) := by decide +kernel
theorem dX1_become_18 : decode cX1_become 18 = .ok (.getfield 13, 3) := by decide +kernel
theorem dX1_become_21 : decode cX1_become 21 = .ok (.putfield 13, 3) := by decide +kernel
theorem dX1_become_24 : decode cX1_become 24 = .ok (.aload_n 0, 1) := by decide +kernel
theorem dX1_become_25 : decode cX1_become 25 = .ok (.aload_n 1, 1) := by decide +kernel
theorem dX1_become_26 : decode cX1_become 26 = .ok (.getfield 20, 3) := by decide +kernel
theorem dX1_become_29 : decode cX1_become 29 = .ok (.putfield 20, 3) := by decide +kernel
theorem dX1_become_32 : decode cX1_become 32 = .ok (.aload_n 0, 1) := by decide +kernel
theorem dX1_become_33 : decode cX1_become 33 = .ok (.aload_n 1, 1) := by decide +kernel
theorem dX1_become_34 : decode cX1_become 34 = .ok (.getfield 23, 3) := by decide +kernel
theorem dX1_become_37 : decode cX1_become 37 = .ok (.putfield 23, 3) := by decide +kernel
theorem dX1_become_40 : decode cX1_become 40 = .ok (.aload_n 0, 1) := by decide +kernel
theorem dX1_become_41 : decode cX1_become 41 = .ok (.aload_n 1, 1) := by decide +kernel
theorem dX1_become_42 : decode cX1_become 42 = .ok (.getfield 26, 3) := by decide +kernel
theorem dX1_become_45 : decode cX1_become 45 = .ok (.putfield 26, 3) := by decide +kernel
theorem dX1_become_48 : decode cX1_become 48 = .ok (.aload_n 0, 1) := by decide +kernel
theorem dX1_become_49 : decode cX1_become 49 = .ok (.aload_n 1, 1) := by decide +kernel
theorem dX1_become_50 : decode cX1_become 50 = .ok (.getfield 29, 3) := by decide +kernel
theorem dX1_become_53 : decode cX1_become 53 = .ok (.putfield 29, 3) := by decide +kernel
theorem dX1_become_56 : decode cX1_become 56 = .ok (.aload_n 0, 1) := by decide +kernel
theorem dX1_become_57 : decode cX1_become 57 = .ok (.aload_n 1, 1) := by decide +kernel
theorem dX1_become_58 : decode cX1_become 58 = .ok (.getfield 32, 3) := by decide +kernel
theorem dX1_become_61 : decode cX1_become 61 = .ok (.putfield 32, 3) := by decide +kernel
theorem dX1_become_64 : decode cX1_become 64 = .ok (.return_, 1) := by decide +kernel
theorem dX2_init_0 : decode cX2_init 0 = .ok (.aload_n 0, 1) := by decide +kernel
theorem dX2_init_1 : decode cX2_init 1 = .ok (.invokespecial 3, 3) := by decide +kernel
theorem dX2_init_4 : decode cX2_init 4 = .ok (.aload_n 0, 1) := by decide +kernel
theorem dX2_init_5 : decode cX2_init 5 = .ok (.iconst 4, 1) := by decide +kernel
theorem dX2_init_6 : decode cX2_init 6 = .ok (.sipush 192, 3) := by decide +kernel
theorem dX2_init_9 : decode cX2_init 9 = .ok (.multianewarray 9 2, 4) := by decide +kernel
theorem dX2_init_13 : decode cX2_init 13 = .ok (.putfield 11, 3) := by decide +kernel
theorem dX2_init_16 : decode cX2_init 16 = .ok (.aload_n 0, 1) := by decide +kernel
theorem dX2_init_17 : decode cX2_init 17 = .ok (.sipush 192, 3) := by decide +kernel
theorem dX2_init_20 : decode cX2_init 20 = .ok (.newarray .int, 2) := by decide +kernel
theorem dX2_init_22 : decode cX2_init 22 = .ok (.putfield 16, 3) := by decide +kernel
theorem dX2_init_25 : decode cX2_init 25 = .ok (.aload_n 0, 1) := by decide +kernel
theorem dX2_init_26 : decode cX2_init 26 = .ok (.iconst 4, 1) := by decide +kernel
theorem dX2_init_27 : decode cX2_init 27 = .ok (.newarray .int, 2) := by decide +kernel
theorem dX2_init_29 : decode cX2_init 29 = .ok (.putfield 20, 3) := by decide +kernel
theorem dX2_init_32 : decode cX2_init 32 = .ok (.aload_n 0, 1) := by decide +kernel
theorem dX2_init_33 : decode cX2_init 33 = .ok (.iconst 4, 1) := by decide +kernel
theorem dX2_init_34 : decode cX2_init 34 = .ok (.anewarray 23, 3) := by decide +kernel
theorem dX2_init_37 : decode cX2_init 37 = .ok (.putfield 25, 3) := by decide +kernel
theorem dX2_init_40 : decode cX2_init 40 = .ok (.aload_n 0, 1) := by decide +kernel
theorem dX2_init_41 : decode cX2_init 41 = .ok (.sipush 650, 3) := by decide +kernel
theorem dX2_init_44 : decode cX2_init 44 = .ok (.newarray .int, 2) := by decide +kernel
theorem dX2_init_46 : decode cX2_init 46 = .ok (.putfield 29, 3) := by decide +kernel
theorem dX2_init_49 : decode cX2_init 49 = .ok (.aload_n 0, 1) := by decide +kernel
theorem dX2_init_50 : decode cX2_init 50 = .ok (.bipush 11, 2) := by decide +kernel
theorem dX2_init_52 : decode cX2_init 52 = .ok (.newarray .int, 2) := by decide +kernel
theorem dX2_init_54 : decode cX2_init 54 = .ok (.putfield 34, 3) := by decide +kernel
theorem dX2_init_57 : decode cX2_init 57 = .ok (.aload_n 0, 1) := by decide +kernel
theorem dX2_init_58 : decode cX2_init 58 = .ok (.iconst 0, 1) := by decide +kernel
theorem dX2_init_59 : decode cX2_init 59 = .ok (.putfield 37, 3) := by decide +kernel
theorem dX2_init_62 : decode cX2_init 62 = .ok (.aload_n 0, 1) := by decide +kernel
theorem dX2_init_63 : decode cX2_init 63 = .ok (.iconst 0, 1) := by decide +kernel
theorem dX2_init_64 : decode cX2_init 64 = .ok (.putfield 41, 3) := by decide +kernel
theorem dX2_init_67 : decode cX2_init 67 = .ok (.iconst 0, 1) := by decide +kernel
theorem dX2_init_68 : decode cX2_init 68 = .ok (.istore_n 1, 1) := by decide +kernel
theorem dX2_init_69 : decode cX2_init 69 = .ok (.iload_n 1, 1) := by decide +kernel
theorem dX2_init_70 : decode cX2_init 70 = .ok (.iconst 4, 1) := by decide +kernel
theorem dX2_init_71 : decode cX2_init 71 = .ok (.if_icmp .ge 22, 3) := by decide +kernel
theorem dX2_init_74 : decode cX2_init 74 = .ok (.aload_n 0, 1) := by decide +kernel
theorem dX2_init_75 : decode cX2_init 75 = .ok (.getfield 25, 3) := by decide +kernel
theorem dX2_init_78 : decode cX2_init 78 = .ok (.iload_n 1, 1) := by decide +kernel
theorem dX2_init_79 : decode cX2_init 79 = .ok (.new 23, 3) := by decide +kernel
theorem dX2_init_82 : decode cX2_init 82 = .ok (.dup, 1) := by decide +kernel
theorem dX2_init_83 : decode cX2_init 83 = .ok (.invokespecial 44, 3) := by decide +kernel
theorem dX2_init_86 : decode cX2_init 86 = .ok (.aastore, 1) := by decide +kernel
theorem dX2_init_87 : decode cX2_init 87 = .ok (.iinc 1 1, 3) := by decide +kernel
theorem dX2_init_90 : decode cX2_init 90 = .ok (.goto (-21), 3) := by decide +kernel
theorem dX2_init_93 : decode cX2_init 93 = .ok (.return_, 1) := by decide +kernel
theorem dX2_forgetTones_0 : decode cX2_forgetTones 0 = .ok (.aload_n 0, 1) := by decide +kernel
theorem dX2_forgetTones_1 : decode cX2_forgetTones 1 = .ok (.iconst 0, 1) := by decide +kernel
theorem dX2_forgetTones_2 : decode cX2_forgetTones 2 = .ok (.putfield 37, 3) := by decide +kernel
theorem dX2_forgetTones_5 : decode cX2_forgetTones 5 = .ok (.aload_n 0, 1) := by decide +kernel
theorem dX2_forgetTones_6 : decode cX2_forgetTones 6 = .ok (.iconst 0, 1) := by decide +kernel
theorem dX2_forgetTones_7 : decode cX2_forgetTones 7 = .ok (.putfield 41, 3) := by decide +kernel
theorem dX2_forgetTones_10 : decode cX2_forgetTones 10 = .ok (.return_, 1) := by decide +kernel
theorem dX2_forgetDots_0 : decode cX2_forgetDots 0 = .ok (.aload_n 0, 1) := by decide +kernel
theorem dX2_forgetDots_1 : decode cX2_forgetDots 1 = .ok (.iconst 0, 1) := by decide +kernel
theorem dX2_forgetDots_2 : decode cX2_forgetDots 2 = .ok (.putfield 41, 3) := by decide +kernel
theorem dX2_forgetDots_5 : decode cX2_forgetDots 5 = .ok (.return_, 1) := by decide +kernel
theorem dX2_update_0 : decode cX2_update 0 = .ok (.aload_n 0, 1) := by decide +kernel
theorem dX2_update_1 : decode cX2_update 1 = .ok (.getfield 37, 3) := by decide +kernel
theorem dX2_update_4 : decode cX2_update 4 = .ok (.ifCond .ne 30, 3) := by decide +kernel
theorem dX2_update_7 : decode cX2_update 7 = .ok (.iconst 0, 1) := by decide +kernel
theorem dX2_update_8 : decode cX2_update 8 = .ok (.istore_n 2, 1) := by decide +kernel
theorem dX2_update_9 : decode cX2_update 9 = .ok (.iload_n 2, 1) := by decide +kernel
theorem dX2_update_10 : decode cX2_update 10 = .ok (.aload_n 1, 1) := by decide +kernel
theorem dX2_update_11 : decode cX2_update 11 = .ok (.getfield 45, 3) := by decide +kernel
theorem dX2_update_14 : decode cX2_update 14 = .ok (.if_icmp .ge 15, 3) := by decide +kernel
theorem dX2_update_17 : decode cX2_update 17 = .ok (.aload_n 0, 1) := by decide +kernel
theorem dX2_update_18 : decode cX2_update 18 = .ok (.aload_n 1, 1) := by decide +kernel
theorem dX2_update_19 : decode cX2_update 19 = .ok (.iload_n 2, 1) := by decide +kernel
theorem dX2_update_20 : decode cX2_update 20 = .ok (.invokevirtual 51, 3) := by decide +kernel
theorem dX2_update_23 : decode cX2_update 23 = .ok (.iinc 2 1, 3) := by decide +kernel
theorem dX2_update_26 : decode cX2_update 26 = .ok (.goto (-17), 3) := by decide +kernel
theorem dX2_update_29 : decode cX2_update 29 = .ok (.aload_n 0, 1) := by decide +kernel
theorem dX2_update_30 : decode cX2_update 30 = .ok (.iconst 1, 1) := by decide +kernel
theorem dX2_update_31 : decode cX2_update 31 = .ok (.putfield 37, 3) := by decide +kernel
theorem dX2_update_34 : decode cX2_update 34 = .ok (.aload_n 0, 1) := by decide +kernel
theorem dX2_update_35 : decode cX2_update 35 = .ok (.getfield 41, 3) := by decide +kernel
theorem dX2_update_38 : decode cX2_update 38 = .ok (.ifCond .ne 38, 3) := by decide +kernel
theorem dX2_update_41 : decode cX2_update 41 = .ok (.aload_n 0, 1) := by decide +kernel
theorem dX2_update_42 : decode cX2_update 42 = .ok (.getfield 16, 3) := by decide +kernel
theorem dX2_update_45 : decode cX2_update 45 = .ok (.iconst 0, 1) := by decide +kernel
theorem dX2_update_46 : decode cX2_update 46 = .ok (.invokestatic 55, 3) := by decide +kernel
theorem dX2_update_49 : decode cX2_update 49 = .ok (.iconst 0, 1) := by decide +kernel
theorem dX2_update_50 : decode cX2_update 50 = .ok (.istore_n 2, 1) := by decide +kernel
theorem dX2_update_51 : decode cX2_update 51 = .ok (.iload_n 2, 1) := by decide +kernel
theorem dX2_update_52 : decode cX2_update 52 = .ok (.aload_n 1, 1) := by decide +kernel
theorem dX2_update_53 : decode cX2_update 53 = .ok (.getfield 45, 3) := by decide +kernel
theorem dX2_update_56 : decode cX2_update 56 = .ok (.if_icmp .ge 15, 3) := by decide +kernel
theorem dX2_update_59 : decode cX2_update 59 = .ok (.aload_n 0, 1) := by decide +kernel
theorem dX2_update_60 : decode cX2_update 60 = .ok (.aload_n 1, 1) := by decide +kernel
theorem dX2_update_61 : decode cX2_update 61 = .ok (.iload_n 2, 1) := by decide +kernel
theorem dX2_update_62 : decode cX2_update 62 = .ok (.invokevirtual 61, 3) := by decide +kernel
theorem dX2_update_65 : decode cX2_update 65 = .ok (.iinc 2 1, 3) := by decide +kernel
theorem dX2_update_68 : decode cX2_update 68 = .ok (.goto (-17), 3) := by decide +kernel
theorem dX2_update_71 : decode cX2_update 71 = .ok (.aload_n 0, 1) := by decide +kernel
theorem dX2_update_72 : decode cX2_update 72 = .ok (.iconst 1, 1) := by decide +kernel
theorem dX2_update_73 : decode cX2_update 73 = .ok (.putfield 41, 3) := by decide +kernel
theorem dX2_update_76 : decode cX2_update 76 = .ok (.return_, 1) := by decide +kernel
theorem dX2_takeTones_0 : decode cX2_takeTones 0 = .ok (.aload_n 1, 1) := by decide +kernel
theorem dX2_takeTones_1 : decode cX2_takeTones 1 = .ok (.getfield 64, 3) := by decide +kernel
theorem dX2_takeTones_4 : decode cX2_takeTones 4 = .ok (.iload_n 2, 1) := by decide +kernel
theorem dX2_takeTones_5 : decode cX2_takeTones 5 = .ok (.aaload, 1) := by decide +kernel
theorem dX2_takeTones_6 : decode cX2_takeTones 6 = .ok (.getfield 68, 3) := by decide +kernel
theorem dX2_takeTones_9 : decode cX2_takeTones 9 = .ok (.astore_n 3, 1) := by decide +kernel
theorem dX2_takeTones_10 : decode cX2_takeTones 10 = .ok (.aload_n 0, 1) := by decide +kernel
theorem dX2_takeTones_11 : decode cX2_takeTones 11 = .ok (.getfield 11, 3) := by decide +kernel
theorem dX2_takeTones_14 : decode cX2_takeTones 14 = .ok (.iload_n 2, 1) := by decide +kernel
theorem dX2_takeTones_15 : decode cX2_takeTones 15 = .ok (.aaload, 1) := by decide +kernel
theorem dX2_takeTones_16 : decode cX2_takeTones 16 = .ok (.astore 4, 2) := by decide +kernel
theorem dX2_takeTones_18 : decode cX2_takeTones 18 = .ok (.iconst 0, 1) := by decide +kernel
theorem dX2_takeTones_19 : decode cX2_takeTones 19 = .ok (.istore 5, 2) := by decide +kernel
theorem dX2_takeTones_21 : decode cX2_takeTones 21 = .ok (.iload 5, 2) := by decide +kernel
theorem dX2_takeTones_23 : decode cX2_takeTones 23 = .ok (.aload_n 1, 1) := by decide +kernel
theorem dX2_takeTones_24 : decode cX2_takeTones 24 = .ok (.getfield 74, 3) := by decide +kernel
theorem dX2_takeTones_27 : decode cX2_takeTones 27 = .ok (.if_icmp .ge 75, 3) := by decide +kernel
theorem dX2_takeTones_30 : decode cX2_takeTones 30 = .ok (.iconst 0, 1) := by decide +kernel
theorem dX2_takeTones_31 : decode cX2_takeTones 31 = .ok (.istore 6, 2) := by decide +kernel
theorem dX2_takeTones_33 : decode cX2_takeTones 33 = .ok (.iload 6, 2) := by decide +kernel
theorem dX2_takeTones_35 : decode cX2_takeTones 35 = .ok (.aload_n 1, 1) := by decide +kernel
theorem dX2_takeTones_36 : decode cX2_takeTones 36 = .ok (.getfield 77, 3) := by decide +kernel
theorem dX2_takeTones_39 : decode cX2_takeTones 39 = .ok (.if_icmp .ge 57, 3) := by decide +kernel
theorem dX2_takeTones_42 : decode cX2_takeTones 42 = .ok (.aload_n 1, 1) := by decide +kernel
theorem dX2_takeTones_43 : decode cX2_takeTones 43 = .ok (.iload 6, 2) := by decide +kernel
theorem dX2_takeTones_45 : decode cX2_takeTones 45 = .ok (.iload 5, 2) := by decide +kernel
theorem dX2_takeTones_47 : decode cX2_takeTones 47 = .ok (.invokevirtual 80, 3) := by decide +kernel
theorem dX2_takeTones_50 : decode cX2_takeTones 50 = .ok (.istore 7, 2) := by decide +kernel
theorem dX2_takeTones_52 : decode cX2_takeTones 52 = .ok (.aload_n 1, 1) := by decide +kernel
theorem dX2_takeTones_53 : decode cX2_takeTones 53 = .ok (.getfield 84, 3) := by decide +kernel
theorem dX2_takeTones_56 : decode cX2_takeTones 56 = .ok (.iload 7, 2) := by decide +kernel
theorem dX2_takeTones_58 : decode cX2_takeTones 58 = .ok (.iaload, 1) := by decide +kernel
theorem dX2_takeTones_59 : decode cX2_takeTones 59 = .ok (.istore 8, 2) := by decide +kernel
theorem dX2_takeTones_61 : decode cX2_takeTones 61 = .ok (.aload 4, 2) := by decide +kernel
theorem dX2_takeTones_63 : decode cX2_takeTones 63 = .ok (.iload 7, 2) := by decide +kernel
theorem dX2_takeTones_65 : decode cX2_takeTones 65 = .ok (.aload_n 3, 1) := by decide +kernel
theorem dX2_takeTones_66 : decode cX2_takeTones 66 = .ok (.ifnonnull 8, 3) := by decide +kernel
theorem dX2_takeTones_69 : decode cX2_takeTones 69 = .ok (.iload 8, 2) := by decide +kernel
theorem dX2_takeTones_71 : decode cX2_takeTones 71 = .ok (.goto 18, 3) := by decide +kernel
theorem dX2_takeTones_74 : decode cX2_takeTones 74 = .ok (.aload_n 3, 1) := by decide +kernel
theorem dX2_takeTones_75 : decode cX2_takeTones 75 = .ok (.aload_n 0, 1) := by decide +kernel
theorem dX2_takeTones_76 : decode cX2_takeTones 76 = .ok (.getfield 34, 3) := by decide +kernel
theorem dX2_takeTones_79 : decode cX2_takeTones 79 = .ok (.iload 8, 2) := by decide +kernel
theorem dX2_takeTones_81 : decode cX2_takeTones 81 = .ok (.iload 6, 2) := by decide +kernel
theorem dX2_takeTones_83 : decode cX2_takeTones 83 = .ok (.iload 5, 2) := by decide +kernel
theorem dX2_takeTones_85 : decode cX2_takeTones 85 = .ok (.iload_n 2, 1) := by decide +kernel
theorem dX2_takeTones_86 : decode cX2_takeTones 86 = .ok (.invokevirtual 86, 3) := by decide +kernel
theorem dX2_takeTones_89 : decode cX2_takeTones 89 = .ok (.iastore, 1) := by decide +kernel
theorem dX2_takeTones_90 : decode cX2_takeTones 90 = .ok (.iinc 6 1, 3) := by decide +kernel
theorem dX2_takeTones_93 : decode cX2_takeTones 93 = .ok (.goto (-60), 3) := by decide +kernel
theorem dX2_takeTones_96 : decode cX2_takeTones 96 = .ok (.iinc 5 1, 3) := by decide +kernel
theorem dX2_takeTones_99 : decode cX2_takeTones 99 = .ok (.goto (-78), 3) := by decide +kernel
theorem dX2_takeTones_102 : decode cX2_takeTones 102 = .ok (.return_, 1) := by decide +kernel
theorem dX2_putDots_0 : decode cX2_putDots 0 = .ok (.aload_n 0, 1) := by decide +kernel
theorem dX2_putDots_1 : decode cX2_putDots 1 = .ok (.getfield 25, 3) := by decide +kernel
theorem dX2_putDots_4 : decode cX2_putDots 4 = .ok (.iload_n 2, 1) := by decide +kernel
theorem dX2_putDots_5 : decode cX2_putDots 5 = .ok (.aaload, 1) := by decide +kernel
theorem dX2_putDots_6 : decode cX2_putDots 6 = .ok (.aload_n 1, 1) := by decide +kernel
theorem dX2_putDots_7 : decode cX2_putDots 7 = .ok (.getfield 64, 3) := by decide +kernel
theorem dX2_putDots_10 : decode cX2_putDots 10 = .ok (.iload_n 2, 1) := by decide +kernel
theorem dX2_putDots_11 : decode cX2_putDots 11 = .ok (.aaload, 1) := by decide +kernel
theorem dX2_putDots_12 : decode cX2_putDots 12 = .ok (.aload_n 0, 1) := by decide +kernel
theorem dX2_putDots_13 : decode cX2_putDots 13 = .ok (.getfield 29, 3) := by decide +kernel
theorem dX2_putDots_16 : decode cX2_putDots 16 = .ok (.invokevirtual 90, 3) := by decide +kernel
theorem dX2_putDots_19 : decode cX2_putDots 19 = .ok (.iconst 0, 1) := by decide +kernel
theorem dX2_putDots_20 : decode cX2_putDots 20 = .ok (.istore_n 3, 1) := by decide +kernel
theorem dX2_putDots_21 : decode cX2_putDots 21 = .ok (.iconst 0, 1) := by decide +kernel
theorem dX2_putDots_22 : decode cX2_putDots 22 = .ok (.istore 4, 2) := by decide +kernel
theorem dX2_putDots_24 : decode cX2_putDots 24 = .ok (.iload 4, 2) := by decide +kernel
theorem dX2_putDots_26 : decode cX2_putDots 26 = .ok (.aload_n 1, 1) := by decide +kernel
theorem dX2_putDots_27 : decode cX2_putDots 27 = .ok (.getfield 74, 3) := by decide +kernel
theorem dX2_putDots_30 : decode cX2_putDots 30 = .ok (.if_icmp .ge 105, 3) := by decide +kernel
theorem dX2_putDots_33 : decode cX2_putDots 33 = .ok (.iconst 0, 1) := by decide +kernel
theorem dX2_putDots_34 : decode cX2_putDots 34 = .ok (.istore 5, 2) := by decide +kernel
theorem dX2_putDots_36 : decode cX2_putDots 36 = .ok (.iload 5, 2) := by decide +kernel
theorem dX2_putDots_38 : decode cX2_putDots 38 = .ok (.aload_n 1, 1) := by decide +kernel
theorem dX2_putDots_39 : decode cX2_putDots 39 = .ok (.getfield 77, 3) := by decide +kernel
theorem dX2_putDots_42 : decode cX2_putDots 42 = .ok (.if_icmp .ge 87, 3) := by decide +kernel
theorem dX2_putDots_45 : decode cX2_putDots 45 = .ok (.aload_n 1, 1) := by decide +kernel
theorem dX2_putDots_46 : decode cX2_putDots 46 = .ok (.iload 5, 2) := by decide +kernel
theorem dX2_putDots_48 : decode cX2_putDots 48 = .ok (.iload 4, 2) := by decide +kernel
theorem dX2_putDots_50 : decode cX2_putDots 50 = .ok (.invokevirtual 80, 3) := by decide +kernel
theorem dX2_putDots_53 : decode cX2_putDots 53 = .ok (.istore 6, 2) := by decide +kernel
theorem dX2_putDots_55 : decode cX2_putDots 55 = .ok (.aload_n 0, 1) := by decide +kernel
theorem dX2_putDots_56 : decode cX2_putDots 56 = .ok (.getfield 16, 3) := by decide +kernel
theorem dX2_putDots_59 : decode cX2_putDots 59 = .ok (.iload 6, 2) := by decide +kernel
theorem dX2_putDots_61 : decode cX2_putDots 61 = .ok (.iaload, 1) := by decide +kernel
theorem dX2_putDots_62 : decode cX2_putDots 62 = .ok (.invokestatic 94, 3) := by decide +kernel
theorem dX2_putDots_65 : decode cX2_putDots 65 = .ok (.aload_n 1, 1) := by decide +kernel
theorem dX2_putDots_66 : decode cX2_putDots 66 = .ok (.getfield 100, 3) := by decide +kernel
theorem dX2_putDots_69 : decode cX2_putDots 69 = .ok (.if_icmp .ge 7, 3) := by decide +kernel
theorem dX2_putDots_72 : decode cX2_putDots 72 = .ok (.iconst 1, 1) := by decide +kernel
theorem dX2_putDots_73 : decode cX2_putDots 73 = .ok (.goto 4, 3) := by decide +kernel
theorem dX2_putDots_76 : decode cX2_putDots 76 = .ok (.iconst 0, 1) := by decide +kernel
theorem dX2_putDots_77 : decode cX2_putDots 77 = .ok (.istore 7, 2) := by decide +kernel
theorem dX2_putDots_79 : decode cX2_putDots 79 = .ok (.iload 7, 2) := by decide +kernel
theorem dX2_putDots_81 : decode cX2_putDots 81 = .ok (.ifCond .eq 42, 3) := by decide +kernel
theorem dX2_putDots_84 : decode cX2_putDots 84 = .ok (.aload_n 1, 1) := by decide +kernel
theorem dX2_putDots_85 : decode cX2_putDots 85 = .ok (.iload_n 2, 1) := by decide +kernel
theorem dX2_putDots_86 : decode cX2_putDots 86 = .ok (.iload 6, 2) := by decide +kernel
theorem dX2_putDots_88 : decode cX2_putDots 88 = .ok (.invokevirtual 103, 3) := by decide +kernel
theorem dX2_putDots_91 : decode cX2_putDots 91 = .ok (.ifCond .ne 32, 3) := by decide +kernel
theorem dX2_putDots_94 : decode cX2_putDots 94 = .ok (.aload_n 0, 1) := by decide +kernel
theorem dX2_putDots_95 : decode cX2_putDots 95 = .ok (.aload_n 1, 1) := by decide +kernel
theorem dX2_putDots_96 : decode cX2_putDots 96 = .ok (.iload_n 2, 1) := by decide +kernel
theorem dX2_putDots_97 : decode cX2_putDots 97 = .ok (.iload 5, 2) := by decide +kernel
theorem dX2_putDots_99 : decode cX2_putDots 99 = .ok (.iload 4, 2) := by decide +kernel
theorem dX2_putDots_101 : decode cX2_putDots 101 = .ok (.invokevirtual 107, 3) := by decide +kernel
theorem dX2_putDots_104 : decode cX2_putDots 104 = .ok (.ifCond .eq 19, 3) := by decide +kernel
theorem dX2_putDots_107 : decode cX2_putDots 107 = .ok (.aload_n 0, 1) := by decide +kernel
theorem dX2_putDots_108 : decode cX2_putDots 108 = .ok (.getfield 16, 3) := by decide +kernel
theorem dX2_putDots_111 : decode cX2_putDots 111 = .ok (.iload 6, 2) := by decide +kernel
theorem dX2_putDots_113 : decode cX2_putDots 113 = .ok (.dup2, 1) := by decide +kernel
theorem dX2_putDots_114 : decode cX2_putDots 114 = .ok (.iaload, 1) := by decide +kernel
theorem dX2_putDots_115 : decode cX2_putDots 115 = .ok (.iconst 1, 1) := by decide +kernel
theorem dX2_putDots_116 : decode cX2_putDots 116 = .ok (.iload_n 2, 1) := by decide +kernel
theorem dX2_putDots_117 : decode cX2_putDots 117 = .ok (.ishl, 1) := by decide +kernel
theorem dX2_putDots_118 : decode cX2_putDots 118 = .ok (.ior, 1) := by decide +kernel
theorem dX2_putDots_119 : decode cX2_putDots 119 = .ok (.iastore, 1) := by decide +kernel
theorem dX2_putDots_120 : decode cX2_putDots 120 = .ok (.iinc 3 1, 3) := by decide +kernel
theorem dX2_putDots_123 : decode cX2_putDots 123 = .ok (.iinc 5 1, 3) := by decide +kernel
theorem dX2_putDots_126 : decode cX2_putDots 126 = .ok (.goto (-90), 3) := by decide +kernel
theorem dX2_putDots_129 : decode cX2_putDots 129 = .ok (.iinc 4 1, 3) := by decide +kernel
theorem dX2_putDots_132 : decode cX2_putDots 132 = .ok (.goto (-108), 3) := by decide +kernel
theorem dX2_putDots_135 : decode cX2_putDots 135 = .ok (.aload_n 0, 1) := by decide +kernel
theorem dX2_putDots_136 : decode cX2_putDots 136 = .ok (.getfield 20, 3) := by decide +kernel
theorem dX2_putDots_139 : decode cX2_putDots 139 = .ok (.iload_n 2, 1) := by decide +kernel
theorem dX2_putDots_140 : decode cX2_putDots 140 = .ok (.iload_n 3, 1) := by decide +kernel
theorem dX2_putDots_141 : decode cX2_putDots 141 = .ok (.iastore, 1) := by decide +kernel
theorem dX2_putDots_142 : decode cX2_putDots 142 = .ok (.return_, 1) := by decide +kernel
theorem dX2_rankAt_0 : decode cX2_rankAt 0 = .ok (.aload_n 0, 1) := by decide +kernel
theorem dX2_rankAt_1 : decode cX2_rankAt 1 = .ok (.getfield 25, 3) := by decide +kernel
theorem dX2_rankAt_4 : decode cX2_rankAt 4 = .ok (.iload_n 2, 1) := by decide +kernel
theorem dX2_rankAt_5 : decode cX2_rankAt 5 = .ok (.aaload, 1) := by decide +kernel
theorem dX2_rankAt_6 : decode cX2_rankAt 6 = .ok (.iload_n 3, 1) := by decide +kernel
theorem dX2_rankAt_7 : decode cX2_rankAt 7 = .ok (.aload_n 1, 1) := by decide +kernel
theorem dX2_rankAt_8 : decode cX2_rankAt 8 = .ok (.getfield 64, 3) := by decide +kernel
theorem dX2_rankAt_11 : decode cX2_rankAt 11 = .ok (.iload_n 2, 1) := by decide +kernel
theorem dX2_rankAt_12 : decode cX2_rankAt 12 = .ok (.aaload, 1) := by decide +kernel
theorem dX2_rankAt_13 : decode cX2_rankAt 13 = .ok (.getfield 111, 3) := by decide +kernel
theorem dX2_rankAt_16 : decode cX2_rankAt 16 = .ok (.iadd, 1) := by decide +kernel
theorem dX2_rankAt_17 : decode cX2_rankAt 17 = .ok (.iload 4, 2) := by decide +kernel
theorem dX2_rankAt_19 : decode cX2_rankAt 19 = .ok (.aload_n 1, 1) := by decide +kernel
theorem dX2_rankAt_20 : decode cX2_rankAt 20 = .ok (.getfield 64, 3) := by decide +kernel
theorem dX2_rankAt_23 : decode cX2_rankAt 23 = .ok (.iload_n 2, 1) := by decide +kernel
theorem dX2_rankAt_24 : decode cX2_rankAt 24 = .ok (.aaload, 1) := by decide +kernel
theorem dX2_rankAt_25 : decode cX2_rankAt 25 = .ok (.getfield 114, 3) := by decide +kernel
theorem dX2_rankAt_28 : decode cX2_rankAt 28 = .ok (.iadd, 1) := by decide +kernel
theorem dX2_rankAt_29 : decode cX2_rankAt 29 = .ok (.invokevirtual 117, 3) := by decide +kernel
theorem dX2_rankAt_32 : decode cX2_rankAt 32 = .ok (.ireturn, 1) := by decide +kernel
theorem dX2_isDark_0 : decode cX2_isDark 0 = .ok (.aload_n 1, 1) := by decide +kernel
theorem dX2_isDark_1 : decode cX2_isDark 1 = .ok (.getfield 64, 3) := by decide +kernel
theorem dX2_isDark_4 : decode cX2_isDark 4 = .ok (.iload_n 2, 1) := by decide +kernel
theorem dX2_isDark_5 : decode cX2_isDark 5 = .ok (.aaload, 1) := by decide +kernel
theorem dX2_isDark_6 : decode cX2_isDark 6 = .ok (.invokevirtual 120, 3) := by decide +kernel
theorem dX2_isDark_9 : decode cX2_isDark 9 = .ok (.istore 5, 2) := by decide +kernel
theorem dX2_isDark_11 : decode cX2_isDark 11 = .ok (.aload_n 0, 1) := by decide +kernel
theorem dX2_isDark_12 : decode cX2_isDark 12 = .ok (.aload_n 1, 1) := by decide +kernel
theorem dX2_isDark_13 : decode cX2_isDark 13 = .ok (.iload_n 2, 1) := by decide +kernel
theorem dX2_isDark_14 : decode cX2_isDark 14 = .ok (.iload_n 3, 1) := by decide +kernel
theorem dX2_isDark_15 : decode cX2_isDark 15 = .ok (.iload 4, 2) := by decide +kernel
theorem dX2_isDark_17 : decode cX2_isDark 17 = .ok (.invokevirtual 124, 3) := by decide +kernel
theorem dX2_isDark_20 : decode cX2_isDark 20 = .ok (.bipush 100, 2) := by decide +kernel
theorem dX2_isDark_22 : decode cX2_isDark 22 = .ok (.imul, 1) := by decide +kernel
theorem dX2_isDark_23 : decode cX2_isDark 23 = .ok (.aload_n 0, 1) := by decide +kernel
theorem dX2_isDark_24 : decode cX2_isDark 24 = .ok (.getfield 11, 3) := by decide +kernel
theorem dX2_isDark_27 : decode cX2_isDark 27 = .ok (.iload_n 2, 1) := by decide +kernel
theorem dX2_isDark_28 : decode cX2_isDark 28 = .ok (.aaload, 1) := by decide +kernel
theorem dX2_isDark_29 : decode cX2_isDark 29 = .ok (.aload_n 1, 1) := by decide +kernel
theorem dX2_isDark_30 : decode cX2_isDark 30 = .ok (.iload_n 3, 1) := by decide +kernel
theorem dX2_isDark_31 : decode cX2_isDark 31 = .ok (.iload 4, 2) := by decide +kernel
theorem dX2_isDark_33 : decode cX2_isDark 33 = .ok (.invokevirtual 80, 3) := by decide +kernel
theorem dX2_isDark_36 : decode cX2_isDark 36 = .ok (.iaload, 1) := by decide +kernel
theorem dX2_isDark_37 : decode cX2_isDark 37 = .ok (.iload 5, 2) := by decide +kernel
theorem dX2_isDark_39 : decode cX2_isDark 39 = .ok (.imul, 1) := by decide +kernel
theorem dX2_isDark_40 : decode cX2_isDark 40 = .ok (.iload 5, 2) := by decide +kernel
theorem dX2_isDark_42 : decode cX2_isDark 42 = .ok (.imul, 1) := by decide +kernel
theorem dX2_isDark_43 : decode cX2_isDark 43 = .ok (.if_icmp .ge 7, 3) := by decide +kernel
theorem dX2_isDark_46 : decode cX2_isDark 46 = .ok (.iconst 1, 1) := by decide +kernel
theorem dX2_isDark_47 : decode cX2_isDark 47 = .ok (.goto 4, 3) := by decide +kernel
theorem dX2_isDark_50 : decode cX2_isDark 50 = .ok (.iconst 0, 1) := by decide +kernel
theorem dX2_isDark_51 : decode cX2_isDark 51 = .ok (.ireturn, 1) := by decide +kernel
theorem dX2_hasDot_0 : decode cX2_hasDot 0 = .ok (.aload_n 0, 1) := by decide +kernel
theorem dX2_hasDot_1 : decode cX2_hasDot 1 = .ok (.getfield 16, 3) := by decide +kernel
theorem dX2_hasDot_4 : decode cX2_hasDot 4 = .ok (.iload_n 2, 1) := by decide +kernel
theorem dX2_hasDot_5 : decode cX2_hasDot 5 = .ok (.iaload, 1) := by decide +kernel
theorem dX2_hasDot_6 : decode cX2_hasDot 6 = .ok (.iload_n 1, 1) := by decide +kernel
theorem dX2_hasDot_7 : decode cX2_hasDot 7 = .ok (.ishr, 1) := by decide +kernel
theorem dX2_hasDot_8 : decode cX2_hasDot 8 = .ok (.iconst 1, 1) := by decide +kernel
theorem dX2_hasDot_9 : decode cX2_hasDot 9 = .ok (.iand, 1) := by decide +kernel
theorem dX2_hasDot_10 : decode cX2_hasDot 10 = .ok (.iconst 1, 1) := by decide +kernel
theorem dX2_hasDot_11 : decode cX2_hasDot 11 = .ok (.if_icmp .ne 7, 3) := by decide +kernel
theorem dX2_hasDot_14 : decode cX2_hasDot 14 = .ok (.iconst 1, 1) := by decide +kernel
theorem dX2_hasDot_15 : decode cX2_hasDot 15 = .ok (.goto 4, 3) := by decide +kernel
theorem dX2_hasDot_18 : decode cX2_hasDot 18 = .ok (.iconst 0, 1) := by decide +kernel
theorem dX2_hasDot_19 : decode cX2_hasDot 19 = .ok (.ireturn, 1) := by decide +kernel
theorem dX2_isSpot_0 : decode cX2_isSpot 0 = .ok (.aload_n 0, 1) := by decide +kernel
theorem dX2_isSpot_1 : decode cX2_isSpot 1 = .ok (.aload_n 1, 1) := by decide +kernel
theorem dX2_isSpot_2 : decode cX2_isSpot 2 = .ok (.iload_n 2, 1) := by decide +kernel
theorem dX2_isSpot_3 : decode cX2_isSpot 3 = .ok (.iload_n 3, 1) := by decide +kernel
theorem dX2_isSpot_4 : decode cX2_isSpot 4 = .ok (.iload 4, 2) := by decide +kernel
theorem dX2_isSpot_6 : decode cX2_isSpot 6 = .ok (.invokevirtual 128, 3) := by decide +kernel
theorem dX2_isSpot_9 : decode cX2_isSpot 9 = .ok (.ifCond .eq 63, 3) := by decide +kernel
theorem dX2_isSpot_12 : decode cX2_isSpot 12 = .ok (.aload_n 0, 1) := by decide +kernel
theorem dX2_isSpot_13 : decode cX2_isSpot 13 = .ok (.aload_n 1, 1) := by decide +kernel
theorem dX2_isSpot_14 : decode cX2_isSpot 14 = .ok (.iload_n 2, 1) := by decide +kernel
theorem dX2_isSpot_15 : decode cX2_isSpot 15 = .ok (.iload_n 3, 1) := by decide +kernel
theorem dX2_isSpot_16 : decode cX2_isSpot 16 = .ok (.iload 4, 2) := by decide +kernel
theorem dX2_isSpot_18 : decode cX2_isSpot 18 = .ok (.iconst 1, 1) := by decide +kernel
theorem dX2_isSpot_19 : decode cX2_isSpot 19 = .ok (.isub, 1) := by decide +kernel
theorem dX2_isSpot_20 : decode cX2_isSpot 20 = .ok (.invokevirtual 128, 3) := by decide +kernel
theorem dX2_isSpot_23 : decode cX2_isSpot 23 = .ok (.ifCond .ne 49, 3) := by decide +kernel
theorem dX2_isSpot_26 : decode cX2_isSpot 26 = .ok (.aload_n 0, 1) := by decide +kernel
theorem dX2_isSpot_27 : decode cX2_isSpot 27 = .ok (.aload_n 1, 1) := by decide +kernel
theorem dX2_isSpot_28 : decode cX2_isSpot 28 = .ok (.iload_n 2, 1) := by decide +kernel
theorem dX2_isSpot_29 : decode cX2_isSpot 29 = .ok (.iload_n 3, 1) := by decide +kernel
theorem dX2_isSpot_30 : decode cX2_isSpot 30 = .ok (.iload 4, 2) := by decide +kernel
theorem dX2_isSpot_32 : decode cX2_isSpot 32 = .ok (.iconst 1, 1) := by decide +kernel
theorem dX2_isSpot_33 : decode cX2_isSpot 33 = .ok (.iadd, 1) := by decide +kernel
theorem dX2_isSpot_34 : decode cX2_isSpot 34 = .ok (.invokevirtual 128, 3) := by decide +kernel
theorem dX2_isSpot_37 : decode cX2_isSpot 37 = .ok (.ifCond .ne 35, 3) := by decide +kernel
theorem dX2_isSpot_40 : decode cX2_isSpot 40 = .ok (.aload_n 0, 1) := by decide +kernel
theorem dX2_isSpot_41 : decode cX2_isSpot 41 = .ok (.aload_n 1, 1) := by decide +kernel
theorem dX2_isSpot_42 : decode cX2_isSpot 42 = .ok (.iload_n 2, 1) := by decide +kernel
theorem dX2_isSpot_43 : decode cX2_isSpot 43 = .ok (.iload_n 3, 1) := by decide +kernel
theorem dX2_isSpot_44 : decode cX2_isSpot 44 = .ok (.iconst 1, 1) := by decide +kernel
theorem dX2_isSpot_45 : decode cX2_isSpot 45 = .ok (.isub, 1) := by decide +kernel
theorem dX2_isSpot_46 : decode cX2_isSpot 46 = .ok (.iload 4, 2) := by decide +kernel
theorem dX2_isSpot_48 : decode cX2_isSpot 48 = .ok (.invokevirtual 128, 3) := by decide +kernel
theorem dX2_isSpot_51 : decode cX2_isSpot 51 = .ok (.ifCond .ne 21, 3) := by decide +kernel
theorem dX2_isSpot_54 : decode cX2_isSpot 54 = .ok (.aload_n 0, 1) := by decide +kernel
theorem dX2_isSpot_55 : decode cX2_isSpot 55 = .ok (.aload_n 1, 1) := by decide +kernel
theorem dX2_isSpot_56 : decode cX2_isSpot 56 = .ok (.iload_n 2, 1) := by decide +kernel
theorem dX2_isSpot_57 : decode cX2_isSpot 57 = .ok (.iload_n 3, 1) := by decide +kernel
theorem dX2_isSpot_58 : decode cX2_isSpot 58 = .ok (.iconst 1, 1) := by decide +kernel
theorem dX2_isSpot_59 : decode cX2_isSpot 59 = .ok (.iadd, 1) := by decide +kernel
theorem dX2_isSpot_60 : decode cX2_isSpot 60 = .ok (.iload 4, 2) := by decide +kernel
theorem dX2_isSpot_62 : decode cX2_isSpot 62 = .ok (.invokevirtual 128, 3) := by decide +kernel
theorem dX2_isSpot_65 : decode cX2_isSpot 65 = .ok (.ifCond .ne 7, 3) := by decide +kernel
theorem dX2_isSpot_68 : decode cX2_isSpot 68 = .ok (.iconst 1, 1) := by decide +kernel
theorem dX2_isSpot_69 : decode cX2_isSpot 69 = .ok (.goto 4, 3) := by decide +kernel
theorem dX2_isSpot_72 : decode cX2_isSpot 72 = .ok (.iconst 0, 1) := by decide +kernel
theorem dX2_isSpot_73 : decode cX2_isSpot 73 = .ok (.ireturn, 1) := by decide +kernel
theorem dX2_isDotAt_0 : decode cX2_isDotAt 0 = .ok (.iload_n 3, 1) := by decide +kernel
theorem dX2_isDotAt_1 : decode cX2_isDotAt 1 = .ok (.ifCond .lt 44, 3) := by decide +kernel
theorem dX2_isDotAt_4 : decode cX2_isDotAt 4 = .ok (.iload_n 3, 1) := by decide +kernel
theorem dX2_isDotAt_5 : decode cX2_isDotAt 5 = .ok (.aload_n 1, 1) := by decide +kernel
theorem dX2_isDotAt_6 : decode cX2_isDotAt 6 = .ok (.getfield 77, 3) := by decide +kernel
theorem dX2_isDotAt_9 : decode cX2_isDotAt 9 = .ok (.if_icmp .ge 36, 3) := by decide +kernel
theorem dX2_isDotAt_12 : decode cX2_isDotAt 12 = .ok (.iload 4, 2) := by decide +kernel
theorem dX2_isDotAt_14 : decode cX2_isDotAt 14 = .ok (.ifCond .lt 31, 3) := by decide +kernel
theorem dX2_isDotAt_17 : decode cX2_isDotAt 17 = .ok (.iload 4, 2) := by decide +kernel
theorem dX2_isDotAt_19 : decode cX2_isDotAt 19 = .ok (.aload_n 1, 1) := by decide +kernel
theorem dX2_isDotAt_20 : decode cX2_isDotAt 20 = .ok (.getfield 74, 3) := by decide +kernel
theorem dX2_isDotAt_23 : decode cX2_isDotAt 23 = .ok (.if_icmp .ge 22, 3) := by decide +kernel
theorem dX2_isDotAt_26 : decode cX2_isDotAt 26 = .ok (.aload_n 0, 1) := by decide +kernel
theorem dX2_isDotAt_27 : decode cX2_isDotAt 27 = .ok (.iload_n 2, 1) := by decide +kernel
theorem dX2_isDotAt_28 : decode cX2_isDotAt 28 = .ok (.aload_n 1, 1) := by decide +kernel
theorem dX2_isDotAt_29 : decode cX2_isDotAt 29 = .ok (.iload_n 3, 1) := by decide +kernel
theorem dX2_isDotAt_30 : decode cX2_isDotAt 30 = .ok (.iload 4, 2) := by decide +kernel
theorem dX2_isDotAt_32 : decode cX2_isDotAt 32 = .ok (.invokevirtual 80, 3) := by decide +kernel
theorem dX2_isDotAt_35 : decode cX2_isDotAt 35 = .ok (.invokevirtual 131, 3) := by decide +kernel
theorem dX2_isDotAt_38 : decode cX2_isDotAt 38 = .ok (.ifCond .eq 7, 3) := by decide +kernel
theorem dX2_isDotAt_41 : decode cX2_isDotAt 41 = .ok (.iconst 1, 1) := by decide +kernel
theorem dX2_isDotAt_42 : decode cX2_isDotAt 42 = .ok (.goto 4, 3) := by decide +kernel
theorem dX2_isDotAt_45 : decode cX2_isDotAt 45 = .ok (.iconst 0, 1) := by decide +kernel
theorem dX2_isDotAt_46 : decode cX2_isDotAt 46 = .ok (.ireturn, 1) := by decide +kernel
theorem dX2_dotsOfAll_0 : decode cX2_dotsOfAll 0 = .ok (.iconst 0, 1) := by decide +kernel
theorem dX2_dotsOfAll_1 : decode cX2_dotsOfAll 1 = .ok (.istore_n 2, 1) := by decide +kernel
theorem dX2_dotsOfAll_2 : decode cX2_dotsOfAll 2 = .ok (.iconst 0, 1) := by decide +kernel
theorem dX2_dotsOfAll_3 : decode cX2_dotsOfAll 3 = .ok (.istore_n 3, 1) := by decide +kernel
theorem dX2_dotsOfAll_4 : decode cX2_dotsOfAll 4 = .ok (.iload_n 3, 1) := by decide +kernel
theorem dX2_dotsOfAll_5 : decode cX2_dotsOfAll 5 = .ok (.aload_n 1, 1) := by decide +kernel
theorem dX2_dotsOfAll_6 : decode cX2_dotsOfAll 6 = .ok (.getfield 45, 3) := by decide +kernel
theorem dX2_dotsOfAll_9 : decode cX2_dotsOfAll 9 = .ok (.if_icmp .ge 18, 3) := by decide +kernel
theorem dX2_dotsOfAll_12 : decode cX2_dotsOfAll 12 = .ok (.iload_n 2, 1) := by decide +kernel
theorem dX2_dotsOfAll_13 : decode cX2_dotsOfAll 13 = .ok (.aload_n 0, 1) := by decide +kernel
theorem dX2_dotsOfAll_14 : decode cX2_dotsOfAll 14 = .ok (.getfield 20, 3) := by decide +kernel
theorem dX2_dotsOfAll_17 : decode cX2_dotsOfAll 17 = .ok (.iload_n 3, 1) := by decide +kernel
theorem dX2_dotsOfAll_18 : decode cX2_dotsOfAll 18 = .ok (.iaload, 1) := by decide +kernel
theorem dX2_dotsOfAll_19 : decode cX2_dotsOfAll 19 = .ok (.iadd, 1) := by decide +kernel
theorem dX2_dotsOfAll_20 : decode cX2_dotsOfAll 20 = .ok (.istore_n 2, 1) := by decide +kernel
theorem dX2_dotsOfAll_21 : decode cX2_dotsOfAll 21 = .ok (.iinc 3 1, 3) := by decide +kernel
theorem dX2_dotsOfAll_24 : decode cX2_dotsOfAll 24 = .ok (.goto (-20), 3) := by decide +kernel
theorem dX2_dotsOfAll_27 : decode cX2_dotsOfAll 27 = .ok (.iload_n 2, 1) := by decide +kernel
theorem dX2_dotsOfAll_28 : decode cX2_dotsOfAll 28 = .ok (.ireturn, 1) := by decide +kernel
theorem dX2_cellsHaving_0 : decode cX2_cellsHaving 0 = .ok (.iconst 0, 1) := by decide +kernel
theorem dX2_cellsHaving_1 : decode cX2_cellsHaving 1 = .ok (.istore_n 3, 1) := by decide +kernel
theorem dX2_cellsHaving_2 : decode cX2_cellsHaving 2 = .ok (.iconst 0, 1) := by decide +kernel
theorem dX2_cellsHaving_3 : decode cX2_cellsHaving 3 = .ok (.istore 4, 2) := by decide +kernel
theorem dX2_cellsHaving_5 : decode cX2_cellsHaving 5 = .ok (.iload 4, 2) := by decide +kernel
theorem dX2_cellsHaving_7 : decode cX2_cellsHaving 7 = .ok (.aload_n 1, 1) := by decide +kernel
theorem dX2_cellsHaving_8 : decode cX2_cellsHaving 8 = .ok (.invokevirtual 137, 3) := by decide +kernel
theorem dX2_cellsHaving_11 : decode cX2_cellsHaving 11 = .ok (.if_icmp .ge 31, 3) := by decide +kernel
theorem dX2_cellsHaving_14 : decode cX2_cellsHaving 14 = .ok (.iload_n 3, 1) := by decide +kernel
theorem dX2_cellsHaving_15 : decode cX2_cellsHaving 15 = .ok (.aload_n 0, 1) := by decide +kernel
theorem dX2_cellsHaving_16 : decode cX2_cellsHaving 16 = .ok (.getfield 16, 3) := by decide +kernel
theorem dX2_cellsHaving_19 : decode cX2_cellsHaving 19 = .ok (.iload 4, 2) := by decide +kernel
theorem dX2_cellsHaving_21 : decode cX2_cellsHaving 21 = .ok (.iaload, 1) := by decide +kernel
theorem dX2_cellsHaving_22 : decode cX2_cellsHaving 22 = .ok (.invokestatic 94, 3) := by decide +kernel
theorem dX2_cellsHaving_25 : decode cX2_cellsHaving 25 = .ok (.iload_n 2, 1) := by decide +kernel
theorem dX2_cellsHaving_26 : decode cX2_cellsHaving 26 = .ok (.if_icmp .ne 7, 3) := by decide +kernel
theorem dX2_cellsHaving_29 : decode cX2_cellsHaving 29 = .ok (.iconst 1, 1) := by decide +kernel
theorem dX2_cellsHaving_30 : decode cX2_cellsHaving 30 = .ok (.goto 4, 3) := by decide +kernel
theorem dX2_cellsHaving_33 : decode cX2_cellsHaving 33 = .ok (.iconst 0, 1) := by decide +kernel
theorem dX2_cellsHaving_34 : decode cX2_cellsHaving 34 = .ok (.iadd, 1) := by decide +kernel
theorem dX2_cellsHaving_35 : decode cX2_cellsHaving 35 = .ok (.istore_n 3, 1) := by decide +kernel
theorem dX2_cellsHaving_36 : decode cX2_cellsHaving 36 = .ok (.iinc 4 1, 3) := by decide +kernel
theorem dX2_cellsHaving_39 : decode cX2_cellsHaving 39 = .ok (.goto (-34), 3) := by decide +kernel
theorem dX2_cellsHaving_42 : decode cX2_cellsHaving 42 = .ok (.iload_n 3, 1) := by decide +kernel
theorem dX2_cellsHaving_43 : decode cX2_cellsHaving 43 = .ok (.ireturn, 1) := by decide +kernel
theorem dX3_init_0 : decode cX3_init 0 = .ok (.aload_n 0, 1) := by decide +kernel
theorem dX3_init_1 : decode cX3_init 1 = .ok (.invokespecial 3, 3) := by decide +kernel
theorem dX3_init_4 : decode cX3_init 4 = .ok (.aload_n 0, 1) := by decide +kernel
theorem dX3_init_5 : decode cX3_init 5 = .ok (.iconst 0, 1) := by decide +kernel
theorem dX3_init_6 : decode cX3_init 6 = .ok (.putfield 9, 3) := by decide +kernel
theorem dX3_init_9 : decode cX3_init 9 = .ok (.aload_n 0, 1) := by decide +kernel
theorem dX3_init_10 : decode cX3_init 10 = .ok (.iconst 0, 1) := by decide +kernel
theorem dX3_init_11 : decode cX3_init 11 = .ok (.putfield 15, 3) := by decide +kernel
theorem dX3_init_14 : decode cX3_init 14 = .ok (.aload_n 0, 1) := by decide +kernel
theorem dX3_init_15 : decode cX3_init 15 = .ok (.iconst 0, 1) := by decide +kernel
theorem dX3_init_16 : decode cX3_init 16 = .ok (.putfield 18, 3) := by decide +kernel
theorem dX3_init_19 : decode cX3_init 19 = .ok (.aload_n 0, 1) := by decide +kernel
theorem dX3_init_20 : decode cX3_init 20 = .ok (.iconst (-1), 1) := by decide +kernel
theorem dX3_init_21 : decode cX3_init 21 = .ok (.putfield 21, 3) := by decide +kernel
theorem dX3_init_24 : decode cX3_init 24 = .ok (.aload_n 0, 1) := by decide +kernel
theorem dX3_init_25 : decode cX3_init 25 = .ok (.sipush 324, 3) := by decide +kernel
theorem dX3_init_28 : decode cX3_init 28 = .ok (.newarray .int, 2) := by decide +kernel
theorem dX3_init_30 : decode cX3_init 30 = .ok (.putfield 24, 3) := by decide +kernel
theorem dX3_init_33 : decode cX3_init 33 = .ok (.return_, 1) := by decide +kernel
theorem dX3_fit_0 : decode cX3_fit 0 = .ok (.aload_n 0, 1) := by decide +kernel
theorem dX3_fit_1 : decode cX3_fit 1 = .ok (.getfield 9, 3) := by decide +kernel
theorem dX3_fit_4 : decode cX3_fit 4 = .ok (.aload_n 1, 1) := by decide +kernel
theorem dX3_fit_5 : decode cX3_fit 5 = .ok (.getfield 28, 3) := by decide +kernel
theorem dX3_fit_8 : decode cX3_fit 8 = .ok (.if_icmp .ne 26, 3) := by decide +kernel
theorem dX3_fit_11 : decode cX3_fit 11 = .ok (.aload_n 0, 1) := by decide +kernel
theorem dX3_fit_12 : decode cX3_fit 12 = .ok (.getfield 15, 3) := by decide +kernel
theorem dX3_fit_15 : decode cX3_fit 15 = .ok (.aload_n 1, 1) := by decide +kernel
theorem dX3_fit_16 : decode cX3_fit 16 = .ok (.getfield 31, 3) := by decide +kernel
theorem dX3_fit_19 : decode cX3_fit 19 = .ok (.if_icmp .ne 15, 3) := by decide +kernel
theorem dX3_fit_22 : decode cX3_fit 22 = .ok (.aload_n 0, 1) := by decide +kernel
theorem dX3_fit_23 : decode cX3_fit 23 = .ok (.getfield 21, 3) := by decide +kernel
theorem dX3_fit_26 : decode cX3_fit 26 = .ok (.aload_n 1, 1) := by decide +kernel
theorem dX3_fit_27 : decode cX3_fit 27 = .ok (.getfield 32, 3) := by decide +kernel
theorem dX3_fit_30 : decode cX3_fit 30 = .ok (.if_icmp .ne 4, 3) := by decide +kernel
theorem dX3_fit_33 : decode cX3_fit 33 = .ok (.return_, 1) := by decide +kernel
theorem dX3_fit_34 : decode cX3_fit 34 = .ok (.aload_n 0, 1) := by decide +kernel
theorem dX3_fit_35 : decode cX3_fit 35 = .ok (.aload_n 1, 1) := by decide +kernel
theorem dX3_fit_36 : decode cX3_fit 36 = .ok (.getfield 28, 3) := by decide +kernel
theorem dX3_fit_39 : decode cX3_fit 39 = .ok (.putfield 9, 3) := by decide +kernel
theorem dX3_fit_42 : decode cX3_fit 42 = .ok (.aload_n 0, 1) := by decide +kernel
theorem dX3_fit_43 : decode cX3_fit 43 = .ok (.aload_n 1, 1) := by decide +kernel
theorem dX3_fit_44 : decode cX3_fit 44 = .ok (.getfield 31, 3) := by decide +kernel
theorem dX3_fit_47 : decode cX3_fit 47 = .ok (.putfield 15, 3) := by decide +kernel
theorem dX3_fit_50 : decode cX3_fit 50 = .ok (.aload_n 0, 1) := by decide +kernel
theorem dX3_fit_51 : decode cX3_fit 51 = .ok (.aload_n 1, 1) := by decide +kernel
theorem dX3_fit_52 : decode cX3_fit 52 = .ok (.invokevirtual 33, 3) := by decide +kernel
theorem dX3_fit_55 : decode cX3_fit 55 = .ok (.putfield 18, 3) := by decide +kernel
theorem dX3_fit_58 : decode cX3_fit 58 = .ok (.aload_n 0, 1) := by decide +kernel
theorem dX3_fit_59 : decode cX3_fit 59 = .ok (.aload_n 1, 1) := by decide +kernel
theorem dX3_fit_60 : decode cX3_fit 60 = .ok (.getfield 32, 3) := by decide +kernel
theorem dX3_fit_63 : decode cX3_fit 63 = .ok (.putfield 21, 3) := by decide +kernel
theorem dX3_fit_66 : decode cX3_fit 66 = .ok (.aload_n 2, 1) := by decide +kernel
theorem dX3_fit_67 : decode cX3_fit 67 = .ok (.iconst 0, 1) := by decide +kernel
theorem dX3_fit_68 : decode cX3_fit 68 = .ok (.invokestatic 36, 3) := by decide +kernel
theorem dX3_fit_71 : decode cX3_fit 71 = .ok (.iconst 0, 1) := by decide +kernel
theorem dX3_fit_72 : decode cX3_fit 72 = .ok (.istore_n 3, 1) := by decide +kernel
theorem dX3_fit_73 : decode cX3_fit 73 = .ok (.iload_n 3, 1) := by decide +kernel
theorem dX3_fit_74 : decode cX3_fit 74 = .ok (.aload_n 0, 1) := by decide +kernel
theorem dX3_fit_75 : decode cX3_fit 75 = .ok (.getfield 18, 3) := by decide +kernel
theorem dX3_fit_78 : decode cX3_fit 78 = .ok (.if_icmp .ge 42, 3) := by decide +kernel
theorem dX3_fit_81 : decode cX3_fit 81 = .ok (.iconst 0, 1) := by decide +kernel
theorem dX3_fit_82 : decode cX3_fit 82 = .ok (.istore 4, 2) := by decide +kernel
theorem dX3_fit_84 : decode cX3_fit 84 = .ok (.iload 4, 2) := by decide +kernel
theorem dX3_fit_86 : decode cX3_fit 86 = .ok (.aload_n 0, 1) := by decide +kernel
theorem dX3_fit_87 : decode cX3_fit 87 = .ok (.getfield 18, 3) := by decide +kernel
theorem dX3_fit_90 : decode cX3_fit 90 = .ok (.if_icmp .ge 24, 3) := by decide +kernel
theorem dX3_fit_93 : decode cX3_fit 93 = .ok (.aload_n 2, 1) := by decide +kernel
theorem dX3_fit_94 : decode cX3_fit 94 = .ok (.aload_n 0, 1) := by decide +kernel
theorem dX3_fit_95 : decode cX3_fit 95 = .ok (.iload 4, 2) := by decide +kernel
theorem dX3_fit_97 : decode cX3_fit 97 = .ok (.iload_n 3, 1) := by decide +kernel
theorem dX3_fit_98 : decode cX3_fit 98 = .ok (.invokevirtual 42, 3) := by decide +kernel
theorem dX3_fit_101 : decode cX3_fit 101 = .ok (.iconst 1, 1) := by decide +kernel
theorem dX3_fit_102 : decode cX3_fit 102 = .ok (.iadd, 1) := by decide +kernel
theorem dX3_fit_103 : decode cX3_fit 103 = .ok (.dup2, 1) := by decide +kernel
theorem dX3_fit_104 : decode cX3_fit 104 = .ok (.iaload, 1) := by decide +kernel
theorem dX3_fit_105 : decode cX3_fit 105 = .ok (.iconst 1, 1) := by decide +kernel
theorem dX3_fit_106 : decode cX3_fit 106 = .ok (.iadd, 1) := by decide +kernel
theorem dX3_fit_107 : decode cX3_fit 107 = .ok (.iastore, 1) := by decide +kernel
theorem dX3_fit_108 : decode cX3_fit 108 = .ok (.iinc 4 1, 3) := by decide +kernel
theorem dX3_fit_111 : decode cX3_fit 111 = .ok (.goto (-27), 3) := by decide +kernel
theorem dX3_fit_114 : decode cX3_fit 114 = .ok (.iinc 3 1, 3) := by decide +kernel
theorem dX3_fit_117 : decode cX3_fit 117 = .ok (.goto (-44), 3) := by decide +kernel
theorem dX3_fit_120 : decode cX3_fit 120 = .ok (.iconst 1, 1) := by decide +kernel
theorem dX3_fit_121 : decode cX3_fit 121 = .ok (.istore_n 3, 1) := by decide +kernel
theorem dX3_fit_122 : decode cX3_fit 122 = .ok (.iload_n 3, 1) := by decide +kernel
theorem dX3_fit_123 : decode cX3_fit 123 = .ok (.aload_n 2, 1) := by decide +kernel
theorem dX3_fit_124 : decode cX3_fit 124 = .ok (.arraylength, 1) := by decide +kernel
theorem dX3_fit_125 : decode cX3_fit 125 = .ok (.if_icmp .ge 20, 3) := by decide +kernel
theorem dX3_fit_128 : decode cX3_fit 128 = .ok (.aload_n 2, 1) := by decide +kernel
theorem dX3_fit_129 : decode cX3_fit 129 = .ok (.iload_n 3, 1) := by decide +kernel
theorem dX3_fit_130 : decode cX3_fit 130 = .ok (.dup2, 1) := by decide +kernel
theorem dX3_fit_131 : decode cX3_fit 131 = .ok (.iaload, 1) := by decide +kernel
theorem dX3_fit_132 : decode cX3_fit 132 = .ok (.aload_n 2, 1) := by decide +kernel
theorem dX3_fit_133 : decode cX3_fit 133 = .ok (.iload_n 3, 1) := by decide +kernel
theorem dX3_fit_134 : decode cX3_fit 134 = .ok (.iconst 1, 1) := by decide +kernel
theorem dX3_fit_135 : decode cX3_fit 135 = .ok (.isub, 1) := by decide +kernel
theorem dX3_fit_136 : decode cX3_fit 136 = .ok (.iaload, 1) := by decide +kernel
theorem dX3_fit_137 : decode cX3_fit 137 = .ok (.iadd, 1) := by decide +kernel
theorem dX3_fit_138 : decode cX3_fit 138 = .ok (.iastore, 1) := by decide +kernel
theorem dX3_fit_139 : decode cX3_fit 139 = .ok (.iinc 3 1, 3) := by decide +kernel
theorem dX3_fit_142 : decode cX3_fit 142 = .ok (.goto (-20), 3) := by decide +kernel
theorem dX3_fit_145 : decode cX3_fit 145 = .ok (.iconst 0, 1) := by decide +kernel
theorem dX3_fit_146 : decode cX3_fit 146 = .ok (.istore_n 3, 1) := by decide +kernel
theorem dX3_fit_147 : decode cX3_fit 147 = .ok (.iload_n 3, 1) := by decide +kernel
theorem dX3_fit_148 : decode cX3_fit 148 = .ok (.aload_n 0, 1) := by decide +kernel
theorem dX3_fit_149 : decode cX3_fit 149 = .ok (.getfield 18, 3) := by decide +kernel
theorem dX3_fit_152 : decode cX3_fit 152 = .ok (.if_icmp .ge 62, 3) := by decide +kernel
theorem dX3_fit_155 : decode cX3_fit 155 = .ok (.iconst 0, 1) := by decide +kernel
theorem dX3_fit_156 : decode cX3_fit 156 = .ok (.istore 4, 2) := by decide +kernel
theorem dX3_fit_158 : decode cX3_fit 158 = .ok (.iload 4, 2) := by decide +kernel
theorem dX3_fit_160 : decode cX3_fit 160 = .ok (.aload_n 0, 1) := by decide +kernel
theorem dX3_fit_161 : decode cX3_fit 161 = .ok (.getfield 18, 3) := by decide +kernel
theorem dX3_fit_164 : decode cX3_fit 164 = .ok (.if_icmp .ge 44, 3) := by decide +kernel
theorem dX3_fit_167 : decode cX3_fit 167 = .ok (.aload_n 0, 1) := by decide +kernel
theorem dX3_fit_168 : decode cX3_fit 168 = .ok (.iload 4, 2) := by decide +kernel
theorem dX3_fit_170 : decode cX3_fit 170 = .ok (.iload_n 3, 1) := by decide +kernel
theorem dX3_fit_171 : decode cX3_fit 171 = .ok (.invokevirtual 42, 3) := by decide +kernel
theorem dX3_fit_174 : decode cX3_fit 174 = .ok (.istore 5, 2) := by decide +kernel
theorem dX3_fit_176 : decode cX3_fit 176 = .ok (.aload_n 0, 1) := by decide +kernel
theorem dX3_fit_177 : decode cX3_fit 177 = .ok (.getfield 24, 3) := by decide +kernel
theorem dX3_fit_180 : decode cX3_fit 180 = .ok (.iload_n 3, 1) := by decide +kernel
theorem dX3_fit_181 : decode cX3_fit 181 = .ok (.aload_n 0, 1) := by decide +kernel
theorem dX3_fit_182 : decode cX3_fit 182 = .ok (.getfield 18, 3) := by decide +kernel
theorem dX3_fit_185 : decode cX3_fit 185 = .ok (.imul, 1) := by decide +kernel
theorem dX3_fit_186 : decode cX3_fit 186 = .ok (.iload 4, 2) := by decide +kernel
theorem dX3_fit_188 : decode cX3_fit 188 = .ok (.iadd, 1) := by decide +kernel
theorem dX3_fit_189 : decode cX3_fit 189 = .ok (.aload_n 2, 1) := by decide +kernel
theorem dX3_fit_190 : decode cX3_fit 190 = .ok (.iload 5, 2) := by decide +kernel
theorem dX3_fit_192 : decode cX3_fit 192 = .ok (.iaload, 1) := by decide +kernel
theorem dX3_fit_193 : decode cX3_fit 193 = .ok (.iastore, 1) := by decide +kernel
theorem dX3_fit_194 : decode cX3_fit 194 = .ok (.aload_n 2, 1) := by decide +kernel
theorem dX3_fit_195 : decode cX3_fit 195 = .ok (.iload 5, 2) := by decide +kernel
theorem dX3_fit_197 : decode cX3_fit 197 = .ok (.dup2, 1) := by decide +kernel
theorem dX3_fit_198 : decode cX3_fit 198 = .ok (.iaload, 1) := by decide +kernel
theorem dX3_fit_199 : decode cX3_fit 199 = .ok (.iconst 1, 1) := by decide +kernel
theorem dX3_fit_200 : decode cX3_fit 200 = .ok (.iadd, 1) := by decide +kernel
theorem dX3_fit_201 : decode cX3_fit 201 = .ok (.iastore, 1) := by decide +kernel
theorem dX3_fit_202 : decode cX3_fit 202 = .ok (.iinc 4 1, 3) := by decide +kernel
theorem dX3_fit_205 : decode cX3_fit 205 = .ok (.goto (-47), 3) := by decide +kernel
theorem dX3_fit_208 : decode cX3_fit 208 = .ok (.iinc 3 1, 3) := by decide +kernel
theorem dX3_fit_211 : decode cX3_fit 211 = .ok (.goto (-64), 3) := by decide +kernel
theorem dX3_fit_214 : decode cX3_fit 214 = .ok (.return_, 1) := by decide +kernel
theorem dX3_rankOf_0 : decode cX3_rankOf 0 = .ok (.aload_n 0, 1) := by decide +kernel
theorem dX3_rankOf_1 : decode cX3_rankOf 1 = .ok (.getfield 18, 3) := by decide +kernel
theorem dX3_rankOf_4 : decode cX3_rankOf 4 = .ok (.iconst 1, 1) := by decide +kernel
theorem dX3_rankOf_5 : decode cX3_rankOf 5 = .ok (.if_icmp .ge 7, 3) := by decide +kernel
theorem dX3_rankOf_8 : decode cX3_rankOf 8 = .ok (.iconst 0, 1) := by decide +kernel
theorem dX3_rankOf_9 : decode cX3_rankOf 9 = .ok (.goto 26, 3) := by decide +kernel
theorem dX3_rankOf_12 : decode cX3_rankOf 12 = .ok (.aload_n 0, 1) := by decide +kernel
theorem dX3_rankOf_13 : decode cX3_rankOf 13 = .ok (.getfield 24, 3) := by decide +kernel
theorem dX3_rankOf_16 : decode cX3_rankOf 16 = .ok (.iload_n 2, 1) := by decide +kernel
theorem dX3_rankOf_17 : decode cX3_rankOf 17 = .ok (.aload_n 0, 1) := by decide +kernel
theorem dX3_rankOf_18 : decode cX3_rankOf 18 = .ok (.getfield 18, 3) := by decide +kernel
theorem dX3_rankOf_21 : decode cX3_rankOf 21 = .ok (.irem, 1) := by decide +kernel
theorem dX3_rankOf_22 : decode cX3_rankOf 22 = .ok (.aload_n 0, 1) := by decide +kernel
theorem dX3_rankOf_23 : decode cX3_rankOf 23 = .ok (.getfield 18, 3) := by decide +kernel
theorem dX3_rankOf_26 : decode cX3_rankOf 26 = .ok (.imul, 1) := by decide +kernel
theorem dX3_rankOf_27 : decode cX3_rankOf 27 = .ok (.iload_n 1, 1) := by decide +kernel
theorem dX3_rankOf_28 : decode cX3_rankOf 28 = .ok (.aload_n 0, 1) := by decide +kernel
theorem dX3_rankOf_29 : decode cX3_rankOf 29 = .ok (.getfield 18, 3) := by decide +kernel
theorem dX3_rankOf_32 : decode cX3_rankOf 32 = .ok (.irem, 1) := by decide +kernel
theorem dX3_rankOf_33 : decode cX3_rankOf 33 = .ok (.iadd, 1) := by decide +kernel
theorem dX3_rankOf_34 : decode cX3_rankOf 34 = .ok (.iaload, 1) := by decide +kernel
theorem dX3_rankOf_35 : decode cX3_rankOf 35 = .ok (.ireturn, 1) := by decide +kernel
theorem dX3_measureAt_0 : decode cX3_measureAt 0 = .ok (.iconst 2, 1) := by decide +kernel
theorem dX3_measureAt_1 : decode cX3_measureAt 1 = .ok (.aload_n 0, 1) := by decide +kernel
theorem dX3_measureAt_2 : decode cX3_measureAt 2 = .ok (.getfield 9, 3) := by decide +kernel
theorem dX3_measureAt_5 : decode cX3_measureAt 5 = .ok (.iload_n 1, 1) := by decide +kernel
theorem dX3_measureAt_6 : decode cX3_measureAt 6 = .ok (.imul, 1) := by decide +kernel
theorem dX3_measureAt_7 : decode cX3_measureAt 7 = .ok (.aload_n 0, 1) := by decide +kernel
theorem dX3_measureAt_8 : decode cX3_measureAt 8 = .ok (.getfield 15, 3) := by decide +kernel
theorem dX3_measureAt_11 : decode cX3_measureAt 11 = .ok (.iload_n 2, 1) := by decide +kernel
theorem dX3_measureAt_12 : decode cX3_measureAt 12 = .ok (.imul, 1) := by decide +kernel
theorem dX3_measureAt_13 : decode cX3_measureAt 13 = .ok (.iadd, 1) := by decide +kernel
theorem dX3_measureAt_14 : decode cX3_measureAt 14 = .ok (.aload_n 0, 1) := by decide +kernel
theorem dX3_measureAt_15 : decode cX3_measureAt 15 = .ok (.getfield 18, 3) := by decide +kernel
theorem dX3_measureAt_18 : decode cX3_measureAt 18 = .ok (.invokestatic 46, 3) := by decide +kernel
theorem dX3_measureAt_21 : decode cX3_measureAt 21 = .ok (.imul, 1) := by decide +kernel
theorem dX3_measureAt_22 : decode cX3_measureAt 22 = .ok (.aload_n 0, 1) := by decide +kernel
theorem dX3_measureAt_23 : decode cX3_measureAt 23 = .ok (.getfield 18, 3) := by decide +kernel
theorem dX3_measureAt_26 : decode cX3_measureAt 26 = .ok (.isub, 1) := by decide +kernel
theorem dX3_measureAt_27 : decode cX3_measureAt 27 = .ok (.istore_n 3, 1) := by decide +kernel
theorem dX3_measureAt_28 : decode cX3_measureAt 28 = .ok (.iconst 2, 1) := by decide +kernel
theorem dX3_measureAt_29 : decode cX3_measureAt 29 = .ok (.aload_n 0, 1) := by decide +kernel
theorem dX3_measureAt_30 : decode cX3_measureAt 30 = .ok (.getfield 9, 3) := by decide +kernel
theorem dX3_measureAt_33 : decode cX3_measureAt 33 = .ok (.iload_n 2, 1) := by decide +kernel
theorem dX3_measureAt_34 : decode cX3_measureAt 34 = .ok (.imul, 1) := by decide +kernel
theorem dX3_measureAt_35 : decode cX3_measureAt 35 = .ok (.aload_n 0, 1) := by decide +kernel
theorem dX3_measureAt_36 : decode cX3_measureAt 36 = .ok (.getfield 15, 3) := by decide +kernel
theorem dX3_measureAt_39 : decode cX3_measureAt 39 = .ok (.iload_n 1, 1) := by decide +kernel
theorem dX3_measureAt_40 : decode cX3_measureAt 40 = .ok (.imul, 1) := by decide +kernel
theorem dX3_measureAt_41 : decode cX3_measureAt 41 = .ok (.isub, 1) := by decide +kernel
theorem dX3_measureAt_42 : decode cX3_measureAt 42 = .ok (.aload_n 0, 1) := by decide +kernel
theorem dX3_measureAt_43 : decode cX3_measureAt 43 = .ok (.getfield 18, 3) := by decide +kernel
theorem dX3_measureAt_46 : decode cX3_measureAt 46 = .ok (.invokestatic 46, 3) := by decide +kernel
theorem dX3_measureAt_49 : decode cX3_measureAt 49 = .ok (.imul, 1) := by decide +kernel
theorem dX3_measureAt_50 : decode cX3_measureAt 50 = .ok (.aload_n 0, 1) := by decide +kernel
theorem dX3_measureAt_51 : decode cX3_measureAt 51 = .ok (.getfield 18, 3) := by decide +kernel
theorem dX3_measureAt_54 : decode cX3_measureAt 54 = .ok (.isub, 1) := by decide +kernel
theorem dX3_measureAt_55 : decode cX3_measureAt 55 = .ok (.istore 4, 2) := by decide +kernel
theorem dX3_measureAt_57 : decode cX3_measureAt 57 = .ok (.aload_n 0, 1) := by decide +kernel
theorem dX3_measureAt_58 : decode cX3_measureAt 58 = .ok (.getfield 21, 3) := by decide +kernel
theorem dX3_measureAt_61 : decode cX3_measureAt 61 = .ok (.tableswitch 53 0 2 #[27, 37, 42], 27) := by decide +kernel
theorem dX3_measureAt_88 : decode cX3_measureAt 88 = .ok (.iload_n 3, 1) := by decide +kernel
theorem dX3_measureAt_89 : decode cX3_measureAt 89 = .ok (.iload_n 3, 1) := by decide +kernel
theorem dX3_measureAt_90 : decode cX3_measureAt 90 = .ok (.imul, 1) := by decide +kernel
theorem dX3_measureAt_91 : decode cX3_measureAt 91 = .ok (.iload 4, 2) := by decide +kernel
theorem dX3_measureAt_93 : decode cX3_measureAt 93 = .ok (.iload 4, 2) := by decide +kernel
theorem dX3_measureAt_95 : decode cX3_measureAt 95 = .ok (.imul, 1) := by decide +kernel
theorem dX3_measureAt_96 : decode cX3_measureAt 96 = .ok (.iadd, 1) := by decide +kernel
theorem dX3_measureAt_97 : decode cX3_measureAt 97 = .ok (.ireturn, 1) := by decide +kernel
theorem dX3_measureAt_98 : decode cX3_measureAt 98 = .ok (.iload_n 3, 1) := by decide +kernel
theorem dX3_measureAt_99 : decode cX3_measureAt 99 = .ok (.invokestatic 49, 3) := by decide +kernel
theorem dX3_measureAt_102 : decode cX3_measureAt 102 = .ok (.ireturn, 1) := by decide +kernel
theorem dX3_measureAt_103 : decode cX3_measureAt 103 = .ok (.iload_n 3, 1) := by decide +kernel
theorem dX3_measureAt_104 : decode cX3_measureAt 104 = .ok (.invokestatic 49, 3) := by decide +kernel
theorem dX3_measureAt_107 : decode cX3_measureAt 107 = .ok (.iload 4, 2) := by decide +kernel
theorem dX3_measureAt_109 : decode cX3_measureAt 109 = .ok (.invokestatic 49, 3) := by decide +kernel
theorem dX3_measureAt_112 : decode cX3_measureAt 112 = .ok (.iadd, 1) := by decide +kernel
theorem dX3_measureAt_113 : decode cX3_measureAt 113 = .ok (.ireturn, 1) := by decide +kernel
theorem dX3_measureAt_114 : decode cX3_measureAt 114 = .ok (.iload_n 3, 1) := by decide +kernel
theorem dX3_measureAt_115 : decode cX3_measureAt 115 = .ok (.invokestatic 49, 3) := by decide +kernel
theorem dX3_measureAt_118 : decode cX3_measureAt 118 = .ok (.iload 4, 2) := by decide +kernel
theorem dX3_measureAt_120 : decode cX3_measureAt 120 = .ok (.invokestatic 49, 3) := by decide +kernel
theorem dX3_measureAt_123 : decode cX3_measureAt 123 = .ok (.invokestatic 55, 3) := by decide +kernel
theorem dX3_measureAt_126 : decode cX3_measureAt 126 = .ok (.ireturn, 1) := by decide +kernel
theorem dX4_init_0 : decode cX4_init 0 = .ok (.aload_n 0, 1) := by decide +kernel
theorem dX4_init_1 : decode cX4_init 1 = .ok (.invokespecial 3, 3) := by decide +kernel
theorem dX4_init_4 : decode cX4_init 4 = .ok (.aload_n 0, 1) := by decide +kernel
theorem dX4_init_5 : decode cX4_init 5 = .ok (.sipush 600, 3) := by decide +kernel
theorem dX4_init_8 : decode cX4_init 8 = .ok (.newarray .int, 2) := by decide +kernel
theorem dX4_init_10 : decode cX4_init 10 = .ok (.putfield 9, 3) := by decide +kernel
theorem dX4_init_13 : decode cX4_init 13 = .ok (.return_, 1) := by decide +kernel
theorem dX4_read_0 : decode cX4_read 0 = .ok (.aload_n 0, 1) := by decide +kernel
theorem dX4_read_1 : decode cX4_read 1 = .ok (.aload_n 1, 1) := by decide +kernel
theorem dX4_read_2 : decode cX4_read 2 = .ok (.putfield 15, 3) := by decide +kernel
theorem dX4_read_5 : decode cX4_read 5 = .ok (.aload_n 0, 1) := by decide +kernel
theorem dX4_read_6 : decode cX4_read 6 = .ok (.iload_n 2, 1) := by decide +kernel
theorem dX4_read_7 : decode cX4_read 7 = .ok (.aload_n 1, 1) := by decide +kernel
theorem dX4_read_8 : decode cX4_read 8 = .ok (.arraylength, 1) := by decide +kernel
theorem dX4_read_9 : decode cX4_read 9 = .ok (.invokestatic 19, 3) := by decide +kernel
theorem dX4_read_12 : decode cX4_read 12 = .ok (.putfield 25, 3) := by decide +kernel
theorem dX4_read_15 : decode cX4_read 15 = .ok (.aload_n 0, 1) := by decide +kernel
theorem dX4_read_16 : decode cX4_read 16 = .ok (.aload_n 3, 1) := by decide +kernel
theorem dX4_read_17 : decode cX4_read 17 = .ok (.putfield 29, 3) := by decide +kernel
theorem dX4_read_20 : decode cX4_read 20 = .ok (.aload_n 0, 1) := by decide +kernel
theorem dX4_read_21 : decode cX4_read 21 = .ok (.iconst 0, 1) := by decide +kernel
theorem dX4_read_22 : decode cX4_read 22 = .ok (.putfield 33, 3) := by decide +kernel
theorem dX4_read_25 : decode cX4_read 25 = .ok (.aload_n 0, 1) := by decide +kernel
theorem dX4_read_26 : decode cX4_read 26 = .ok (.iconst (-1), 1) := by decide +kernel
theorem dX4_read_27 : decode cX4_read 27 = .ok (.putfield 36, 3) := by decide +kernel
theorem dX4_read_30 : decode cX4_read 30 = .ok (.aload_n 0, 1) := by decide +kernel
theorem dX4_read_31 : decode cX4_read 31 = .ok (.iconst 0, 1) := by decide +kernel
theorem dX4_read_32 : decode cX4_read 32 = .ok (.putfield 39, 3) := by decide +kernel
theorem dX4_read_35 : decode cX4_read 35 = .ok (.aload_n 0, 1) := by decide +kernel
theorem dX4_read_36 : decode cX4_read 36 = .ok (.iconst 0, 1) := by decide +kernel
theorem dX4_read_37 : decode cX4_read 37 = .ok (.putfield 43, 3) := by decide +kernel
theorem dX4_read_40 : decode cX4_read 40 = .ok (.aload_n 0, 1) := by decide +kernel
theorem dX4_read_41 : decode cX4_read 41 = .ok (.iconst 0, 1) := by decide +kernel
theorem dX4_read_42 : decode cX4_read 42 = .ok (.putfield 46, 3) := by decide +kernel
theorem dX4_read_45 : decode cX4_read 45 = .ok (.aload_n 0, 1) := by decide +kernel
theorem dX4_read_46 : decode cX4_read 46 = .ok (.invokevirtual 49, 3) := by decide +kernel
theorem dX4_read_49 : decode cX4_read 49 = .ok (.aload_n 0, 1) := by decide +kernel
theorem dX4_read_50 : decode cX4_read 50 = .ok (.invokevirtual 52, 3) := by decide +kernel
theorem dX4_read_53 : decode cX4_read 53 = .ok (.ifCond .ne 5, 3) := by decide +kernel
theorem dX4_read_56 : decode cX4_read 56 = .ok (.iconst 0, 1) := by decide +kernel
theorem dX4_read_57 : decode cX4_read 57 = .ok (.ireturn, 1) := by decide +kernel
theorem dX4_read_58 : decode cX4_read 58 = .ok (.iconst 0, 1) := by decide +kernel
theorem dX4_read_59 : decode cX4_read 59 = .ok (.istore 4, 2) := by decide +kernel
theorem dX4_read_61 : decode cX4_read 61 = .ok (.iload 4, 2) := by decide +kernel
theorem dX4_read_63 : decode cX4_read 63 = .ok (.aload_n 0, 1) := by decide +kernel
theorem dX4_read_64 : decode cX4_read 64 = .ok (.getfield 25, 3) := by decide +kernel
theorem dX4_read_67 : decode cX4_read 67 = .ok (.if_icmp .ge 34, 3) := by decide +kernel
theorem dX4_read_70 : decode cX4_read 70 = .ok (.aload_n 0, 1) := by decide +kernel
theorem dX4_read_71 : decode cX4_read 71 = .ok (.getfield 56, 3) := by decide +kernel
theorem dX4_read_74 : decode cX4_read 74 = .ok (.ifCond .eq 27, 3) := by decide +kernel
theorem dX4_read_77 : decode cX4_read 77 = .ok (.aload_n 0, 1) := by decide +kernel
theorem dX4_read_78 : decode cX4_read 78 = .ok (.invokevirtual 59, 3) := by decide +kernel
theorem dX4_read_81 : decode cX4_read 81 = .ok (.ifCond .eq 12, 3) := by decide +kernel
theorem dX4_read_84 : decode cX4_read 84 = .ok (.aload_n 0, 1) := by decide +kernel
theorem dX4_read_85 : decode cX4_read 85 = .ok (.bipush 59, 2) := by decide +kernel
theorem dX4_read_87 : decode cX4_read 87 = .ok (.invokevirtual 62, 3) := by decide +kernel
theorem dX4_read_90 : decode cX4_read 90 = .ok (.ifCond .ne 5, 3) := by decide +kernel
theorem dX4_read_93 : decode cX4_read 93 = .ok (.iconst 0, 1) := by decide +kernel
theorem dX4_read_94 : decode cX4_read 94 = .ok (.ireturn, 1) := by decide +kernel
theorem dX4_read_95 : decode cX4_read 95 = .ok (.iinc 4 1, 3) := by decide +kernel
theorem dX4_read_98 : decode cX4_read 98 = .ok (.goto (-37), 3) := by decide +kernel
theorem dX4_read_101 : decode cX4_read 101 = .ok (.iconst 1, 1) := by decide +kernel
theorem dX4_read_102 : decode cX4_read 102 = .ok (.ireturn, 1) := by decide +kernel
theorem dX4_readPicture_0 : decode cX4_readPicture 0 = .ok (.aload_n 0, 1) := by decide +kernel
theorem dX4_readPicture_1 : decode cX4_readPicture 1 = .ok (.ldc 66, 2) := by decide +kernel
theorem dX4_readPicture_3 : decode cX4_readPicture 3 = .ok (.invokevirtual 68, 3) := by decide +kernel
theorem dX4_readPicture_6 : decode cX4_readPicture 6 = .ok (.ifCond .ne 10, 3) := by decide +kernel
theorem dX4_readPicture_9 : decode cX4_readPicture 9 = .ok (.aload_n 0, 1) := by decide +kernel
theorem dX4_readPicture_10 : decode cX4_readPicture 10 = .ok (.bipush (-2), 2) := by decide +kernel
theorem dX4_readPicture_12 : decode cX4_readPicture 12 = .ok (.invokevirtual 72, 3) := by decide +kernel
theorem dX4_readPicture_15 : decode cX4_readPicture 15 = .ok (.ireturn, 1) := by decide +kernel
theorem dX4_readPicture_16 : decode cX4_readPicture 16 = .ok (.aload_n 0, 1) := by decide +kernel
theorem dX4_readPicture_17 : decode cX4_readPicture 17 = .ok (.invokevirtual 49, 3) := by decide +kernel
theorem dX4_readPicture_20 : decode cX4_readPicture 20 = .ok (.aload_n 0, 1) := by decide +kernel
theorem dX4_readPicture_21 : decode cX4_readPicture 21 = .ok (.iconst 1, 1) := by decide +kernel
theorem dX4_readPicture_22 : decode cX4_readPicture 22 = .ok (.bipush 16, 2) := by decide +kernel
theorem dX4_readPicture_24 : decode cX4_readPicture 24 = .ok (.invokevirtual 76, 3) := by decide +kernel
theorem dX4_readPicture_27 : decode cX4_readPicture 27 = .ok (.ifCond .ne 5, 3) := by decide +kernel
theorem dX4_readPicture_30 : decode cX4_readPicture 30 = .ok (.iconst 0, 1) := by decide +kernel
theorem dX4_readPicture_31 : decode cX4_readPicture 31 = .ok (.ireturn, 1) := by decide +kernel
theorem dX4_readPicture_32 : decode cX4_readPicture 32 = .ok (.aload_n 0, 1) := by decide +kernel
theorem dX4_readPicture_33 : decode cX4_readPicture 33 = .ok (.getfield 80, 3) := by decide +kernel
theorem dX4_readPicture_36 : decode cX4_readPicture 36 = .ok (.istore_n 1, 1) := by decide +kernel
theorem dX4_readPicture_37 : decode cX4_readPicture 37 = .ok (.aload_n 0, 1) := by decide +kernel
theorem dX4_readPicture_38 : decode cX4_readPicture 38 = .ok (.iconst 1, 1) := by decide +kernel
theorem dX4_readPicture_39 : decode cX4_readPicture 39 = .ok (.bipush 12, 2) := by decide +kernel
theorem dX4_readPicture_41 : decode cX4_readPicture 41 = .ok (.invokevirtual 76, 3) := by decide +kernel
theorem dX4_readPicture_44 : decode cX4_readPicture 44 = .ok (.ifCond .ne 5, 3) := by decide +kernel
theorem dX4_readPicture_47 : decode cX4_readPicture 47 = .ok (.iconst 0, 1) := by decide +kernel
theorem dX4_readPicture_48 : decode cX4_readPicture 48 = .ok (.ireturn, 1) := by decide +kernel
theorem dX4_readPicture_49 : decode cX4_readPicture 49 = .ok (.aload_n 0, 1) := by decide +kernel
theorem dX4_readPicture_50 : decode cX4_readPicture 50 = .ok (.getfield 29, 3) := by decide +kernel
theorem dX4_readPicture_53 : decode cX4_readPicture 53 = .ok (.iload_n 1, 1) := by decide +kernel
theorem dX4_readPicture_54 : decode cX4_readPicture 54 = .ok (.aload_n 0, 1) := by decide +kernel
theorem dX4_readPicture_55 : decode cX4_readPicture 55 = .ok (.getfield 80, 3) := by decide +kernel
theorem dX4_readPicture_58 : decode cX4_readPicture 58 = .ok (.invokevirtual 83, 3) := by decide +kernel
theorem dX4_readPicture_61 : decode cX4_readPicture 61 = .ok (.aload_n 0, 1) := by decide +kernel
theorem dX4_readPicture_62 : decode cX4_readPicture 62 = .ok (.bipush 59, 2) := by decide +kernel
theorem dX4_readPicture_64 : decode cX4_readPicture 64 = .ok (.invokevirtual 62, 3) := by decide +kernel
theorem dX4_readPicture_67 : decode cX4_readPicture 67 = .ok (.ireturn, 1) := by decide +kernel
theorem dX4_readStatement_0 : decode cX4_readStatement 0 = .ok (.aload_n 0, 1) := by decide +kernel
theorem dX4_readStatement_1 : decode cX4_readStatement 1 = .ok (.ldc 89, 2) := by decide +kernel
theorem dX4_readStatement_3 : decode cX4_readStatement 3 = .ok (.invokevirtual 68, 3) := by decide +kernel
theorem dX4_readStatement_6 : decode cX4_readStatement 6 = .ok (.ifCond .eq 8, 3) := by decide +kernel
theorem dX4_readStatement_9 : decode cX4_readStatement 9 = .ok (.aload_n 0, 1) := by decide +kernel
theorem dX4_readStatement_10 : decode cX4_readStatement 10 = .ok (.invokevirtual 91, 3) := by decide +kernel
theorem dX4_readStatement_13 : decode cX4_readStatement 13 = .ok (.ireturn, 1) := by decide +kernel
theorem dX4_readStatement_14 : decode cX4_readStatement 14 = .ok (.aload_n 0, 1) := by decide +kernel
theorem dX4_readStatement_15 : decode cX4_readStatement 15 = .ok (.ldc 94, 2) := by decide +kernel
theorem dX4_readStatement_17 : decode cX4_readStatement 17 = .ok (.invokevirtual 68, 3) := by decide +kernel
theorem dX4_readStatement_20 : decode cX4_readStatement 20 = .ok (.ifCond .eq 8, 3) := by decide +kernel
theorem dX4_readStatement_23 : decode cX4_readStatement 23 = .ok (.aload_n 0, 1) := by decide +kernel
theorem dX4_readStatement_24 : decode cX4_readStatement 24 = .ok (.invokevirtual 96, 3) := by decide +kernel
theorem dX4_readStatement_27 : decode cX4_readStatement 27 = .ok (.ireturn, 1) := by decide +kernel
theorem dX4_readStatement_28 : decode cX4_readStatement 28 = .ok (.aload_n 0, 1) := by decide +kernel
theorem dX4_readStatement_29 : decode cX4_readStatement 29 = .ok (.ldc 99, 2) := by decide +kernel
theorem dX4_readStatement_31 : decode cX4_readStatement 31 = .ok (.invokevirtual 68, 3) := by decide +kernel
theorem dX4_readStatement_34 : decode cX4_readStatement 34 = .ok (.ifCond .eq 8, 3) := by decide +kernel
theorem dX4_readStatement_37 : decode cX4_readStatement 37 = .ok (.aload_n 0, 1) := by decide +kernel
theorem dX4_readStatement_38 : decode cX4_readStatement 38 = .ok (.invokevirtual 101, 3) := by decide +kernel
theorem dX4_readStatement_41 : decode cX4_readStatement 41 = .ok (.ireturn, 1) := by decide +kernel
theorem dX4_readStatement_42 : decode cX4_readStatement 42 = .ok (.aload_n 0, 1) := by decide +kernel
theorem dX4_readStatement_43 : decode cX4_readStatement 43 = .ok (.ldc 104, 2) := by decide +kernel
theorem dX4_readStatement_45 : decode cX4_readStatement 45 = .ok (.invokevirtual 68, 3) := by decide +kernel
theorem dX4_readStatement_48 : decode cX4_readStatement 48 = .ok (.ifCond .eq 8, 3) := by decide +kernel
theorem dX4_readStatement_51 : decode cX4_readStatement 51 = .ok (.aload_n 0, 1) := by decide +kernel
theorem dX4_readStatement_52 : decode cX4_readStatement 52 = .ok (.invokevirtual 106, 3) := by decide +kernel
theorem dX4_readStatement_55 : decode cX4_readStatement 55 = .ok (.ireturn, 1) := by decide +kernel
theorem dX4_readStatement_56 : decode cX4_readStatement 56 = .ok (.aload_n 0, 1) := by decide +kernel
theorem dX4_readStatement_57 : decode cX4_readStatement 57 = .ok (.bipush (-2), 2) := by decide +kernel
theorem dX4_readStatement_59 : decode cX4_readStatement 59 = .ok (.invokevirtual 72, 3) := by decide +kernel
theorem dX4_readStatement_62 : decode cX4_readStatement 62 = .ok (.ireturn, 1) := by decide +kernel
theorem dX4_readTones_0 : decode cX4_readTones 0 = .ok (.aload_n 0, 1) := by decide +kernel
theorem dX4_readTones_1 : decode cX4_readTones 1 = .ok (.getfield 39, 3) := by decide +kernel
theorem dX4_readTones_4 : decode cX4_readTones 4 = .ok (.ifCond .eq 10, 3) := by decide +kernel
theorem dX4_readTones_7 : decode cX4_readTones 7 = .ok (.aload_n 0, 1) := by decide +kernel
theorem dX4_readTones_8 : decode cX4_readTones 8 = .ok (.bipush (-2), 2) := by decide +kernel
theorem dX4_readTones_10 : decode cX4_readTones 10 = .ok (.invokevirtual 72, 3) := by decide +kernel
theorem dX4_readTones_13 : decode cX4_readTones 13 = .ok (.ireturn, 1) := by decide +kernel
theorem dX4_readTones_14 : decode cX4_readTones 14 = .ok (.aload_n 0, 1) := by decide +kernel
theorem dX4_readTones_15 : decode cX4_readTones 15 = .ok (.iconst 1, 1) := by decide +kernel
theorem dX4_readTones_16 : decode cX4_readTones 16 = .ok (.putfield 39, 3) := by decide +kernel
theorem dX4_readTones_19 : decode cX4_readTones 19 = .ok (.aload_n 0, 1) := by decide +kernel
theorem dX4_readTones_20 : decode cX4_readTones 20 = .ok (.invokevirtual 49, 3) := by decide +kernel
theorem dX4_readTones_23 : decode cX4_readTones 23 = .ok (.iconst 0, 1) := by decide +kernel
theorem dX4_readTones_24 : decode cX4_readTones 24 = .ok (.istore_n 1, 1) := by decide +kernel
theorem dX4_readTones_25 : decode cX4_readTones 25 = .ok (.iload_n 1, 1) := by decide +kernel
theorem dX4_readTones_26 : decode cX4_readTones 26 = .ok (.aload_n 0, 1) := by decide +kernel
theorem dX4_readTones_27 : decode cX4_readTones 27 = .ok (.getfield 29, 3) := by decide +kernel
theorem dX4_readTones_30 : decode cX4_readTones 30 = .ok (.getfield 109, 3) := by decide +kernel
theorem dX4_readTones_33 : decode cX4_readTones 33 = .ok (.if_icmp .ge 107, 3) := by decide +kernel
theorem dX4_readTones_36 : decode cX4_readTones 36 = .ok (.aload_n 0, 1) := by decide +kernel
theorem dX4_readTones_37 : decode cX4_readTones 37 = .ok (.getfield 56, 3) := by decide +kernel
theorem dX4_readTones_40 : decode cX4_readTones 40 = .ok (.iconst 1, 1) := by decide +kernel
theorem dX4_readTones_41 : decode cX4_readTones 41 = .ok (.if_icmp .eq 10, 3) := by decide +kernel
theorem dX4_readTones_44 : decode cX4_readTones 44 = .ok (.aload_n 0, 1) := by decide +kernel
theorem dX4_readTones_45 : decode cX4_readTones 45 = .ok (.bipush (-2), 2) := by decide +kernel
theorem dX4_readTones_47 : decode cX4_readTones 47 = .ok (.invokevirtual 72, 3) := by decide +kernel
theorem dX4_readTones_50 : decode cX4_readTones 50 = .ok (.ireturn, 1) := by decide +kernel
theorem dX4_readTones_51 : decode cX4_readTones 51 = .ok (.aload_n 0, 1) := by decide +kernel
theorem dX4_readTones_52 : decode cX4_readTones 52 = .ok (.getfield 46, 3) := by decide +kernel
theorem dX4_readTones_55 : decode cX4_readTones 55 = .ok (.aload_n 0, 1) := by decide +kernel
theorem dX4_readTones_56 : decode cX4_readTones 56 = .ok (.getfield 112, 3) := by decide +kernel
theorem dX4_readTones_59 : decode cX4_readTones 59 = .ok (.isub, 1) := by decide +kernel
theorem dX4_readTones_60 : decode cX4_readTones 60 = .ok (.aload_n 0, 1) := by decide +kernel
theorem dX4_readTones_61 : decode cX4_readTones 61 = .ok (.getfield 29, 3) := by decide +kernel
theorem dX4_readTones_64 : decode cX4_readTones 64 = .ok (.getfield 115, 3) := by decide +kernel
theorem dX4_readTones_67 : decode cX4_readTones 67 = .ok (.if_icmp .eq 10, 3) := by decide +kernel
theorem dX4_readTones_70 : decode cX4_readTones 70 = .ok (.aload_n 0, 1) := by decide +kernel
theorem dX4_readTones_71 : decode cX4_readTones 71 = .ok (.bipush (-3), 2) := by decide +kernel
theorem dX4_readTones_73 : decode cX4_readTones 73 = .ok (.invokevirtual 72, 3) := by decide +kernel
theorem dX4_readTones_76 : decode cX4_readTones 76 = .ok (.ireturn, 1) := by decide +kernel
theorem dX4_readTones_77 : decode cX4_readTones 77 = .ok (.iconst 0, 1) := by decide +kernel
theorem dX4_readTones_78 : decode cX4_readTones 78 = .ok (.istore_n 2, 1) := by decide +kernel
theorem dX4_readTones_79 : decode cX4_readTones 79 = .ok (.iload_n 2, 1) := by decide +kernel
theorem dX4_readTones_80 : decode cX4_readTones 80 = .ok (.aload_n 0, 1) := by decide +kernel
theorem dX4_readTones_81 : decode cX4_readTones 81 = .ok (.getfield 29, 3) := by decide +kernel
theorem dX4_readTones_84 : decode cX4_readTones 84 = .ok (.getfield 115, 3) := by decide +kernel
theorem dX4_readTones_87 : decode cX4_readTones 87 = .ok (.if_icmp .ge 43, 3) := by decide +kernel
theorem dX4_readTones_90 : decode cX4_readTones 90 = .ok (.aload_n 0, 1) := by decide +kernel
theorem dX4_readTones_91 : decode cX4_readTones 91 = .ok (.getfield 29, 3) := by decide +kernel
theorem dX4_readTones_94 : decode cX4_readTones 94 = .ok (.getfield 118, 3) := by decide +kernel
theorem dX4_readTones_97 : decode cX4_readTones 97 = .ok (.aload_n 0, 1) := by decide +kernel
theorem dX4_readTones_98 : decode cX4_readTones 98 = .ok (.getfield 29, 3) := by decide +kernel
theorem dX4_readTones_101 : decode cX4_readTones 101 = .ok (.iload_n 2, 1) := by decide +kernel
theorem dX4_readTones_102 : decode cX4_readTones 102 = .ok (.iload_n 1, 1) := by decide +kernel
theorem dX4_readTones_103 : decode cX4_readTones 103 = .ok (.invokevirtual 120, 3) := by decide +kernel
theorem dX4_readTones_106 : decode cX4_readTones 106 = .ok (.aload_n 0, 1) := by decide +kernel
theorem dX4_readTones_107 : decode cX4_readTones 107 = .ok (.getfield 15, 3) := by decide +kernel
theorem dX4_readTones_110 : decode cX4_readTones 110 = .ok (.aload_n 0, 1) := by decide +kernel
theorem dX4_readTones_111 : decode cX4_readTones 111 = .ok (.getfield 112, 3) := by decide +kernel
theorem dX4_readTones_114 : decode cX4_readTones 114 = .ok (.iload_n 2, 1) := by decide +kernel
theorem dX4_readTones_115 : decode cX4_readTones 115 = .ok (.iadd, 1) := by decide +kernel
theorem dX4_readTones_116 : decode cX4_readTones 116 = .ok (.baload, 1) := by decide +kernel
theorem dX4_readTones_117 : decode cX4_readTones 117 = .ok (.bipush 48, 2) := by decide +kernel
theorem dX4_readTones_119 : decode cX4_readTones 119 = .ok (.isub, 1) := by decide +kernel
theorem dX4_readTones_120 : decode cX4_readTones 120 = .ok (.bipush 11, 2) := by decide +kernel
theorem dX4_readTones_122 : decode cX4_readTones 122 = .ok (.imul, 1) := by decide +kernel
theorem dX4_readTones_123 : decode cX4_readTones 123 = .ok (.iastore, 1) := by decide +kernel
theorem dX4_readTones_124 : decode cX4_readTones 124 = .ok (.iinc 2 1, 3) := by decide +kernel
theorem dX4_readTones_127 : decode cX4_readTones 127 = .ok (.goto (-48), 3) := by decide +kernel
theorem dX4_readTones_130 : decode cX4_readTones 130 = .ok (.aload_n 0, 1) := by decide +kernel
theorem dX4_readTones_131 : decode cX4_readTones 131 = .ok (.invokevirtual 49, 3) := by decide +kernel
theorem dX4_readTones_134 : decode cX4_readTones 134 = .ok (.iinc 1 1, 3) := by decide +kernel
theorem dX4_readTones_137 : decode cX4_readTones 137 = .ok (.goto (-112), 3) := by decide +kernel
theorem dX4_readTones_140 : decode cX4_readTones 140 = .ok (.iconst 1, 1) := by decide +kernel
theorem dX4_readTones_141 : decode cX4_readTones 141 = .ok (.ireturn, 1) := by decide +kernel
theorem dX4_readPlate_0 : decode cX4_readPlate 0 = .ok (.aload_n 0, 1) := by decide +kernel
theorem dX4_readPlate_1 : decode cX4_readPlate 1 = .ok (.getfield 29, 3) := by decide +kernel
theorem dX4_readPlate_4 : decode cX4_readPlate 4 = .ok (.getfield 123, 3) := by decide +kernel
theorem dX4_readPlate_7 : decode cX4_readPlate 7 = .ok (.iconst 4, 1) := by decide +kernel
theorem dX4_readPlate_8 : decode cX4_readPlate 8 = .ok (.if_icmp .lt 10, 3) := by decide +kernel
theorem dX4_readPlate_11 : decode cX4_readPlate 11 = .ok (.aload_n 0, 1) := by decide +kernel
theorem dX4_readPlate_12 : decode cX4_readPlate 12 = .ok (.bipush (-5), 2) := by decide +kernel
theorem dX4_readPlate_14 : decode cX4_readPlate 14 = .ok (.invokevirtual 72, 3) := by decide +kernel
theorem dX4_readPlate_17 : decode cX4_readPlate 17 = .ok (.ireturn, 1) := by decide +kernel
theorem dX4_readPlate_18 : decode cX4_readPlate 18 = .ok (.aload_n 0, 1) := by decide +kernel
theorem dX4_readPlate_19 : decode cX4_readPlate 19 = .ok (.invokevirtual 49, 3) := by decide +kernel
theorem dX4_readPlate_22 : decode cX4_readPlate 22 = .ok (.aload_n 0, 1) := by decide +kernel
theorem dX4_readPlate_23 : decode cX4_readPlate 23 = .ok (.invokevirtual 126, 3) := by decide +kernel
theorem dX4_readPlate_26 : decode cX4_readPlate 26 = .ok (.ifCond .ne 5, 3) := by decide +kernel
theorem dX4_readPlate_29 : decode cX4_readPlate 29 = .ok (.iconst 0, 1) := by decide +kernel
theorem dX4_readPlate_30 : decode cX4_readPlate 30 = .ok (.ireturn, 1) := by decide +kernel
theorem dX4_readPlate_31 : decode cX4_readPlate 31 = .ok (.aload_n 0, 1) := by decide +kernel
theorem dX4_readPlate_32 : decode cX4_readPlate 32 = .ok (.getfield 15, 3) := by decide +kernel
theorem dX4_readPlate_35 : decode cX4_readPlate 35 = .ok (.aload_n 0, 1) := by decide +kernel
theorem dX4_readPlate_36 : decode cX4_readPlate 36 = .ok (.getfield 112, 3) := by decide +kernel
theorem dX4_readPlate_39 : decode cX4_readPlate 39 = .ok (.aload_n 0, 1) := by decide +kernel
theorem dX4_readPlate_40 : decode cX4_readPlate 40 = .ok (.getfield 46, 3) := by decide +kernel
theorem dX4_readPlate_43 : decode cX4_readPlate 43 = .ok (.invokestatic 129, 3) := by decide +kernel
theorem dX4_readPlate_46 : decode cX4_readPlate 46 = .ok (.lstore_n 1, 1) := by decide +kernel
theorem dX4_readPlate_47 : decode cX4_readPlate 47 = .ok (.aload_n 0, 1) := by decide +kernel
theorem dX4_readPlate_48 : decode cX4_readPlate 48 = .ok (.getfield 29, 3) := by decide +kernel
theorem dX4_readPlate_51 : decode cX4_readPlate 51 = .ok (.lload_n 1, 1) := by decide +kernel
theorem dX4_readPlate_52 : decode cX4_readPlate 52 = .ok (.invokevirtual 133, 3) := by decide +kernel
theorem dX4_readPlate_55 : decode cX4_readPlate 55 = .ok (.ifCond .lt 10, 3) := by decide +kernel
theorem dX4_readPlate_58 : decode cX4_readPlate 58 = .ok (.aload_n 0, 1) := by decide +kernel
theorem dX4_readPlate_59 : decode cX4_readPlate 59 = .ok (.bipush (-4), 2) := by decide +kernel
theorem dX4_readPlate_61 : decode cX4_readPlate 61 = .ok (.invokevirtual 72, 3) := by decide +kernel
theorem dX4_readPlate_64 : decode cX4_readPlate 64 = .ok (.ireturn, 1) := by decide +kernel
theorem dX4_readPlate_65 : decode cX4_readPlate 65 = .ok (.aload_n 0, 1) := by decide +kernel
theorem dX4_readPlate_66 : decode cX4_readPlate 66 = .ok (.invokevirtual 49, 3) := by decide +kernel
theorem dX4_readPlate_69 : decode cX4_readPlate 69 = .ok (.aload_n 0, 1) := by decide +kernel
theorem dX4_readPlate_70 : decode cX4_readPlate 70 = .ok (.iconst 0, 1) := by decide +kernel
theorem dX4_readPlate_71 : decode cX4_readPlate 71 = .ok (.iconst 3, 1) := by decide +kernel
theorem dX4_readPlate_72 : decode cX4_readPlate 72 = .ok (.invokevirtual 76, 3) := by decide +kernel
theorem dX4_readPlate_75 : decode cX4_readPlate 75 = .ok (.ifCond .ne 5, 3) := by decide +kernel
theorem dX4_readPlate_78 : decode cX4_readPlate 78 = .ok (.iconst 0, 1) := by decide +kernel
theorem dX4_readPlate_79 : decode cX4_readPlate 79 = .ok (.ireturn, 1) := by decide +kernel
theorem dX4_readPlate_80 : decode cX4_readPlate 80 = .ok (.aload_n 0, 1) := by decide +kernel
theorem dX4_readPlate_81 : decode cX4_readPlate 81 = .ok (.getfield 80, 3) := by decide +kernel
theorem dX4_readPlate_84 : decode cX4_readPlate 84 = .ok (.istore_n 3, 1) := by decide +kernel
theorem dX4_readPlate_85 : decode cX4_readPlate 85 = .ok (.aload_n 0, 1) := by decide +kernel
theorem dX4_readPlate_86 : decode cX4_readPlate 86 = .ok (.iload_n 3, 1) := by decide +kernel
theorem dX4_readPlate_87 : decode cX4_readPlate 87 = .ok (.ifCond .ne 7, 3) := by decide +kernel
theorem dX4_readPlate_90 : decode cX4_readPlate 90 = .ok (.iconst 1, 1) := by decide +kernel
theorem dX4_readPlate_91 : decode cX4_readPlate 91 = .ok (.goto 4, 3) := by decide +kernel
theorem dX4_readPlate_94 : decode cX4_readPlate 94 = .ok (.iconst 0, 1) := by decide +kernel
theorem dX4_readPlate_95 : decode cX4_readPlate 95 = .ok (.iconst 3, 1) := by decide +kernel
theorem dX4_readPlate_96 : decode cX4_readPlate 96 = .ok (.invokevirtual 76, 3) := by decide +kernel
theorem dX4_readPlate_99 : decode cX4_readPlate 99 = .ok (.ifCond .ne 5, 3) := by decide +kernel
theorem dX4_readPlate_102 : decode cX4_readPlate 102 = .ok (.iconst 0, 1) := by decide +kernel
theorem dX4_readPlate_103 : decode cX4_readPlate 103 = .ok (.ireturn, 1) := by decide +kernel
theorem dX4_readPlate_104 : decode cX4_readPlate 104 = .ok (.aload_n 0, 1) := by decide +kernel
theorem dX4_readPlate_105 : decode cX4_readPlate 105 = .ok (.getfield 80, 3) := by decide +kernel
theorem dX4_readPlate_108 : decode cX4_readPlate 108 = .ok (.istore 4, 2) := by decide +kernel
theorem dX4_readPlate_110 : decode cX4_readPlate 110 = .ok (.aload_n 0, 1) := by decide +kernel
theorem dX4_readPlate_111 : decode cX4_readPlate 111 = .ok (.invokevirtual 137, 3) := by decide +kernel
theorem dX4_readPlate_114 : decode cX4_readPlate 114 = .ok (.istore 5, 2) := by decide +kernel
theorem dX4_readPlate_116 : decode cX4_readPlate 116 = .ok (.iload 5, 2) := by decide +kernel
theorem dX4_readPlate_118 : decode cX4_readPlate 118 = .ok (.ifCond .ge 10, 3) := by decide +kernel
theorem dX4_readPlate_121 : decode cX4_readPlate 121 = .ok (.aload_n 0, 1) := by decide +kernel
theorem dX4_readPlate_122 : decode cX4_readPlate 122 = .ok (.bipush (-2), 2) := by decide +kernel
theorem dX4_readPlate_124 : decode cX4_readPlate 124 = .ok (.invokevirtual 72, 3) := by decide +kernel
theorem dX4_readPlate_127 : decode cX4_readPlate 127 = .ok (.ireturn, 1) := by decide +kernel
theorem dX4_readPlate_128 : decode cX4_readPlate 128 = .ok (.aload_n 0, 1) := by decide +kernel
theorem dX4_readPlate_129 : decode cX4_readPlate 129 = .ok (.invokevirtual 49, 3) := by decide +kernel
theorem dX4_readPlate_132 : decode cX4_readPlate 132 = .ok (.aconst_null, 1) := by decide +kernel
theorem dX4_readPlate_133 : decode cX4_readPlate 133 = .ok (.astore 6, 2) := by decide +kernel
theorem dX4_readPlate_135 : decode cX4_readPlate 135 = .ok (.aload_n 0, 1) := by decide +kernel
theorem dX4_readPlate_136 : decode cX4_readPlate 136 = .ok (.ldc 141, 2) := by decide +kernel
theorem dX4_readPlate_138 : decode cX4_readPlate 138 = .ok (.invokevirtual 68, 3) := by decide +kernel
theorem dX4_readPlate_141 : decode cX4_readPlate 141 = .ok (.ifCond .eq 42, 3) := by decide +kernel
theorem dX4_readPlate_144 : decode cX4_readPlate 144 = .ok (.aload_n 0, 1) := by decide +kernel
theorem dX4_readPlate_145 : decode cX4_readPlate 145 = .ok (.invokevirtual 49, 3) := by decide +kernel
theorem dX4_readPlate_148 : decode cX4_readPlate 148 = .ok (.aload_n 0, 1) := by decide +kernel
theorem dX4_readPlate_149 : decode cX4_readPlate 149 = .ok (.iconst 0, 1) := by decide +kernel
theorem dX4_readPlate_150 : decode cX4_readPlate 150 = .ok (.putfield 143, 3) := by decide +kernel
theorem dX4_readPlate_153 : decode cX4_readPlate 153 = .ok (.aload_n 0, 1) := by decide +kernel
theorem dX4_readPlate_154 : decode cX4_readPlate 154 = .ok (.iconst 0, 1) := by decide +kernel
theorem dX4_readPlate_155 : decode cX4_readPlate 155 = .ok (.invokevirtual 146, 3) := by decide +kernel
theorem dX4_readPlate_158 : decode cX4_readPlate 158 = .ok (.ifCond .ne 5, 3) := by decide +kernel
theorem dX4_readPlate_161 : decode cX4_readPlate 161 = .ok (.iconst 0, 1) := by decide +kernel
theorem dX4_readPlate_162 : decode cX4_readPlate 162 = .ok (.ireturn, 1) := by decide +kernel
theorem dX4_readPlate_163 : decode cX4_readPlate 163 = .ok (.new 149, 3) := by decide +kernel
theorem dX4_readPlate_166 : decode cX4_readPlate 166 = .ok (.dup, 1) := by decide +kernel
theorem dX4_readPlate_167 : decode cX4_readPlate 167 = .ok (.aload_n 0, 1) := by decide +kernel
theorem dX4_readPlate_168 : decode cX4_readPlate 168 = .ok (.getfield 9, 3) := by decide +kernel
theorem dX4_readPlate_171 : decode cX4_readPlate 171 = .ok (.aload_n 0, 1) := by decide +kernel
theorem dX4_readPlate_172 : decode cX4_readPlate 172 = .ok (.getfield 143, 3) := by decide +kernel
theorem dX4_readPlate_175 : decode cX4_readPlate 175 = .ok (.invokestatic 151, 3) := by decide +kernel
theorem dX4_readPlate_178 : decode cX4_readPlate 178 = .ok (.invokespecial 157, 3) := by decide +kernel
theorem dX4_readPlate_181 : decode cX4_readPlate 181 = .ok (.astore 6, 2) := by decide +kernel
theorem dX4_readPlate_183 : decode cX4_readPlate 183 = .ok (.aload_n 0, 1) := by decide +kernel
theorem dX4_readPlate_184 : decode cX4_readPlate 184 = .ok (.getfield 29, 3) := by decide +kernel
theorem dX4_readPlate_187 : decode cX4_readPlate 187 = .ok (.lload_n 1, 1) := by decide +kernel
theorem dX4_readPlate_188 : decode cX4_readPlate 188 = .ok (.iload_n 3, 1) := by decide +kernel
theorem dX4_readPlate_189 : decode cX4_readPlate 189 = .ok (.iload 4, 2) := by decide +kernel
theorem dX4_readPlate_191 : decode cX4_readPlate 191 = .ok (.iload 5, 2) := by decide +kernel
theorem dX4_readPlate_193 : decode cX4_readPlate 193 = .ok (.aload 6, 2) := by decide +kernel
theorem dX4_readPlate_195 : decode cX4_readPlate 195 = .ok (.invokevirtual 160, 3) := by decide +kernel
theorem dX4_readPlate_198 : decode cX4_readPlate 198 = .ok (.iconst 1, 1) := by decide +kernel
theorem dX4_readPlate_199 : decode cX4_readPlate 199 = .ok (.ireturn, 1) := by decide +kernel
theorem dX4_readInk_0 : decode cX4_readInk 0 = .ok (.aload_n 0, 1) := by decide +kernel
theorem dX4_readInk_1 : decode cX4_readInk 1 = .ok (.invokevirtual 49, 3) := by decide +kernel
theorem dX4_readInk_4 : decode cX4_readInk 4 = .ok (.aload_n 0, 1) := by decide +kernel
theorem dX4_readInk_5 : decode cX4_readInk 5 = .ok (.invokevirtual 126, 3) := by decide +kernel
theorem dX4_readInk_8 : decode cX4_readInk 8 = .ok (.ifCond .ne 5, 3) := by decide +kernel
theorem dX4_readInk_11 : decode cX4_readInk 11 = .ok (.iconst 0, 1) := by decide +kernel
theorem dX4_readInk_12 : decode cX4_readInk 12 = .ok (.ireturn, 1) := by decide +kernel
theorem dX4_readInk_13 : decode cX4_readInk 13 = .ok (.aload_n 0, 1) := by decide +kernel
theorem dX4_readInk_14 : decode cX4_readInk 14 = .ok (.getfield 29, 3) := by decide +kernel
theorem dX4_readInk_17 : decode cX4_readInk 17 = .ok (.aload_n 0, 1) := by decide +kernel
theorem dX4_readInk_18 : decode cX4_readInk 18 = .ok (.getfield 15, 3) := by decide +kernel
theorem dX4_readInk_21 : decode cX4_readInk 21 = .ok (.aload_n 0, 1) := by decide +kernel
theorem dX4_readInk_22 : decode cX4_readInk 22 = .ok (.getfield 112, 3) := by decide +kernel
theorem dX4_readInk_25 : decode cX4_readInk 25 = .ok (.aload_n 0, 1) := by decide +kernel
theorem dX4_readInk_26 : decode cX4_readInk 26 = .ok (.getfield 46, 3) := by decide +kernel
theorem dX4_readInk_29 : decode cX4_readInk 29 = .ok (.invokestatic 129, 3) := by decide +kernel
theorem dX4_readInk_32 : decode cX4_readInk 32 = .ok (.invokevirtual 133, 3) := by decide +kernel
theorem dX4_readInk_35 : decode cX4_readInk 35 = .ok (.istore_n 1, 1) := by decide +kernel
theorem dX4_readInk_36 : decode cX4_readInk 36 = .ok (.iload_n 1, 1) := by decide +kernel
theorem dX4_readInk_37 : decode cX4_readInk 37 = .ok (.ifCond .ge 10, 3) := by decide +kernel
theorem dX4_readInk_40 : decode cX4_readInk 40 = .ok (.aload_n 0, 1) := by decide +kernel
theorem dX4_readInk_41 : decode cX4_readInk 41 = .ok (.bipush (-4), 2) := by decide +kernel
theorem dX4_readInk_43 : decode cX4_readInk 43 = .ok (.invokevirtual 72, 3) := by decide +kernel
theorem dX4_readInk_46 : decode cX4_readInk 46 = .ok (.ireturn, 1) := by decide +kernel
theorem dX4_readInk_47 : decode cX4_readInk 47 = .ok (.aload_n 0, 1) := by decide +kernel
theorem dX4_readInk_48 : decode cX4_readInk 48 = .ok (.invokevirtual 49, 3) := by decide +kernel
theorem dX4_readInk_51 : decode cX4_readInk 51 = .ok (.aload_n 0, 1) := by decide +kernel
theorem dX4_readInk_52 : decode cX4_readInk 52 = .ok (.iconst 0, 1) := by decide +kernel
theorem dX4_readInk_53 : decode cX4_readInk 53 = .ok (.ldc 164, 2) := by decide +kernel
theorem dX4_readInk_55 : decode cX4_readInk 55 = .ok (.invokevirtual 76, 3) := by decide +kernel
theorem dX4_readInk_58 : decode cX4_readInk 58 = .ok (.ifCond .ne 5, 3) := by decide +kernel
theorem dX4_readInk_61 : decode cX4_readInk 61 = .ok (.iconst 0, 1) := by decide +kernel
theorem dX4_readInk_62 : decode cX4_readInk 62 = .ok (.ireturn, 1) := by decide +kernel
theorem dX4_readInk_63 : decode cX4_readInk 63 = .ok (.aload_n 0, 1) := by decide +kernel
theorem dX4_readInk_64 : decode cX4_readInk 64 = .ok (.getfield 29, 3) := by decide +kernel
theorem dX4_readInk_67 : decode cX4_readInk 67 = .ok (.getfield 165, 3) := by decide +kernel
theorem dX4_readInk_70 : decode cX4_readInk 70 = .ok (.iload_n 1, 1) := by decide +kernel
theorem dX4_readInk_71 : decode cX4_readInk 71 = .ok (.aaload, 1) := by decide +kernel
theorem dX4_readInk_72 : decode cX4_readInk 72 = .ok (.aload_n 0, 1) := by decide +kernel
theorem dX4_readInk_73 : decode cX4_readInk 73 = .ok (.getfield 80, 3) := by decide +kernel
theorem dX4_readInk_76 : decode cX4_readInk 76 = .ok (.putfield 169, 3) := by decide +kernel
theorem dX4_readInk_79 : decode cX4_readInk 79 = .ok (.iconst 1, 1) := by decide +kernel
theorem dX4_readInk_80 : decode cX4_readInk 80 = .ok (.ireturn, 1) := by decide +kernel
theorem dX4_readLimit_0 : decode cX4_readLimit 0 = .ok (.aload_n 0, 1) := by decide +kernel
theorem dX4_readLimit_1 : decode cX4_readLimit 1 = .ok (.getfield 43, 3) := by decide +kernel
theorem dX4_readLimit_4 : decode cX4_readLimit 4 = .ok (.ifCond .eq 10, 3) := by decide +kernel
theorem dX4_readLimit_7 : decode cX4_readLimit 7 = .ok (.aload_n 0, 1) := by decide +kernel
theorem dX4_readLimit_8 : decode cX4_readLimit 8 = .ok (.bipush (-2), 2) := by decide +kernel
theorem dX4_readLimit_10 : decode cX4_readLimit 10 = .ok (.invokevirtual 72, 3) := by decide +kernel
theorem dX4_readLimit_13 : decode cX4_readLimit 13 = .ok (.ireturn, 1) := by decide +kernel
theorem dX4_readLimit_14 : decode cX4_readLimit 14 = .ok (.aload_n 0, 1) := by decide +kernel
theorem dX4_readLimit_15 : decode cX4_readLimit 15 = .ok (.iconst 1, 1) := by decide +kernel
theorem dX4_readLimit_16 : decode cX4_readLimit 16 = .ok (.putfield 43, 3) := by decide +kernel
theorem dX4_readLimit_19 : decode cX4_readLimit 19 = .ok (.aload_n 0, 1) := by decide +kernel
theorem dX4_readLimit_20 : decode cX4_readLimit 20 = .ok (.invokevirtual 49, 3) := by decide +kernel
theorem dX4_readLimit_23 : decode cX4_readLimit 23 = .ok (.aload_n 0, 1) := by decide +kernel
theorem dX4_readLimit_24 : decode cX4_readLimit 24 = .ok (.iconst 1, 1) := by decide +kernel
theorem dX4_readLimit_25 : decode cX4_readLimit 25 = .ok (.iconst 4, 1) := by decide +kernel
theorem dX4_readLimit_26 : decode cX4_readLimit 26 = .ok (.invokevirtual 76, 3) := by decide +kernel
theorem dX4_readLimit_29 : decode cX4_readLimit 29 = .ok (.ifCond .ne 5, 3) := by decide +kernel
theorem dX4_readLimit_32 : decode cX4_readLimit 32 = .ok (.iconst 0, 1) := by decide +kernel
theorem dX4_readLimit_33 : decode cX4_readLimit 33 = .ok (.ireturn, 1) := by decide +kernel
theorem dX4_readLimit_34 : decode cX4_readLimit 34 = .ok (.aload_n 0, 1) := by decide +kernel
theorem dX4_readLimit_35 : decode cX4_readLimit 35 = .ok (.getfield 29, 3) := by decide +kernel
theorem dX4_readLimit_38 : decode cX4_readLimit 38 = .ok (.aload_n 0, 1) := by decide +kernel
theorem dX4_readLimit_39 : decode cX4_readLimit 39 = .ok (.getfield 80, 3) := by decide +kernel
theorem dX4_readLimit_42 : decode cX4_readLimit 42 = .ok (.putfield 173, 3) := by decide +kernel
theorem dX4_readLimit_45 : decode cX4_readLimit 45 = .ok (.iconst 1, 1) := by decide +kernel
theorem dX4_readLimit_46 : decode cX4_readLimit 46 = .ok (.ireturn, 1) := by decide +kernel
theorem dX4_readSum_0 : decode cX4_readSum 0 = .ok (.aload_n 0, 1) := by decide +kernel
theorem dX4_readSum_1 : decode cX4_readSum 1 = .ok (.iload_n 1, 1) := by decide +kernel
theorem dX4_readSum_2 : decode cX4_readSum 2 = .ok (.invokevirtual 175, 3) := by decide +kernel
theorem dX4_readSum_5 : decode cX4_readSum 5 = .ok (.ifCond .ne 5, 3) := by decide +kernel
theorem dX4_readSum_8 : decode cX4_readSum 8 = .ok (.iconst 0, 1) := by decide +kernel
theorem dX4_readSum_9 : decode cX4_readSum 9 = .ok (.ireturn, 1) := by decide +kernel
theorem dX4_readSum_10 : decode cX4_readSum 10 = .ok (.iconst 0, 1) := by decide +kernel
theorem dX4_readSum_11 : decode cX4_readSum 11 = .ok (.istore_n 2, 1) := by decide +kernel
theorem dX4_readSum_12 : decode cX4_readSum 12 = .ok (.iload_n 2, 1) := by decide +kernel
theorem dX4_readSum_13 : decode cX4_readSum 13 = .ok (.aload_n 0, 1) := by decide +kernel
theorem dX4_readSum_14 : decode cX4_readSum 14 = .ok (.getfield 25, 3) := by decide +kernel
theorem dX4_readSum_17 : decode cX4_readSum 17 = .ok (.if_icmp .ge 63, 3) := by decide +kernel
theorem dX4_readSum_20 : decode cX4_readSum 20 = .ok (.aload_n 0, 1) := by decide +kernel
theorem dX4_readSum_21 : decode cX4_readSum 21 = .ok (.bipush 43, 2) := by decide +kernel
theorem dX4_readSum_23 : decode cX4_readSum 23 = .ok (.invokevirtual 178, 3) := by decide +kernel
theorem dX4_readSum_26 : decode cX4_readSum 26 = .ok (.ifCond .ne 12, 3) := by decide +kernel
theorem dX4_readSum_29 : decode cX4_readSum 29 = .ok (.aload_n 0, 1) := by decide +kernel
theorem dX4_readSum_30 : decode cX4_readSum 30 = .ok (.bipush 45, 2) := by decide +kernel
theorem dX4_readSum_32 : decode cX4_readSum 32 = .ok (.invokevirtual 178, 3) := by decide +kernel
theorem dX4_readSum_35 : decode cX4_readSum 35 = .ok (.ifCond .eq 45, 3) := by decide +kernel
theorem dX4_readSum_38 : decode cX4_readSum 38 = .ok (.aload_n 0, 1) := by decide +kernel
theorem dX4_readSum_39 : decode cX4_readSum 39 = .ok (.bipush 43, 2) := by decide +kernel
theorem dX4_readSum_41 : decode cX4_readSum 41 = .ok (.invokevirtual 178, 3) := by decide +kernel
theorem dX4_readSum_44 : decode cX4_readSum 44 = .ok (.ifCond .eq 8, 3) := by decide +kernel
theorem dX4_readSum_47 : decode cX4_readSum 47 = .ok (.bipush (-5), 2) := by decide +kernel
theorem dX4_readSum_49 : decode cX4_readSum 49 = .ok (.goto 5, 3) := by decide +kernel
theorem dX4_readSum_52 : decode cX4_readSum 52 = .ok (.bipush (-6), 2) := by decide +kernel
theorem dX4_readSum_54 : decode cX4_readSum 54 = .ok (.istore_n 3, 1) := by decide +kernel
theorem dX4_readSum_55 : decode cX4_readSum 55 = .ok (.aload_n 0, 1) := by decide +kernel
theorem dX4_readSum_56 : decode cX4_readSum 56 = .ok (.invokevirtual 49, 3) := by decide +kernel
theorem dX4_readSum_59 : decode cX4_readSum 59 = .ok (.aload_n 0, 1) := by decide +kernel
theorem dX4_readSum_60 : decode cX4_readSum 60 = .ok (.iload_n 1, 1) := by decide +kernel
theorem dX4_readSum_61 : decode cX4_readSum 61 = .ok (.invokevirtual 175, 3) := by decide +kernel
theorem dX4_readSum_64 : decode cX4_readSum 64 = .ok (.ifCond .ne 5, 3) := by decide +kernel
theorem dX4_readSum_67 : decode cX4_readSum 67 = .ok (.iconst 0, 1) := by decide +kernel
theorem dX4_readSum_68 : decode cX4_readSum 68 = .ok (.ireturn, 1) := by decide +kernel
theorem dX4_readSum_69 : decode cX4_readSum 69 = .ok (.aload_n 0, 1) := by decide +kernel
theorem dX4_readSum_70 : decode cX4_readSum 70 = .ok (.iload_n 3, 1) := by decide +kernel
theorem dX4_readSum_71 : decode cX4_readSum 71 = .ok (.invokevirtual 181, 3) := by decide +kernel
theorem dX4_readSum_74 : decode cX4_readSum 74 = .ok (.iinc 2 1, 3) := by decide +kernel
theorem dX4_readSum_77 : decode cX4_readSum 77 = .ok (.goto (-65), 3) := by decide +kernel
theorem dX4_readSum_80 : decode cX4_readSum 80 = .ok (.iconst 1, 1) := by decide +kernel
theorem dX4_readSum_81 : decode cX4_readSum 81 = .ok (.ireturn, 1) := by decide +kernel
theorem dX4_readTerm_0 : decode cX4_readTerm 0 = .ok (.aload_n 0, 1) := by decide +kernel
theorem dX4_readTerm_1 : decode cX4_readTerm 1 = .ok (.iload_n 1, 1) := by decide +kernel
theorem dX4_readTerm_2 : decode cX4_readTerm 2 = .ok (.invokevirtual 185, 3) := by decide +kernel
theorem dX4_readTerm_5 : decode cX4_readTerm 5 = .ok (.ifCond .ne 5, 3) := by decide +kernel
theorem dX4_readTerm_8 : decode cX4_readTerm 8 = .ok (.iconst 0, 1) := by decide +kernel
theorem dX4_readTerm_9 : decode cX4_readTerm 9 = .ok (.ireturn, 1) := by decide +kernel
theorem dX4_readTerm_10 : decode cX4_readTerm 10 = .ok (.iconst 0, 1) := by decide +kernel
theorem dX4_readTerm_11 : decode cX4_readTerm 11 = .ok (.istore_n 2, 1) := by decide +kernel
theorem dX4_readTerm_12 : decode cX4_readTerm 12 = .ok (.iload_n 2, 1) := by decide +kernel
theorem dX4_readTerm_13 : decode cX4_readTerm 13 = .ok (.aload_n 0, 1) := by decide +kernel
theorem dX4_readTerm_14 : decode cX4_readTerm 14 = .ok (.getfield 25, 3) := by decide +kernel
theorem dX4_readTerm_17 : decode cX4_readTerm 17 = .ok (.if_icmp .ge 63, 3) := by decide +kernel
theorem dX4_readTerm_20 : decode cX4_readTerm 20 = .ok (.aload_n 0, 1) := by decide +kernel
theorem dX4_readTerm_21 : decode cX4_readTerm 21 = .ok (.bipush 42, 2) := by decide +kernel
theorem dX4_readTerm_23 : decode cX4_readTerm 23 = .ok (.invokevirtual 178, 3) := by decide +kernel
theorem dX4_readTerm_26 : decode cX4_readTerm 26 = .ok (.ifCond .ne 12, 3) := by decide +kernel
theorem dX4_readTerm_29 : decode cX4_readTerm 29 = .ok (.aload_n 0, 1) := by decide +kernel
theorem dX4_readTerm_30 : decode cX4_readTerm 30 = .ok (.bipush 47, 2) := by decide +kernel
theorem dX4_readTerm_32 : decode cX4_readTerm 32 = .ok (.invokevirtual 178, 3) := by decide +kernel
theorem dX4_readTerm_35 : decode cX4_readTerm 35 = .ok (.ifCond .eq 45, 3) := by decide +kernel
theorem dX4_readTerm_38 : decode cX4_readTerm 38 = .ok (.aload_n 0, 1) := by decide +kernel
theorem dX4_readTerm_39 : decode cX4_readTerm 39 = .ok (.bipush 42, 2) := by decide +kernel
theorem dX4_readTerm_41 : decode cX4_readTerm 41 = .ok (.invokevirtual 178, 3) := by decide +kernel
theorem dX4_readTerm_44 : decode cX4_readTerm 44 = .ok (.ifCond .eq 8, 3) := by decide +kernel
theorem dX4_readTerm_47 : decode cX4_readTerm 47 = .ok (.bipush (-7), 2) := by decide +kernel
theorem dX4_readTerm_49 : decode cX4_readTerm 49 = .ok (.goto 5, 3) := by decide +kernel
theorem dX4_readTerm_52 : decode cX4_readTerm 52 = .ok (.bipush (-8), 2) := by decide +kernel
theorem dX4_readTerm_54 : decode cX4_readTerm 54 = .ok (.istore_n 3, 1) := by decide +kernel
theorem dX4_readTerm_55 : decode cX4_readTerm 55 = .ok (.aload_n 0, 1) := by decide +kernel
theorem dX4_readTerm_56 : decode cX4_readTerm 56 = .ok (.invokevirtual 49, 3) := by decide +kernel
theorem dX4_readTerm_59 : decode cX4_readTerm 59 = .ok (.aload_n 0, 1) := by decide +kernel
theorem dX4_readTerm_60 : decode cX4_readTerm 60 = .ok (.iload_n 1, 1) := by decide +kernel
theorem dX4_readTerm_61 : decode cX4_readTerm 61 = .ok (.invokevirtual 185, 3) := by decide +kernel
theorem dX4_readTerm_64 : decode cX4_readTerm 64 = .ok (.ifCond .ne 5, 3) := by decide +kernel
theorem dX4_readTerm_67 : decode cX4_readTerm 67 = .ok (.iconst 0, 1) := by decide +kernel
theorem dX4_readTerm_68 : decode cX4_readTerm 68 = .ok (.ireturn, 1) := by decide +kernel
theorem dX4_readTerm_69 : decode cX4_readTerm 69 = .ok (.aload_n 0, 1) := by decide +kernel
theorem dX4_readTerm_70 : decode cX4_readTerm 70 = .ok (.iload_n 3, 1) := by decide +kernel
theorem dX4_readTerm_71 : decode cX4_readTerm 71 = .ok (.invokevirtual 181, 3) := by decide +kernel
theorem dX4_readTerm_74 : decode cX4_readTerm 74 = .ok (.iinc 2 1, 3) := by decide +kernel
theorem dX4_readTerm_77 : decode cX4_readTerm 77 = .ok (.goto (-65), 3) := by decide +kernel
theorem dX4_readTerm_80 : decode cX4_readTerm 80 = .ok (.iconst 1, 1) := by decide +kernel
theorem dX4_readTerm_81 : decode cX4_readTerm 81 = .ok (.ireturn, 1) := by decide +kernel
theorem dX4_readFactor_0 : decode cX4_readFactor 0 = .ok (.aload_n 0, 1) := by decide +kernel
theorem dX4_readFactor_1 : decode cX4_readFactor 1 = .ok (.bipush 40, 2) := by decide +kernel
theorem dX4_readFactor_3 : decode cX4_readFactor 3 = .ok (.invokevirtual 178, 3) := by decide +kernel
theorem dX4_readFactor_6 : decode cX4_readFactor 6 = .ok (.ifCond .eq 44, 3) := by decide +kernel
theorem dX4_readFactor_9 : decode cX4_readFactor 9 = .ok (.iload_n 1, 1) := by decide +kernel
theorem dX4_readFactor_10 : decode cX4_readFactor 10 = .ok (.iconst 4, 1) := by decide +kernel
theorem dX4_readFactor_11 : decode cX4_readFactor 11 = .ok (.if_icmp .lt 10, 3) := by decide +kernel
theorem dX4_readFactor_14 : decode cX4_readFactor 14 = .ok (.aload_n 0, 1) := by decide +kernel
theorem dX4_readFactor_15 : decode cX4_readFactor 15 = .ok (.bipush (-6), 2) := by decide +kernel
theorem dX4_readFactor_17 : decode cX4_readFactor 17 = .ok (.invokevirtual 72, 3) := by decide +kernel
theorem dX4_readFactor_20 : decode cX4_readFactor 20 = .ok (.ireturn, 1) := by decide +kernel
theorem dX4_readFactor_21 : decode cX4_readFactor 21 = .ok (.aload_n 0, 1) := by decide +kernel
theorem dX4_readFactor_22 : decode cX4_readFactor 22 = .ok (.invokevirtual 49, 3) := by decide +kernel
theorem dX4_readFactor_25 : decode cX4_readFactor 25 = .ok (.aload_n 0, 1) := by decide +kernel
theorem dX4_readFactor_26 : decode cX4_readFactor 26 = .ok (.iload_n 1, 1) := by decide +kernel
theorem dX4_readFactor_27 : decode cX4_readFactor 27 = .ok (.iconst 1, 1) := by decide +kernel
theorem dX4_readFactor_28 : decode cX4_readFactor 28 = .ok (.iadd, 1) := by decide +kernel
theorem dX4_readFactor_29 : decode cX4_readFactor 29 = .ok (.invokevirtual 146, 3) := by decide +kernel
theorem dX4_readFactor_32 : decode cX4_readFactor 32 = .ok (.ifCond .eq 16, 3) := by decide +kernel
theorem dX4_readFactor_35 : decode cX4_readFactor 35 = .ok (.aload_n 0, 1) := by decide +kernel
theorem dX4_readFactor_36 : decode cX4_readFactor 36 = .ok (.bipush 41, 2) := by decide +kernel
theorem dX4_readFactor_38 : decode cX4_readFactor 38 = .ok (.invokevirtual 62, 3) := by decide +kernel
theorem dX4_readFactor_41 : decode cX4_readFactor 41 = .ok (.ifCond .eq 7, 3) := by decide +kernel
theorem dX4_readFactor_44 : decode cX4_readFactor 44 = .ok (.iconst 1, 1) := by decide +kernel
theorem dX4_readFactor_45 : decode cX4_readFactor 45 = .ok (.goto 4, 3) := by decide +kernel
theorem dX4_readFactor_48 : decode cX4_readFactor 48 = .ok (.iconst 0, 1) := by decide +kernel
theorem dX4_readFactor_49 : decode cX4_readFactor 49 = .ok (.ireturn, 1) := by decide +kernel
theorem dX4_readFactor_50 : decode cX4_readFactor 50 = .ok (.aload_n 0, 1) := by decide +kernel
theorem dX4_readFactor_51 : decode cX4_readFactor 51 = .ok (.getfield 56, 3) := by decide +kernel
theorem dX4_readFactor_54 : decode cX4_readFactor 54 = .ok (.iconst 1, 1) := by decide +kernel
theorem dX4_readFactor_55 : decode cX4_readFactor 55 = .ok (.if_icmp .ne 26, 3) := by decide +kernel
theorem dX4_readFactor_58 : decode cX4_readFactor 58 = .ok (.aload_n 0, 1) := by decide +kernel
theorem dX4_readFactor_59 : decode cX4_readFactor 59 = .ok (.iconst 0, 1) := by decide +kernel
theorem dX4_readFactor_60 : decode cX4_readFactor 60 = .ok (.sipush 9999, 3) := by decide +kernel
theorem dX4_readFactor_63 : decode cX4_readFactor 63 = .ok (.invokevirtual 76, 3) := by decide +kernel
theorem dX4_readFactor_66 : decode cX4_readFactor 66 = .ok (.ifCond .ne 5, 3) := by decide +kernel
theorem dX4_readFactor_69 : decode cX4_readFactor 69 = .ok (.iconst 0, 1) := by decide +kernel
theorem dX4_readFactor_70 : decode cX4_readFactor 70 = .ok (.ireturn, 1) := by decide +kernel
theorem dX4_readFactor_71 : decode cX4_readFactor 71 = .ok (.aload_n 0, 1) := by decide +kernel
theorem dX4_readFactor_72 : decode cX4_readFactor 72 = .ok (.aload_n 0, 1) := by decide +kernel
theorem dX4_readFactor_73 : decode cX4_readFactor 73 = .ok (.getfield 80, 3) := by decide +kernel
theorem dX4_readFactor_76 : decode cX4_readFactor 76 = .ok (.invokevirtual 181, 3) := by decide +kernel
theorem dX4_readFactor_79 : decode cX4_readFactor 79 = .ok (.iconst 1, 1) := by decide +kernel
theorem dX4_readFactor_80 : decode cX4_readFactor 80 = .ok (.ireturn, 1) := by decide +kernel
theorem dX4_readFactor_81 : decode cX4_readFactor 81 = .ok (.aload_n 0, 1) := by decide +kernel
theorem dX4_readFactor_82 : decode cX4_readFactor 82 = .ok (.invokevirtual 188, 3) := by decide +kernel
theorem dX4_readFactor_85 : decode cX4_readFactor 85 = .ok (.istore_n 2, 1) := by decide +kernel
theorem dX4_readFactor_86 : decode cX4_readFactor 86 = .ok (.iload_n 2, 1) := by decide +kernel
theorem dX4_readFactor_87 : decode cX4_readFactor 87 = .ok (.ifCond .ne 10, 3) := by decide +kernel
theorem dX4_readFactor_90 : decode cX4_readFactor 90 = .ok (.aload_n 0, 1) := by decide +kernel
theorem dX4_readFactor_91 : decode cX4_readFactor 91 = .ok (.bipush (-2), 2) := by decide +kernel
theorem dX4_readFactor_93 : decode cX4_readFactor 93 = .ok (.invokevirtual 72, 3) := by decide +kernel
theorem dX4_readFactor_96 : decode cX4_readFactor 96 = .ok (.ireturn, 1) := by decide +kernel
theorem dX4_readFactor_97 : decode cX4_readFactor 97 = .ok (.aload_n 0, 1) := by decide +kernel
theorem dX4_readFactor_98 : decode cX4_readFactor 98 = .ok (.iload_n 2, 1) := by decide +kernel
theorem dX4_readFactor_99 : decode cX4_readFactor 99 = .ok (.invokevirtual 181, 3) := by decide +kernel
theorem dX4_readFactor_102 : decode cX4_readFactor 102 = .ok (.aload_n 0, 1) := by decide +kernel
theorem dX4_readFactor_103 : decode cX4_readFactor 103 = .ok (.invokevirtual 49, 3) := by decide +kernel
theorem dX4_readFactor_106 : decode cX4_readFactor 106 = .ok (.iconst 1, 1) := by decide +kernel
theorem dX4_readFactor_107 : decode cX4_readFactor 107 = .ok (.ireturn, 1) := by decide +kernel
theorem dX4_variableHere_0 : decode cX4_variableHere 0 = .ok (.aload_n 0, 1) := by decide +kernel
theorem dX4_variableHere_1 : decode cX4_variableHere 1 = .ok (.ldc 191, 2) := by decide +kernel
theorem dX4_variableHere_3 : decode cX4_variableHere 3 = .ok (.invokevirtual 68, 3) := by decide +kernel
theorem dX4_variableHere_6 : decode cX4_variableHere 6 = .ok (.ifCond .eq 5, 3) := by decide +kernel
theorem dX4_variableHere_9 : decode cX4_variableHere 9 = .ok (.iconst (-1), 1) := by decide +kernel
theorem dX4_variableHere_10 : decode cX4_variableHere 10 = .ok (.ireturn, 1) := by decide +kernel
theorem dX4_variableHere_11 : decode cX4_variableHere 11 = .ok (.aload_n 0, 1) := by decide +kernel
theorem dX4_variableHere_12 : decode cX4_variableHere 12 = .ok (.ldc 193, 2) := by decide +kernel
theorem dX4_variableHere_14 : decode cX4_variableHere 14 = .ok (.invokevirtual 68, 3) := by decide +kernel
theorem dX4_variableHere_17 : decode cX4_variableHere 17 = .ok (.ifCond .eq 6, 3) := by decide +kernel
theorem dX4_variableHere_20 : decode cX4_variableHere 20 = .ok (.bipush (-2), 2) := by decide +kernel
theorem dX4_variableHere_22 : decode cX4_variableHere 22 = .ok (.ireturn, 1) := by decide +kernel
theorem dX4_variableHere_23 : decode cX4_variableHere 23 = .ok (.aload_n 0, 1) := by decide +kernel
theorem dX4_variableHere_24 : decode cX4_variableHere 24 = .ok (.ldc 195, 2) := by decide +kernel
theorem dX4_variableHere_26 : decode cX4_variableHere 26 = .ok (.invokevirtual 68, 3) := by decide +kernel
theorem dX4_variableHere_29 : decode cX4_variableHere 29 = .ok (.ifCond .eq 6, 3) := by decide +kernel
theorem dX4_variableHere_32 : decode cX4_variableHere 32 = .ok (.bipush (-3), 2) := by decide +kernel
theorem dX4_variableHere_34 : decode cX4_variableHere 34 = .ok (.ireturn, 1) := by decide +kernel
theorem dX4_variableHere_35 : decode cX4_variableHere 35 = .ok (.aload_n 0, 1) := by decide +kernel
theorem dX4_variableHere_36 : decode cX4_variableHere 36 = .ok (.ldc 94, 2) := by decide +kernel
theorem dX4_variableHere_38 : decode cX4_variableHere 38 = .ok (.invokevirtual 68, 3) := by decide +kernel
theorem dX4_variableHere_41 : decode cX4_variableHere 41 = .ok (.ifCond .eq 8, 3) := by decide +kernel
theorem dX4_variableHere_44 : decode cX4_variableHere 44 = .ok (.bipush (-4), 2) := by decide +kernel
theorem dX4_variableHere_46 : decode cX4_variableHere 46 = .ok (.goto 4, 3) := by decide +kernel
theorem dX4_variableHere_49 : decode cX4_variableHere 49 = .ok (.iconst 0, 1) := by decide +kernel
theorem dX4_variableHere_50 : decode cX4_variableHere 50 = .ok (.ireturn, 1) := by decide +kernel
theorem dX4_shapeHere_0 : decode cX4_shapeHere 0 = .ok (.aload_n 0, 1) := by decide +kernel
theorem dX4_shapeHere_1 : decode cX4_shapeHere 1 = .ok (.ldc 197, 2) := by decide +kernel
theorem dX4_shapeHere_3 : decode cX4_shapeHere 3 = .ok (.invokevirtual 68, 3) := by decide +kernel
theorem dX4_shapeHere_6 : decode cX4_shapeHere 6 = .ok (.ifCond .eq 5, 3) := by decide +kernel
theorem dX4_shapeHere_9 : decode cX4_shapeHere 9 = .ok (.iconst 0, 1) := by decide +kernel
theorem dX4_shapeHere_10 : decode cX4_shapeHere 10 = .ok (.ireturn, 1) := by decide +kernel
theorem dX4_shapeHere_11 : decode cX4_shapeHere 11 = .ok (.aload_n 0, 1) := by decide +kernel
theorem dX4_shapeHere_12 : decode cX4_shapeHere 12 = .ok (.ldc 199, 2) := by decide +kernel
theorem dX4_shapeHere_14 : decode cX4_shapeHere 14 = .ok (.invokevirtual 68, 3) := by decide +kernel
theorem dX4_shapeHere_17 : decode cX4_shapeHere 17 = .ok (.ifCond .eq 5, 3) := by decide +kernel
theorem dX4_shapeHere_20 : decode cX4_shapeHere 20 = .ok (.iconst 1, 1) := by decide +kernel
theorem dX4_shapeHere_21 : decode cX4_shapeHere 21 = .ok (.ireturn, 1) := by decide +kernel
theorem dX4_shapeHere_22 : decode cX4_shapeHere 22 = .ok (.aload_n 0, 1) := by decide +kernel
theorem dX4_shapeHere_23 : decode cX4_shapeHere 23 = .ok (.ldc 201, 2) := by decide +kernel
theorem dX4_shapeHere_25 : decode cX4_shapeHere 25 = .ok (.invokevirtual 68, 3) := by decide +kernel
theorem dX4_shapeHere_28 : decode cX4_shapeHere 28 = .ok (.ifCond .eq 5, 3) := by decide +kernel
theorem dX4_shapeHere_31 : decode cX4_shapeHere 31 = .ok (.iconst 2, 1) := by decide +kernel
theorem dX4_shapeHere_32 : decode cX4_shapeHere 32 = .ok (.ireturn, 1) := by decide +kernel
theorem dX4_shapeHere_33 : decode cX4_shapeHere 33 = .ok (.aload_n 0, 1) := by decide +kernel
theorem dX4_shapeHere_34 : decode cX4_shapeHere 34 = .ok (.ldc 203, 2) := by decide +kernel
theorem dX4_shapeHere_36 : decode cX4_shapeHere 36 = .ok (.invokevirtual 68, 3) := by decide +kernel
theorem dX4_shapeHere_39 : decode cX4_shapeHere 39 = .ok (.ifCond .eq 7, 3) := by decide +kernel
theorem dX4_shapeHere_42 : decode cX4_shapeHere 42 = .ok (.iconst 3, 1) := by decide +kernel
theorem dX4_shapeHere_43 : decode cX4_shapeHere 43 = .ok (.goto 4, 3) := by decide +kernel
theorem dX4_shapeHere_46 : decode cX4_shapeHere 46 = .ok (.iconst (-1), 1) := by decide +kernel
theorem dX4_shapeHere_47 : decode cX4_shapeHere 47 = .ok (.ireturn, 1) := by decide +kernel
theorem dX4_addItem_0 : decode cX4_addItem 0 = .ok (.aload_n 0, 1) := by decide +kernel
theorem dX4_addItem_1 : decode cX4_addItem 1 = .ok (.getfield 143, 3) := by decide +kernel
theorem dX4_addItem_4 : decode cX4_addItem 4 = .ok (.aload_n 0, 1) := by decide +kernel
theorem dX4_addItem_5 : decode cX4_addItem 5 = .ok (.getfield 9, 3) := by decide +kernel
theorem dX4_addItem_8 : decode cX4_addItem 8 = .ok (.arraylength, 1) := by decide +kernel
theorem dX4_addItem_9 : decode cX4_addItem 9 = .ok (.if_icmp .ge 23, 3) := by decide +kernel
theorem dX4_addItem_12 : decode cX4_addItem 12 = .ok (.aload_n 0, 1) := by decide +kernel
theorem dX4_addItem_13 : decode cX4_addItem 13 = .ok (.getfield 9, 3) := by decide +kernel
theorem dX4_addItem_16 : decode cX4_addItem 16 = .ok (.aload_n 0, 1) := by decide +kernel
theorem dX4_addItem_17 : decode cX4_addItem 17 = .ok (.getfield 143, 3) := by decide +kernel
theorem dX4_addItem_20 : decode cX4_addItem 20 = .ok (.iload_n 1, 1) := by decide +kernel
theorem dX4_addItem_21 : decode cX4_addItem 21 = .ok (.iastore, 1) := by decide +kernel
theorem dX4_addItem_22 : decode cX4_addItem 22 = .ok (.aload_n 0, 1) := by decide +kernel
theorem dX4_addItem_23 : decode cX4_addItem 23 = .ok (.dup, 1) := by decide +kernel
theorem dX4_addItem_24 : decode cX4_addItem 24 = .ok (.getfield 143, 3) := by decide +kernel
theorem dX4_addItem_27 : decode cX4_addItem 27 = .ok (.iconst 1, 1) := by decide +kernel
theorem dX4_addItem_28 : decode cX4_addItem 28 = .ok (.iadd, 1) := by decide +kernel
theorem dX4_addItem_29 : decode cX4_addItem 29 = .ok (.putfield 143, 3) := by decide +kernel
theorem dX4_addItem_32 : decode cX4_addItem 32 = .ok (.return_, 1) := by decide +kernel
theorem dX4_takeNumber_0 : decode cX4_takeNumber 0 = .ok (.aload_n 0, 1) := by decide +kernel
theorem dX4_takeNumber_1 : decode cX4_takeNumber 1 = .ok (.getfield 56, 3) := by decide +kernel
theorem dX4_takeNumber_4 : decode cX4_takeNumber 4 = .ok (.iconst 1, 1) := by decide +kernel
theorem dX4_takeNumber_5 : decode cX4_takeNumber 5 = .ok (.if_icmp .eq 10, 3) := by decide +kernel
theorem dX4_takeNumber_8 : decode cX4_takeNumber 8 = .ok (.aload_n 0, 1) := by decide +kernel
theorem dX4_takeNumber_9 : decode cX4_takeNumber 9 = .ok (.bipush (-2), 2) := by decide +kernel
theorem dX4_takeNumber_11 : decode cX4_takeNumber 11 = .ok (.invokevirtual 72, 3) := by decide +kernel
theorem dX4_takeNumber_14 : decode cX4_takeNumber 14 = .ok (.ireturn, 1) := by decide +kernel
theorem dX4_takeNumber_15 : decode cX4_takeNumber 15 = .ok (.iconst 0, 1) := by decide +kernel
theorem dX4_takeNumber_16 : decode cX4_takeNumber 16 = .ok (.istore_n 3, 1) := by decide +kernel
theorem dX4_takeNumber_17 : decode cX4_takeNumber 17 = .ok (.aload_n 0, 1) := by decide +kernel
theorem dX4_takeNumber_18 : decode cX4_takeNumber 18 = .ok (.getfield 112, 3) := by decide +kernel
theorem dX4_takeNumber_21 : decode cX4_takeNumber 21 = .ok (.istore 4, 2) := by decide +kernel
theorem dX4_takeNumber_23 : decode cX4_takeNumber 23 = .ok (.iload 4, 2) := by decide +kernel
theorem dX4_takeNumber_25 : decode cX4_takeNumber 25 = .ok (.aload_n 0, 1) := by decide +kernel
theorem dX4_takeNumber_26 : decode cX4_takeNumber 26 = .ok (.getfield 46, 3) := by decide +kernel
theorem dX4_takeNumber_29 : decode cX4_takeNumber 29 = .ok (.if_icmp .ge 30, 3) := by decide +kernel
theorem dX4_takeNumber_32 : decode cX4_takeNumber 32 = .ok (.iload_n 3, 1) := by decide +kernel
theorem dX4_takeNumber_33 : decode cX4_takeNumber 33 = .ok (.bipush 10, 2) := by decide +kernel
theorem dX4_takeNumber_35 : decode cX4_takeNumber 35 = .ok (.imul, 1) := by decide +kernel
theorem dX4_takeNumber_36 : decode cX4_takeNumber 36 = .ok (.aload_n 0, 1) := by decide +kernel
theorem dX4_takeNumber_37 : decode cX4_takeNumber 37 = .ok (.getfield 15, 3) := by decide +kernel
theorem dX4_takeNumber_40 : decode cX4_takeNumber 40 = .ok (.iload 4, 2) := by decide +kernel
theorem dX4_takeNumber_42 : decode cX4_takeNumber 42 = .ok (.baload, 1) := by decide +kernel
theorem dX4_takeNumber_43 : decode cX4_takeNumber 43 = .ok (.iadd, 1) := by decide +kernel
theorem dX4_takeNumber_44 : decode cX4_takeNumber 44 = .ok (.bipush 48, 2) := by decide +kernel
theorem dX4_takeNumber_46 : decode cX4_takeNumber 46 = .ok (.isub, 1) := by decide +kernel
theorem dX4_takeNumber_47 : decode cX4_takeNumber 47 = .ok (.ldc 205, 2) := by decide +kernel
theorem dX4_takeNumber_49 : decode cX4_takeNumber 49 = .ok (.invokestatic 19, 3) := by decide +kernel
theorem dX4_takeNumber_52 : decode cX4_takeNumber 52 = .ok (.istore_n 3, 1) := by decide +kernel
theorem dX4_takeNumber_53 : decode cX4_takeNumber 53 = .ok (.iinc 4 1, 3) := by decide +kernel
theorem dX4_takeNumber_56 : decode cX4_takeNumber 56 = .ok (.goto (-33), 3) := by decide +kernel
theorem dX4_takeNumber_59 : decode cX4_takeNumber 59 = .ok (.iload_n 3, 1) := by decide +kernel
theorem dX4_takeNumber_60 : decode cX4_takeNumber 60 = .ok (.iload_n 1, 1) := by decide +kernel
theorem dX4_takeNumber_61 : decode cX4_takeNumber 61 = .ok (.if_icmp .lt 8, 3) := by decide +kernel
theorem dX4_takeNumber_64 : decode cX4_takeNumber 64 = .ok (.iload_n 3, 1) := by decide +kernel
theorem dX4_takeNumber_65 : decode cX4_takeNumber 65 = .ok (.iload_n 2, 1) := by decide +kernel
theorem dX4_takeNumber_66 : decode cX4_takeNumber 66 = .ok (.if_icmp .le 10, 3) := by decide +kernel
theorem dX4_takeNumber_69 : decode cX4_takeNumber 69 = .ok (.aload_n 0, 1) := by decide +kernel
theorem dX4_takeNumber_70 : decode cX4_takeNumber 70 = .ok (.bipush (-3), 2) := by decide +kernel
theorem dX4_takeNumber_72 : decode cX4_takeNumber 72 = .ok (.invokevirtual 72, 3) := by decide +kernel
theorem dX4_takeNumber_75 : decode cX4_takeNumber 75 = .ok (.ireturn, 1) := by decide +kernel
theorem dX4_takeNumber_76 : decode cX4_takeNumber 76 = .ok (.aload_n 0, 1) := by decide +kernel
theorem dX4_takeNumber_77 : decode cX4_takeNumber 77 = .ok (.iload_n 3, 1) := by decide +kernel
theorem dX4_takeNumber_78 : decode cX4_takeNumber 78 = .ok (.putfield 80, 3) := by decide +kernel
theorem dX4_takeNumber_81 : decode cX4_takeNumber 81 = .ok (.aload_n 0, 1) := by decide +kernel
theorem dX4_takeNumber_82 : decode cX4_takeNumber 82 = .ok (.invokevirtual 49, 3) := by decide +kernel
theorem dX4_takeNumber_85 : decode cX4_takeNumber 85 = .ok (.iconst 1, 1) := by decide +kernel
theorem dX4_takeNumber_86 : decode cX4_takeNumber 86 = .ok (.ireturn, 1) := by decide +kernel
theorem dX4_takeSign_0 : decode cX4_takeSign 0 = .ok (.aload_n 0, 1) := by decide +kernel
theorem dX4_takeSign_1 : decode cX4_takeSign 1 = .ok (.iload_n 1, 1) := by decide +kernel
theorem dX4_takeSign_2 : decode cX4_takeSign 2 = .ok (.invokevirtual 178, 3) := by decide +kernel
theorem dX4_takeSign_5 : decode cX4_takeSign 5 = .ok (.ifCond .ne 10, 3) := by decide +kernel
theorem dX4_takeSign_8 : decode cX4_takeSign 8 = .ok (.aload_n 0, 1) := by decide +kernel
theorem dX4_takeSign_9 : decode cX4_takeSign 9 = .ok (.bipush (-2), 2) := by decide +kernel
theorem dX4_takeSign_11 : decode cX4_takeSign 11 = .ok (.invokevirtual 72, 3) := by decide +kernel
theorem dX4_takeSign_14 : decode cX4_takeSign 14 = .ok (.ireturn, 1) := by decide +kernel
theorem dX4_takeSign_15 : decode cX4_takeSign 15 = .ok (.aload_n 0, 1) := by decide +kernel
theorem dX4_takeSign_16 : decode cX4_takeSign 16 = .ok (.invokevirtual 49, 3) := by decide +kernel
theorem dX4_takeSign_19 : decode cX4_takeSign 19 = .ok (.iconst 1, 1) := by decide +kernel
theorem dX4_takeSign_20 : decode cX4_takeSign 20 = .ok (.ireturn, 1) := by decide +kernel
theorem dX4_isName_0 : decode cX4_isName 0 = .ok (.aload_n 0, 1) := by decide +kernel
theorem dX4_isName_1 : decode cX4_isName 1 = .ok (.getfield 56, 3) := by decide +kernel
theorem dX4_isName_4 : decode cX4_isName 4 = .ok (.iconst 2, 1) := by decide +kernel
theorem dX4_isName_5 : decode cX4_isName 5 = .ok (.if_icmp .eq 10, 3) := by decide +kernel
theorem dX4_isName_8 : decode cX4_isName 8 = .ok (.aload_n 0, 1) := by decide +kernel
theorem dX4_isName_9 : decode cX4_isName 9 = .ok (.bipush (-2), 2) := by decide +kernel
theorem dX4_isName_11 : decode cX4_isName 11 = .ok (.invokevirtual 72, 3) := by decide +kernel
theorem dX4_isName_14 : decode cX4_isName 14 = .ok (.ireturn, 1) := by decide +kernel
theorem dX4_isName_15 : decode cX4_isName 15 = .ok (.aload_n 0, 1) := by decide +kernel
theorem dX4_isName_16 : decode cX4_isName 16 = .ok (.getfield 46, 3) := by decide +kernel
theorem dX4_isName_19 : decode cX4_isName 19 = .ok (.aload_n 0, 1) := by decide +kernel
theorem dX4_isName_20 : decode cX4_isName 20 = .ok (.getfield 112, 3) := by decide +kernel
theorem dX4_isName_23 : decode cX4_isName 23 = .ok (.isub, 1) := by decide +kernel
theorem dX4_isName_24 : decode cX4_isName 24 = .ok (.bipush 6, 2) := by decide +kernel
theorem dX4_isName_26 : decode cX4_isName 26 = .ok (.if_icmp .le 12, 3) := by decide +kernel
theorem dX4_isName_29 : decode cX4_isName 29 = .ok (.aload_n 0, 1) := by decide +kernel
theorem dX4_isName_30 : decode cX4_isName 30 = .ok (.bipush (-3), 2) := by decide +kernel
theorem dX4_isName_32 : decode cX4_isName 32 = .ok (.invokevirtual 72, 3) := by decide +kernel
theorem dX4_isName_35 : decode cX4_isName 35 = .ok (.ifCond .eq 7, 3) := by decide +kernel
theorem dX4_isName_38 : decode cX4_isName 38 = .ok (.iconst 1, 1) := by decide +kernel
theorem dX4_isName_39 : decode cX4_isName 39 = .ok (.goto 4, 3) := by decide +kernel
theorem dX4_isName_42 : decode cX4_isName 42 = .ok (.iconst 0, 1) := by decide +kernel
theorem dX4_isName_43 : decode cX4_isName 43 = .ok (.ireturn, 1) := by decide +kernel
theorem dX4_isSign_0 : decode cX4_isSign 0 = .ok (.aload_n 0, 1) := by decide +kernel
theorem dX4_isSign_1 : decode cX4_isSign 1 = .ok (.getfield 56, 3) := by decide +kernel
theorem dX4_isSign_4 : decode cX4_isSign 4 = .ok (.iconst 3, 1) := by decide +kernel
theorem dX4_isSign_5 : decode cX4_isSign 5 = .ok (.if_icmp .ne 20, 3) := by decide +kernel
theorem dX4_isSign_8 : decode cX4_isSign 8 = .ok (.aload_n 0, 1) := by decide +kernel
theorem dX4_isSign_9 : decode cX4_isSign 9 = .ok (.getfield 15, 3) := by decide +kernel
theorem dX4_isSign_12 : decode cX4_isSign 12 = .ok (.aload_n 0, 1) := by decide +kernel
theorem dX4_isSign_13 : decode cX4_isSign 13 = .ok (.getfield 112, 3) := by decide +kernel
theorem dX4_isSign_16 : decode cX4_isSign 16 = .ok (.baload, 1) := by decide +kernel
theorem dX4_isSign_17 : decode cX4_isSign 17 = .ok (.iload_n 1, 1) := by decide +kernel
theorem dX4_isSign_18 : decode cX4_isSign 18 = .ok (.if_icmp .ne 7, 3) := by decide +kernel
theorem dX4_isSign_21 : decode cX4_isSign 21 = .ok (.iconst 1, 1) := by decide +kernel
theorem dX4_isSign_22 : decode cX4_isSign 22 = .ok (.goto 4, 3) := by decide +kernel
theorem dX4_isSign_25 : decode cX4_isSign 25 = .ok (.iconst 0, 1) := by decide +kernel
theorem dX4_isSign_26 : decode cX4_isSign 26 = .ok (.ireturn, 1) := by decide +kernel
theorem dX4_isWord_0 : decode cX4_isWord 0 = .ok (.aload_n 0, 1) := by decide +kernel
theorem dX4_isWord_1 : decode cX4_isWord 1 = .ok (.getfield 56, 3) := by decide +kernel
theorem dX4_isWord_4 : decode cX4_isWord 4 = .ok (.iconst 2, 1) := by decide +kernel
theorem dX4_isWord_5 : decode cX4_isWord 5 = .ok (.if_icmp .ne 19, 3) := by decide +kernel
theorem dX4_isWord_8 : decode cX4_isWord 8 = .ok (.aload_n 0, 1) := by decide +kernel
theorem dX4_isWord_9 : decode cX4_isWord 9 = .ok (.getfield 46, 3) := by decide +kernel
theorem dX4_isWord_12 : decode cX4_isWord 12 = .ok (.aload_n 0, 1) := by decide +kernel
theorem dX4_isWord_13 : decode cX4_isWord 13 = .ok (.getfield 112, 3) := by decide +kernel
theorem dX4_isWord_16 : decode cX4_isWord 16 = .ok (.isub, 1) := by decide +kernel
theorem dX4_isWord_17 : decode cX4_isWord 17 = .ok (.aload_n 1, 1) := by decide +kernel
theorem dX4_isWord_18 : decode cX4_isWord 18 = .ok (.invokevirtual 206, 3) := by decide +kernel
theorem dX4_isWord_21 : decode cX4_isWord 21 = .ok (.if_icmp .eq 5, 3) := by decide +kernel
theorem dX4_isWord_24 : decode cX4_isWord 24 = .ok (.iconst 0, 1) := by decide +kernel
theorem dX4_isWord_25 : decode cX4_isWord 25 = .ok (.ireturn, 1) := by decide +kernel
theorem dX4_isWord_26 : decode cX4_isWord 26 = .ok (.iconst 0, 1) := by decide +kernel
theorem dX4_isWord_27 : decode cX4_isWord 27 = .ok (.istore_n 2, 1) := by decide +kernel
theorem dX4_isWord_28 : decode cX4_isWord 28 = .ok (.iload_n 2, 1) := by decide +kernel
theorem dX4_isWord_29 : decode cX4_isWord 29 = .ok (.aload_n 1, 1) := by decide +kernel
theorem dX4_isWord_30 : decode cX4_isWord 30 = .ok (.invokevirtual 206, 3) := by decide +kernel
theorem dX4_isWord_33 : decode cX4_isWord 33 = .ok (.if_icmp .ge 30, 3) := by decide +kernel
theorem dX4_isWord_36 : decode cX4_isWord 36 = .ok (.aload_n 0, 1) := by decide +kernel
theorem dX4_isWord_37 : decode cX4_isWord 37 = .ok (.getfield 15, 3) := by decide +kernel
theorem dX4_isWord_40 : decode cX4_isWord 40 = .ok (.aload_n 0, 1) := by decide +kernel
theorem dX4_isWord_41 : decode cX4_isWord 41 = .ok (.getfield 112, 3) := by decide +kernel
theorem dX4_isWord_44 : decode cX4_isWord 44 = .ok (.iload_n 2, 1) := by decide +kernel
theorem dX4_isWord_45 : decode cX4_isWord 45 = .ok (.iadd, 1) := by decide +kernel
theorem dX4_isWord_46 : decode cX4_isWord 46 = .ok (.baload, 1) := by decide +kernel
theorem dX4_isWord_47 : decode cX4_isWord 47 = .ok (.aload_n 1, 1) := by decide +kernel
theorem dX4_isWord_48 : decode cX4_isWord 48 = .ok (.iload_n 2, 1) := by decide +kernel
theorem dX4_isWord_49 : decode cX4_isWord 49 = .ok (.invokevirtual 210, 3) := by decide +kernel
theorem dX4_isWord_52 : decode cX4_isWord 52 = .ok (.if_icmp .eq 5, 3) := by decide +kernel
theorem dX4_isWord_55 : decode cX4_isWord 55 = .ok (.iconst 0, 1) := by decide +kernel
theorem dX4_isWord_56 : decode cX4_isWord 56 = .ok (.ireturn, 1) := by decide +kernel
theorem dX4_isWord_57 : decode cX4_isWord 57 = .ok (.iinc 2 1, 3) := by decide +kernel
theorem dX4_isWord_60 : decode cX4_isWord 60 = .ok (.goto (-32), 3) := by decide +kernel
theorem dX4_isWord_63 : decode cX4_isWord 63 = .ok (.iconst 1, 1) := by decide +kernel
theorem dX4_isWord_64 : decode cX4_isWord 64 = .ok (.ireturn, 1) := by decide +kernel
theorem dX4_fail_0 : decode cX4_fail 0 = .ok (.aload_n 0, 1) := by decide +kernel
theorem dX4_fail_1 : decode cX4_fail 1 = .ok (.iload_n 1, 1) := by decide +kernel
theorem dX4_fail_2 : decode cX4_fail 2 = .ok (.putfield 33, 3) := by decide +kernel
theorem dX4_fail_5 : decode cX4_fail 5 = .ok (.aload_n 0, 1) := by decide +kernel
theorem dX4_fail_6 : decode cX4_fail 6 = .ok (.aload_n 0, 1) := by decide +kernel
theorem dX4_fail_7 : decode cX4_fail 7 = .ok (.getfield 112, 3) := by decide +kernel
theorem dX4_fail_10 : decode cX4_fail 10 = .ok (.putfield 36, 3) := by decide +kernel
theorem dX4_fail_13 : decode cX4_fail 13 = .ok (.iconst 0, 1) := by decide +kernel
theorem dX4_fail_14 : decode cX4_fail 14 = .ok (.ireturn, 1) := by decide +kernel
theorem dX4_advance_0 : decode cX4_advance 0 = .ok (.aload_n 0, 1) := by decide +kernel
theorem dX4_advance_1 : decode cX4_advance 1 = .ok (.aload_n 0, 1) := by decide +kernel
theorem dX4_advance_2 : decode cX4_advance 2 = .ok (.getfield 46, 3) := by decide +kernel
theorem dX4_advance_5 : decode cX4_advance 5 = .ok (.putfield 112, 3) := by decide +kernel
theorem dX4_advance_8 : decode cX4_advance 8 = .ok (.aload_n 0, 1) := by decide +kernel
theorem dX4_advance_9 : decode cX4_advance 9 = .ok (.getfield 112, 3) := by decide +kernel
theorem dX4_advance_12 : decode cX4_advance 12 = .ok (.aload_n 0, 1) := by decide +kernel
theorem dX4_advance_13 : decode cX4_advance 13 = .ok (.getfield 25, 3) := by decide +kernel
theorem dX4_advance_16 : decode cX4_advance 16 = .ok (.if_icmp .ge 30, 3) := by decide +kernel
theorem dX4_advance_19 : decode cX4_advance 19 = .ok (.aload_n 0, 1) := by decide +kernel
theorem dX4_advance_20 : decode cX4_advance 20 = .ok (.getfield 15, 3) := by decide +kernel
theorem dX4_advance_23 : decode cX4_advance 23 = .ok (.aload_n 0, 1) := by decide +kernel
theorem dX4_advance_24 : decode cX4_advance 24 = .ok (.getfield 112, 3) := by decide +kernel
theorem dX4_advance_27 : decode cX4_advance 27 = .ok (.baload, 1) := by decide +kernel
theorem dX4_advance_28 : decode cX4_advance 28 = .ok (.bipush 32, 2) := by decide +kernel
theorem dX4_advance_30 : decode cX4_advance 30 = .ok (.if_icmp .ne 16, 3) := by decide +kernel
theorem dX4_advance_33 : decode cX4_advance 33 = .ok (.aload_n 0, 1) := by decide +kernel
theorem dX4_advance_34 : decode cX4_advance 34 = .ok (.dup, 1) := by decide +kernel
theorem dX4_advance_35 : decode cX4_advance 35 = .ok (.getfield 112, 3) := by decide +kernel
theorem dX4_advance_38 : decode cX4_advance 38 = .ok (.iconst 1, 1) := by decide +kernel
theorem dX4_advance_39 : decode cX4_advance 39 = .ok (.iadd, 1) := by decide +kernel
theorem dX4_advance_40 : decode cX4_advance 40 = .ok (.putfield 112, 3) := by decide +kernel
theorem dX4_advance_43 : decode cX4_advance 43 = .ok (.goto (-35), 3) := by decide +kernel
theorem dX4_advance_46 : decode cX4_advance 46 = .ok (.aload_n 0, 1) := by decide +kernel
theorem dX4_advance_47 : decode cX4_advance 47 = .ok (.getfield 112, 3) := by decide +kernel
theorem dX4_advance_50 : decode cX4_advance 50 = .ok (.aload_n 0, 1) := by decide +kernel
theorem dX4_advance_51 : decode cX4_advance 51 = .ok (.getfield 25, 3) := by decide +kernel
theorem dX4_advance_54 : decode cX4_advance 54 = .ok (.if_icmp .lt 17, 3) := by decide +kernel
theorem dX4_advance_57 : decode cX4_advance 57 = .ok (.aload_n 0, 1) := by decide +kernel
theorem dX4_advance_58 : decode cX4_advance 58 = .ok (.iconst 0, 1) := by decide +kernel
theorem dX4_advance_59 : decode cX4_advance 59 = .ok (.putfield 56, 3) := by decide +kernel
theorem dX4_advance_62 : decode cX4_advance 62 = .ok (.aload_n 0, 1) := by decide +kernel
theorem dX4_advance_63 : decode cX4_advance 63 = .ok (.aload_n 0, 1) := by decide +kernel
theorem dX4_advance_64 : decode cX4_advance 64 = .ok (.getfield 112, 3) := by decide +kernel
theorem dX4_advance_67 : decode cX4_advance 67 = .ok (.putfield 46, 3) := by decide +kernel
theorem dX4_advance_70 : decode cX4_advance 70 = .ok (.return_, 1) := by decide +kernel
theorem dX4_advance_71 : decode cX4_advance 71 = .ok (.aload_n 0, 1) := by decide +kernel
theorem dX4_advance_72 : decode cX4_advance 72 = .ok (.iconst 3, 1) := by decide +kernel
theorem dX4_advance_73 : decode cX4_advance 73 = .ok (.putfield 56, 3) := by decide +kernel
theorem dX4_advance_76 : decode cX4_advance 76 = .ok (.aload_n 0, 1) := by decide +kernel
theorem dX4_advance_77 : decode cX4_advance 77 = .ok (.aload_n 0, 1) := by decide +kernel
theorem dX4_advance_78 : decode cX4_advance 78 = .ok (.getfield 112, 3) := by decide +kernel
theorem dX4_advance_81 : decode cX4_advance 81 = .ok (.iconst 1, 1) := by decide +kernel
theorem dX4_advance_82 : decode cX4_advance 82 = .ok (.iadd, 1) := by decide +kernel
theorem dX4_advance_83 : decode cX4_advance 83 = .ok (.putfield 46, 3) := by decide +kernel
theorem dX4_advance_86 : decode cX4_advance 86 = .ok (.aload_n 0, 1) := by decide +kernel
theorem dX4_advance_87 : decode cX4_advance 87 = .ok (.bipush 97, 2) := by decide +kernel
theorem dX4_advance_89 : decode cX4_advance 89 = .ok (.bipush 122, 2) := by decide +kernel
theorem dX4_advance_91 : decode cX4_advance 91 = .ok (.iconst 2, 1) := by decide +kernel
theorem dX4_advance_92 : decode cX4_advance 92 = .ok (.invokevirtual 214, 3) := by decide +kernel
theorem dX4_advance_95 : decode cX4_advance 95 = .ok (.aload_n 0, 1) := by decide +kernel
theorem dX4_advance_96 : decode cX4_advance 96 = .ok (.bipush 48, 2) := by decide +kernel
theorem dX4_advance_98 : decode cX4_advance 98 = .ok (.bipush 57, 2) := by decide +kernel
theorem dX4_advance_100 : decode cX4_advance 100 = .ok (.iconst 1, 1) := by decide +kernel
theorem dX4_advance_101 : decode cX4_advance 101 = .ok (.invokevirtual 214, 3) := by decide +kernel
theorem dX4_advance_104 : decode cX4_advance 104 = .ok (.return_, 1) := by decide +kernel
theorem dX4_takeRun_0 : decode cX4_takeRun 0 = .ok (.aload_n 0, 1) := by decide +kernel
theorem dX4_takeRun_1 : decode cX4_takeRun 1 = .ok (.getfield 15, 3) := by decide +kernel
theorem dX4_takeRun_4 : decode cX4_takeRun 4 = .ok (.aload_n 0, 1) := by decide +kernel
theorem dX4_takeRun_5 : decode cX4_takeRun 5 = .ok (.getfield 112, 3) := by decide +kernel
theorem dX4_takeRun_8 : decode cX4_takeRun 8 = .ok (.baload, 1) := by decide +kernel
theorem dX4_takeRun_9 : decode cX4_takeRun 9 = .ok (.iload_n 1, 1) := by decide +kernel
theorem dX4_takeRun_10 : decode cX4_takeRun 10 = .ok (.if_icmp .lt 16, 3) := by decide +kernel
theorem dX4_takeRun_13 : decode cX4_takeRun 13 = .ok (.aload_n 0, 1) := by decide +kernel
theorem dX4_takeRun_14 : decode cX4_takeRun 14 = .ok (.getfield 15, 3) := by decide +kernel
theorem dX4_takeRun_17 : decode cX4_takeRun 17 = .ok (.aload_n 0, 1) := by decide +kernel
theorem dX4_takeRun_18 : decode cX4_takeRun 18 = .ok (.getfield 112, 3) := by decide +kernel
theorem dX4_takeRun_21 : decode cX4_takeRun 21 = .ok (.baload, 1) := by decide +kernel
theorem dX4_takeRun_22 : decode cX4_takeRun 22 = .ok (.iload_n 2, 1) := by decide +kernel
theorem dX4_takeRun_23 : decode cX4_takeRun 23 = .ok (.if_icmp .le 4, 3) := by decide +kernel
theorem dX4_takeRun_26 : decode cX4_takeRun 26 = .ok (.return_, 1) := by decide +kernel
theorem dX4_takeRun_27 : decode cX4_takeRun 27 = .ok (.aload_n 0, 1) := by decide +kernel
theorem dX4_takeRun_28 : decode cX4_takeRun 28 = .ok (.iload_n 3, 1) := by decide +kernel
theorem dX4_takeRun_29 : decode cX4_takeRun 29 = .ok (.putfield 56, 3) := by decide +kernel
theorem dX4_takeRun_32 : decode cX4_takeRun 32 = .ok (.aload_n 0, 1) := by decide +kernel
theorem dX4_takeRun_33 : decode cX4_takeRun 33 = .ok (.getfield 46, 3) := by decide +kernel
theorem dX4_takeRun_36 : decode cX4_takeRun 36 = .ok (.aload_n 0, 1) := by decide +kernel
theorem dX4_takeRun_37 : decode cX4_takeRun 37 = .ok (.getfield 25, 3) := by decide +kernel
theorem dX4_takeRun_40 : decode cX4_takeRun 40 = .ok (.if_icmp .ge 42, 3) := by decide +kernel
theorem dX4_takeRun_43 : decode cX4_takeRun 43 = .ok (.aload_n 0, 1) := by decide +kernel
theorem dX4_takeRun_44 : decode cX4_takeRun 44 = .ok (.getfield 15, 3) := by decide +kernel
theorem dX4_takeRun_47 : decode cX4_takeRun 47 = .ok (.aload_n 0, 1) := by decide +kernel
theorem dX4_takeRun_48 : decode cX4_takeRun 48 = .ok (.getfield 46, 3) := by decide +kernel
theorem dX4_takeRun_51 : decode cX4_takeRun 51 = .ok (.baload, 1) := by decide +kernel
theorem dX4_takeRun_52 : decode cX4_takeRun 52 = .ok (.iload_n 1, 1) := by decide +kernel
theorem dX4_takeRun_53 : decode cX4_takeRun 53 = .ok (.if_icmp .lt 29, 3) := by decide +kernel
theorem dX4_takeRun_56 : decode cX4_takeRun 56 = .ok (.aload_n 0, 1) := by decide +kernel
theorem dX4_takeRun_57 : decode cX4_takeRun 57 = .ok (.getfield 15, 3) := by decide +kernel
theorem dX4_takeRun_60 : decode cX4_takeRun 60 = .ok (.aload_n 0, 1) := by decide +kernel
theorem dX4_takeRun_61 : decode cX4_takeRun 61 = .ok (.getfield 46, 3) := by decide +kernel
theorem dX4_takeRun_64 : decode cX4_takeRun 64 = .ok (.baload, 1) := by decide +kernel
theorem dX4_takeRun_65 : decode cX4_takeRun 65 = .ok (.iload_n 2, 1) := by decide +kernel
theorem dX4_takeRun_66 : decode cX4_takeRun 66 = .ok (.if_icmp .gt 16, 3) := by decide +kernel
theorem dX4_takeRun_69 : decode cX4_takeRun 69 = .ok (.aload_n 0, 1) := by decide +kernel
theorem dX4_takeRun_70 : decode cX4_takeRun 70 = .ok (.dup, 1) := by decide +kernel
theorem dX4_takeRun_71 : decode cX4_takeRun 71 = .ok (.getfield 46, 3) := by decide +kernel
theorem dX4_takeRun_74 : decode cX4_takeRun 74 = .ok (.iconst 1, 1) := by decide +kernel
theorem dX4_takeRun_75 : decode cX4_takeRun 75 = .ok (.iadd, 1) := by decide +kernel
theorem dX4_takeRun_76 : decode cX4_takeRun 76 = .ok (.putfield 46, 3) := by decide +kernel
theorem dX4_takeRun_79 : decode cX4_takeRun 79 = .ok (.goto (-47), 3) := by decide +kernel
theorem dX4_takeRun_82 : decode cX4_takeRun 82 = .ok (.return_, 1) := by decide +kernel
theorem dX5_init_0 : decode cX5_init 0 = .ok (.aload_n 0, 1) := by decide +kernel
theorem dX5_init_1 : decode cX5_init 1 = .ok (.invokespecial 3, 3) := by decide +kernel
theorem dX5_init_4 : decode cX5_init 4 = .ok (.aload_n 0, 1) := by decide +kernel
theorem dX5_init_5 : decode cX5_init 5 = .ok (.bipush 8, 2) := by decide +kernel
theorem dX5_init_7 : decode cX5_init 7 = .ok (.putfield 9, 3) := by decide +kernel
theorem dX5_init_10 : decode cX5_init 10 = .ok (.aload_n 0, 1) := by decide +kernel
theorem dX5_init_11 : decode cX5_init 11 = .ok (.bipush 8, 2) := by decide +kernel
theorem dX5_init_13 : decode cX5_init 13 = .ok (.putfield 15, 3) := by decide +kernel
theorem dX5_init_16 : decode cX5_init 16 = .ok (.aload_n 0, 1) := by decide +kernel
theorem dX5_init_17 : decode cX5_init 17 = .ok (.iconst 4, 1) := by decide +kernel
theorem dX5_init_18 : decode cX5_init 18 = .ok (.putfield 18, 3) := by decide +kernel
theorem dX5_init_21 : decode cX5_init 21 = .ok (.aload_n 0, 1) := by decide +kernel
theorem dX5_init_22 : decode cX5_init 22 = .ok (.iconst 0, 1) := by decide +kernel
theorem dX5_init_23 : decode cX5_init 23 = .ok (.putfield 21, 3) := by decide +kernel
theorem dX5_init_26 : decode cX5_init 26 = .ok (.aload_n 0, 1) := by decide +kernel
theorem dX5_init_27 : decode cX5_init 27 = .ok (.iconst 4, 1) := by decide +kernel
theorem dX5_init_28 : decode cX5_init 28 = .ok (.anewarray 24, 3) := by decide +kernel
theorem dX5_init_31 : decode cX5_init 31 = .ok (.putfield 26, 3) := by decide +kernel
theorem dX5_init_34 : decode cX5_init 34 = .ok (.aload_n 0, 1) := by decide +kernel
theorem dX5_init_35 : decode cX5_init 35 = .ok (.sipush 192, 3) := by decide +kernel
theorem dX5_init_38 : decode cX5_init 38 = .ok (.newarray .int, 2) := by decide +kernel
theorem dX5_init_40 : decode cX5_init 40 = .ok (.putfield 30, 3) := by decide +kernel
theorem dX5_init_43 : decode cX5_init 43 = .ok (.aload_n 0, 1) := by decide +kernel
theorem dX5_init_44 : decode cX5_init 44 = .ok (.sipush 192, 3) := by decide +kernel
theorem dX5_init_47 : decode cX5_init 47 = .ok (.newarray .int, 2) := by decide +kernel
theorem dX5_init_49 : decode cX5_init 49 = .ok (.putfield 34, 3) := by decide +kernel
theorem dX5_init_52 : decode cX5_init 52 = .ok (.iconst 0, 1) := by decide +kernel
theorem dX5_init_53 : decode cX5_init 53 = .ok (.istore_n 1, 1) := by decide +kernel
theorem dX5_init_54 : decode cX5_init 54 = .ok (.iload_n 1, 1) := by decide +kernel
theorem dX5_init_55 : decode cX5_init 55 = .ok (.iconst 4, 1) := by decide +kernel
theorem dX5_init_56 : decode cX5_init 56 = .ok (.if_icmp .ge 22, 3) := by decide +kernel
theorem dX5_init_59 : decode cX5_init 59 = .ok (.aload_n 0, 1) := by decide +kernel
theorem dX5_init_60 : decode cX5_init 60 = .ok (.getfield 26, 3) := by decide +kernel
theorem dX5_init_63 : decode cX5_init 63 = .ok (.iload_n 1, 1) := by decide +kernel
theorem dX5_init_64 : decode cX5_init 64 = .ok (.new 24, 3) := by decide +kernel
theorem dX5_init_67 : decode cX5_init 67 = .ok (.dup, 1) := by decide +kernel
theorem dX5_init_68 : decode cX5_init 68 = .ok (.invokespecial 37, 3) := by decide +kernel
theorem dX5_init_71 : decode cX5_init 71 = .ok (.aastore, 1) := by decide +kernel
theorem dX5_init_72 : decode cX5_init 72 = .ok (.iinc 1 1, 3) := by decide +kernel
theorem dX5_init_75 : decode cX5_init 75 = .ok (.goto (-21), 3) := by decide +kernel
theorem dX5_init_78 : decode cX5_init 78 = .ok (.return_, 1) := by decide +kernel
theorem dX5_empty_0 : decode cX5_empty 0 = .ok (.aload_n 0, 1) := by decide +kernel
theorem dX5_empty_1 : decode cX5_empty 1 = .ok (.iload_n 1, 1) := by decide +kernel
theorem dX5_empty_2 : decode cX5_empty 2 = .ok (.putfield 9, 3) := by decide +kernel
theorem dX5_empty_5 : decode cX5_empty 5 = .ok (.aload_n 0, 1) := by decide +kernel
theorem dX5_empty_6 : decode cX5_empty 6 = .ok (.iload_n 2, 1) := by decide +kernel
theorem dX5_empty_7 : decode cX5_empty 7 = .ok (.putfield 15, 3) := by decide +kernel
theorem dX5_empty_10 : decode cX5_empty 10 = .ok (.aload_n 0, 1) := by decide +kernel
theorem dX5_empty_11 : decode cX5_empty 11 = .ok (.iconst 4, 1) := by decide +kernel
theorem dX5_empty_12 : decode cX5_empty 12 = .ok (.putfield 18, 3) := by decide +kernel
theorem dX5_empty_15 : decode cX5_empty 15 = .ok (.aload_n 0, 1) := by decide +kernel
theorem dX5_empty_16 : decode cX5_empty 16 = .ok (.iconst 0, 1) := by decide +kernel
theorem dX5_empty_17 : decode cX5_empty 17 = .ok (.putfield 21, 3) := by decide +kernel
theorem dX5_empty_20 : decode cX5_empty 20 = .ok (.aload_n 0, 1) := by decide +kernel
theorem dX5_empty_21 : decode cX5_empty 21 = .ok (.getfield 30, 3) := by decide +kernel
theorem dX5_empty_24 : decode cX5_empty 24 = .ok (.iconst 0, 1) := by decide +kernel
theorem dX5_empty_25 : decode cX5_empty 25 = .ok (.invokestatic 38, 3) := by decide +kernel
theorem dX5_empty_28 : decode cX5_empty 28 = .ok (.aload_n 0, 1) := by decide +kernel
theorem dX5_empty_29 : decode cX5_empty 29 = .ok (.getfield 34, 3) := by decide +kernel
theorem dX5_empty_32 : decode cX5_empty 32 = .ok (.iconst 0, 1) := by decide +kernel
theorem dX5_empty_33 : decode cX5_empty 33 = .ok (.invokestatic 38, 3) := by decide +kernel
theorem dX5_empty_36 : decode cX5_empty 36 = .ok (.return_, 1) := by decide +kernel
theorem dX5_become_0 : decode cX5_become 0 = .ok (.aload_n 0, 1) := by decide +kernel
theorem dX5_become_1 : decode cX5_become 1 = .ok (.aload_n 1, 1) := by decide +kernel
theorem dX5_become_2 : decode cX5_become 2 = .ok (.getfield 9, 3) := by decide +kernel
theorem dX5_become_5 : decode cX5_become 5 = .ok (.putfield 9, 3) := by decide +kernel
theorem dX5_become_8 : decode cX5_become 8 = .ok (.aload_n 0, 1) := by decide +kernel
theorem dX5_become_9 : decode cX5_become 9 = .ok (.aload_n 1, 1) := by decide +kernel
theorem dX5_become_10 : decode cX5_become 10 = .ok (.getfield 15, 3) := by decide +kernel
theorem dX5_become_13 : decode cX5_become 13 = .ok (.putfield 15, 3) := by decide +kernel
theorem dX5_become_16 : decode cX5_become 16 = .ok (.aload_n 0, 1) := by decide +kernel
theorem dX5_become_17 : decode cX5_become 17 = .ok (.aload_n 1, 1) := by decide +kernel
theorem dX5_become_18 : decode cX5_become 18 = .ok (.getfield 18, 3) := by decide +kernel
theorem dX5_become_21 : decode cX5_become 21 = .ok (.putfield 18, 3) := by decide +kernel
theorem dX5_become_24 : decode cX5_become 24 = .ok (.aload_n 0, 1) := by decide +kernel
theorem dX5_become_25 : decode cX5_become 25 = .ok (.aload_n 1, 1) := by decide +kernel
theorem dX5_become_26 : decode cX5_become 26 = .ok (.getfield 21, 3) := by decide +kernel
theorem dX5_become_29 : decode cX5_become 29 = .ok (.putfield 21, 3) := by decide +kernel
theorem dX5_become_32 : decode cX5_become 32 = .ok (.iconst 0, 1) := by decide +kernel
theorem dX5_become_33 : decode cX5_become 33 = .ok (.istore_n 2, 1) := by decide +kernel
theorem dX5_become_34 : decode cX5_become 34 = .ok (.iload_n 2, 1) := by decide +kernel
theorem dX5_become_35 : decode cX5_become 35 = .ok (.aload_n 0, 1) := by decide +kernel
theorem dX5_become_36 : decode cX5_become 36 = .ok (.getfield 21, 3) := by decide +kernel
theorem dX5_become_39 : decode cX5_become 39 = .ok (.if_icmp .ge 24, 3) := by decide +kernel
theorem dX5_become_42 : decode cX5_become 42 = .ok (.aload_n 0, 1) := by decide +kernel
theorem dX5_become_43 : decode cX5_become 43 = .ok (.getfield 26, 3) := by decide +kernel
theorem dX5_become_46 : decode cX5_become 46 = .ok (.iload_n 2, 1) := by decide +kernel
theorem dX5_become_47 : decode cX5_become 47 = .ok (.aaload, 1) := by decide +kernel
theorem dX5_become_48 : decode cX5_become 48 = .ok (.aload_n 1, 1) := by decide +kernel
theorem dX5_become_49 : decode cX5_become 49 = .ok (.getfield 26, 3) := by decide +kernel
theorem dX5_become_52 : decode cX5_become 52 = .ok (.iload_n 2, 1) := by decide +kernel
theorem dX5_become_53 : decode cX5_become 53 = .ok (.aaload, 1) := by decide +kernel
theorem dX5_become_54 : decode cX5_become 54 = .ok (.invokevirtual 44, 3) := by decide +kernel
theorem dX5_become_57 : decode cX5_become 57 = .ok (.iinc 2 1, 3) := by decide +kernel
theorem dX5_become_60 : decode cX5_become 60 = .ok (.goto (-26), 3) := by decide +kernel
theorem dX5_become_63 : decode cX5_become 63 = .ok (.aload_n 1, 1) := by decide +kernel
theorem dX5_become_64 : decode cX5_become 64 = .ok (.getfield 30, 3) := by decide +kernel
theorem dX5_become_67 : decode cX5_become 67 = .ok (.iconst 0, 1) := by decide +kernel
theorem dX5_become_68 : decode cX5_become 68 = .ok (.aload_n 0, 1) := by decide +kernel
theorem dX5_become_69 : decode cX5_become 69 = .ok (.getfield 30, 3) := by decide +kernel
theorem dX5_become_72 : decode cX5_become 72 = .ok (.iconst 0, 1) := by decide +kernel
theorem dX5_become_73 : decode cX5_become 73 = .ok (.sipush 192, 3) := by decide +kernel
theorem dX5_become_76 : decode cX5_become 76 = .ok (.invokestatic 48, 3) := by decide +kernel
theorem dX5_become_79 : decode cX5_become 79 = .ok (.aload_n 1, 1) := by decide +kernel
theorem dX5_become_80 : decode cX5_become 80 = .ok (.getfield 34, 3) := by decide +kernel
theorem dX5_become_83 : decode cX5_become 83 = .ok (.iconst 0, 1) := by decide +kernel
theorem dX5_become_84 : decode cX5_become 84 = .ok (.aload_n 0, 1) := by decide +kernel
theorem dX5_become_85 : decode cX5_become 85 = .ok (.getfield 34, 3) := by decide +kernel
theorem dX5_become_88 : decode cX5_become 88 = .ok (.iconst 0, 1) := by decide +kernel
theorem dX5_become_89 : decode cX5_become 89 = .ok (.sipush 192, 3) := by decide +kernel
theorem dX5_become_92 : decode cX5_become 92 = .ok (.invokestatic 48, 3) := by decide +kernel
theorem dX5_become_95 : decode cX5_become 95 = .ok (.return_, 1) := by decide +kernel
theorem dX5_addPlate_0 : decode cX5_addPlate 0 = .ok (.aload_n 0, 1) := by decide +kernel
theorem dX5_addPlate_1 : decode cX5_addPlate 1 = .ok (.getfield 21, 3) := by decide +kernel
theorem dX5_addPlate_4 : decode cX5_addPlate 4 = .ok (.iconst 4, 1) := by decide +kernel
theorem dX5_addPlate_5 : decode cX5_addPlate 5 = .ok (.if_icmp .lt 4, 3) := by decide +kernel
theorem dX5_addPlate_8 : decode cX5_addPlate 8 = .ok (.return_, 1) := by decide +kernel
theorem dX5_addPlate_9 : decode cX5_addPlate 9 = .ok (.aload_n 0, 1) := by decide +kernel
theorem dX5_addPlate_10 : decode cX5_addPlate 10 = .ok (.getfield 26, 3) := by decide +kernel
theorem dX5_addPlate_13 : decode cX5_addPlate 13 = .ok (.aload_n 0, 1) := by decide +kernel
theorem dX5_addPlate_14 : decode cX5_addPlate 14 = .ok (.getfield 21, 3) := by decide +kernel
theorem dX5_addPlate_17 : decode cX5_addPlate 17 = .ok (.aaload, 1) := by decide +kernel
theorem dX5_addPlate_18 : decode cX5_addPlate 18 = .ok (.astore 7, 2) := by decide +kernel
theorem dX5_addPlate_20 : decode cX5_addPlate 20 = .ok (.aload 7, 2) := by decide +kernel
theorem dX5_addPlate_22 : decode cX5_addPlate 22 = .ok (.lload_n 1, 1) := by decide +kernel
theorem dX5_addPlate_23 : decode cX5_addPlate 23 = .ok (.putfield 54, 3) := by decide +kernel
theorem dX5_addPlate_26 : decode cX5_addPlate 26 = .ok (.aload 7, 2) := by decide +kernel
theorem dX5_addPlate_28 : decode cX5_addPlate 28 = .ok (.iload_n 3, 1) := by decide +kernel
theorem dX5_addPlate_29 : decode cX5_addPlate 29 = .ok (.putfield 58, 3) := by decide +kernel
theorem dX5_addPlate_32 : decode cX5_addPlate 32 = .ok (.aload 7, 2) := by decide +kernel
theorem dX5_addPlate_34 : decode cX5_addPlate 34 = .ok (.iload 4, 2) := by decide +kernel
theorem dX5_addPlate_36 : decode cX5_addPlate 36 = .ok (.putfield 61, 3) := by decide +kernel
theorem dX5_addPlate_39 : decode cX5_addPlate 39 = .ok (.aload 7, 2) := by decide +kernel
theorem dX5_addPlate_41 : decode cX5_addPlate 41 = .ok (.iload 5, 2) := by decide +kernel
theorem dX5_addPlate_43 : decode cX5_addPlate 43 = .ok (.putfield 64, 3) := by decide +kernel
theorem dX5_addPlate_46 : decode cX5_addPlate 46 = .ok (.aload 7, 2) := by decide +kernel
theorem dX5_addPlate_48 : decode cX5_addPlate 48 = .ok (.iconst 0, 1) := by decide +kernel
theorem dX5_addPlate_49 : decode cX5_addPlate 49 = .ok (.putfield 67, 3) := by decide +kernel
theorem dX5_addPlate_52 : decode cX5_addPlate 52 = .ok (.aload 7, 2) := by decide +kernel
theorem dX5_addPlate_54 : decode cX5_addPlate 54 = .ok (.iconst 0, 1) := by decide +kernel
theorem dX5_addPlate_55 : decode cX5_addPlate 55 = .ok (.putfield 70, 3) := by decide +kernel
theorem dX5_addPlate_58 : decode cX5_addPlate 58 = .ok (.aload 7, 2) := by decide +kernel
theorem dX5_addPlate_60 : decode cX5_addPlate 60 = .ok (.sipush 1000, 3) := by decide +kernel
theorem dX5_addPlate_63 : decode cX5_addPlate 63 = .ok (.putfield 73, 3) := by decide +kernel
theorem dX5_addPlate_66 : decode cX5_addPlate 66 = .ok (.aload 7, 2) := by decide +kernel
theorem dX5_addPlate_68 : decode cX5_addPlate 68 = .ok (.aload 6, 2) := by decide +kernel
theorem dX5_addPlate_70 : decode cX5_addPlate 70 = .ok (.putfield 76, 3) := by decide +kernel
theorem dX5_addPlate_73 : decode cX5_addPlate 73 = .ok (.aload_n 0, 1) := by decide +kernel
theorem dX5_addPlate_74 : decode cX5_addPlate 74 = .ok (.dup, 1) := by decide +kernel
theorem dX5_addPlate_75 : decode cX5_addPlate 75 = .ok (.getfield 21, 3) := by decide +kernel
theorem dX5_addPlate_78 : decode cX5_addPlate 78 = .ok (.iconst 1, 1) := by decide +kernel
theorem dX5_addPlate_79 : decode cX5_addPlate 79 = .ok (.iadd, 1) := by decide +kernel
theorem dX5_addPlate_80 : decode cX5_addPlate 80 = .ok (.putfield 21, 3) := by decide +kernel
theorem dX5_addPlate_83 : decode cX5_addPlate 83 = .ok (.return_, 1) := by decide +kernel
theorem dX5_cells_0 : decode cX5_cells 0 = .ok (.aload_n 0, 1) := by decide +kernel
theorem dX5_cells_1 : decode cX5_cells 1 = .ok (.getfield 9, 3) := by decide +kernel
theorem dX5_cells_4 : decode cX5_cells 4 = .ok (.aload_n 0, 1) := by decide +kernel
theorem dX5_cells_5 : decode cX5_cells 5 = .ok (.getfield 15, 3) := by decide +kernel
theorem dX5_cells_8 : decode cX5_cells 8 = .ok (.imul, 1) := by decide +kernel
theorem dX5_cells_9 : decode cX5_cells 9 = .ok (.ireturn, 1) := by decide +kernel
theorem dX5_indexOfCell_0 : decode cX5_indexOfCell 0 = .ok (.iload_n 2, 1) := by decide +kernel
theorem dX5_indexOfCell_1 : decode cX5_indexOfCell 1 = .ok (.aload_n 0, 1) := by decide +kernel
theorem dX5_indexOfCell_2 : decode cX5_indexOfCell 2 = .ok (.getfield 9, 3) := by decide +kernel
theorem dX5_indexOfCell_5 : decode cX5_indexOfCell 5 = .ok (.imul, 1) := by decide +kernel
theorem dX5_indexOfCell_6 : decode cX5_indexOfCell 6 = .ok (.iload_n 1, 1) := by decide +kernel
theorem dX5_indexOfCell_7 : decode cX5_indexOfCell 7 = .ok (.iadd, 1) := by decide +kernel
theorem dX5_indexOfCell_8 : decode cX5_indexOfCell 8 = .ok (.ireturn, 1) := by decide +kernel
theorem dX5_indexOfName_0 : decode cX5_indexOfName 0 = .ok (.iconst 0, 1) := by decide +kernel
theorem dX5_indexOfName_1 : decode cX5_indexOfName 1 = .ok (.istore_n 3, 1) := by decide +kernel
theorem dX5_indexOfName_2 : decode cX5_indexOfName 2 = .ok (.iload_n 3, 1) := by decide +kernel
theorem dX5_indexOfName_3 : decode cX5_indexOfName 3 = .ok (.aload_n 0, 1) := by decide +kernel
theorem dX5_indexOfName_4 : decode cX5_indexOfName 4 = .ok (.getfield 21, 3) := by decide +kernel
theorem dX5_indexOfName_7 : decode cX5_indexOfName 7 = .ok (.if_icmp .ge 25, 3) := by decide +kernel
theorem dX5_indexOfName_10 : decode cX5_indexOfName 10 = .ok (.aload_n 0, 1) := by decide +kernel
theorem dX5_indexOfName_11 : decode cX5_indexOfName 11 = .ok (.getfield 26, 3) := by decide +kernel
theorem dX5_indexOfName_14 : decode cX5_indexOfName 14 = .ok (.iload_n 3, 1) := by decide +kernel
theorem dX5_indexOfName_15 : decode cX5_indexOfName 15 = .ok (.aaload, 1) := by decide +kernel
theorem dX5_indexOfName_16 : decode cX5_indexOfName 16 = .ok (.getfield 54, 3) := by decide +kernel
theorem dX5_indexOfName_19 : decode cX5_indexOfName 19 = .ok (.lload_n 1, 1) := by decide +kernel
theorem dX5_indexOfName_20 : decode cX5_indexOfName 20 = .ok (.lcmp, 1) := by decide +kernel
theorem dX5_indexOfName_21 : decode cX5_indexOfName 21 = .ok (.ifCond .ne 5, 3) := by decide +kernel
theorem dX5_indexOfName_24 : decode cX5_indexOfName 24 = .ok (.iload_n 3, 1) := by decide +kernel
theorem dX5_indexOfName_25 : decode cX5_indexOfName 25 = .ok (.ireturn, 1) := by decide +kernel
theorem dX5_indexOfName_26 : decode cX5_indexOfName 26 = .ok (.iinc 3 1, 3) := by decide +kernel
theorem dX5_indexOfName_29 : decode cX5_indexOfName 29 = .ok (.goto (-27), 3) := by decide +kernel
theorem dX5_indexOfName_32 : decode cX5_indexOfName 32 = .ok (.iconst (-1), 1) := by decide +kernel
theorem dX5_indexOfName_33 : decode cX5_indexOfName 33 = .ok (.ireturn, 1) := by decide +kernel
theorem dX5_isCleaned_0 : decode cX5_isCleaned 0 = .ok (.aload_n 0, 1) := by decide +kernel
theorem dX5_isCleaned_1 : decode cX5_isCleaned 1 = .ok (.getfield 34, 3) := by decide +kernel
theorem dX5_isCleaned_4 : decode cX5_isCleaned 4 = .ok (.iload_n 2, 1) := by decide +kernel
theorem dX5_isCleaned_5 : decode cX5_isCleaned 5 = .ok (.iaload, 1) := by decide +kernel
theorem dX5_isCleaned_6 : decode cX5_isCleaned 6 = .ok (.iload_n 1, 1) := by decide +kernel
theorem dX5_isCleaned_7 : decode cX5_isCleaned 7 = .ok (.ishr, 1) := by decide +kernel
theorem dX5_isCleaned_8 : decode cX5_isCleaned 8 = .ok (.iconst 1, 1) := by decide +kernel
theorem dX5_isCleaned_9 : decode cX5_isCleaned 9 = .ok (.iand, 1) := by decide +kernel
theorem dX5_isCleaned_10 : decode cX5_isCleaned 10 = .ok (.iconst 1, 1) := by decide +kernel
theorem dX5_isCleaned_11 : decode cX5_isCleaned 11 = .ok (.if_icmp .ne 7, 3) := by decide +kernel
theorem dX5_isCleaned_14 : decode cX5_isCleaned 14 = .ok (.iconst 1, 1) := by decide +kernel
theorem dX5_isCleaned_15 : decode cX5_isCleaned 15 = .ok (.goto 4, 3) := by decide +kernel
theorem dX5_isCleaned_18 : decode cX5_isCleaned 18 = .ok (.iconst 0, 1) := by decide +kernel
theorem dX5_isCleaned_19 : decode cX5_isCleaned 19 = .ok (.ireturn, 1) := by decide +kernel
theorem dX5_cleanedOfAll_0 : decode cX5_cleanedOfAll 0 = .ok (.iconst 0, 1) := by decide +kernel
theorem dX5_cleanedOfAll_1 : decode cX5_cleanedOfAll 1 = .ok (.istore_n 1, 1) := by decide +kernel
theorem dX5_cleanedOfAll_2 : decode cX5_cleanedOfAll 2 = .ok (.iconst 0, 1) := by decide +kernel
theorem dX5_cleanedOfAll_3 : decode cX5_cleanedOfAll 3 = .ok (.istore_n 2, 1) := by decide +kernel
theorem dX5_cleanedOfAll_4 : decode cX5_cleanedOfAll 4 = .ok (.iload_n 2, 1) := by decide +kernel
theorem dX5_cleanedOfAll_5 : decode cX5_cleanedOfAll 5 = .ok (.aload_n 0, 1) := by decide +kernel
theorem dX5_cleanedOfAll_6 : decode cX5_cleanedOfAll 6 = .ok (.invokevirtual 80, 3) := by decide +kernel
theorem dX5_cleanedOfAll_9 : decode cX5_cleanedOfAll 9 = .ok (.if_icmp .ge 21, 3) := by decide +kernel
theorem dX5_cleanedOfAll_12 : decode cX5_cleanedOfAll 12 = .ok (.iload_n 1, 1) := by decide +kernel
theorem dX5_cleanedOfAll_13 : decode cX5_cleanedOfAll 13 = .ok (.aload_n 0, 1) := by decide +kernel
theorem dX5_cleanedOfAll_14 : decode cX5_cleanedOfAll 14 = .ok (.getfield 34, 3) := by decide +kernel
theorem dX5_cleanedOfAll_17 : decode cX5_cleanedOfAll 17 = .ok (.iload_n 2, 1) := by decide +kernel
theorem dX5_cleanedOfAll_18 : decode cX5_cleanedOfAll 18 = .ok (.iaload, 1) := by decide +kernel
theorem dX5_cleanedOfAll_19 : decode cX5_cleanedOfAll 19 = .ok (.invokestatic 84, 3) := by decide +kernel
theorem dX5_cleanedOfAll_22 : decode cX5_cleanedOfAll 22 = .ok (.iadd, 1) := by decide +kernel
theorem dX5_cleanedOfAll_23 : decode cX5_cleanedOfAll 23 = .ok (.istore_n 1, 1) := by decide +kernel
theorem dX5_cleanedOfAll_24 : decode cX5_cleanedOfAll 24 = .ok (.iinc 2 1, 3) := by decide +kernel
theorem dX5_cleanedOfAll_27 : decode cX5_cleanedOfAll 27 = .ok (.goto (-23), 3) := by decide +kernel
theorem dX5_cleanedOfAll_30 : decode cX5_cleanedOfAll 30 = .ok (.iload_n 1, 1) := by decide +kernel
theorem dX5_cleanedOfAll_31 : decode cX5_cleanedOfAll 31 = .ok (.ireturn, 1) := by decide +kernel
theorem dX6_init_0 : decode cX6_init 0 = .ok (.aload_n 0, 1) := by decide +kernel
theorem dX6_init_1 : decode cX6_init 1 = .ok (.invokespecial 3, 3) := by decide +kernel
theorem dX6_init_4 : decode cX6_init 4 = .ok (.aload_n 0, 1) := by decide +kernel
theorem dX6_init_5 : decode cX6_init 5 = .ok (.sipush 600, 3) := by decide +kernel
theorem dX6_init_8 : decode cX6_init 8 = .ok (.newarray .byte, 2) := by decide +kernel
theorem dX6_init_10 : decode cX6_init 10 = .ok (.putfield 9, 3) := by decide +kernel
theorem dX6_init_13 : decode cX6_init 13 = .ok (.aload_n 0, 1) := by decide +kernel
theorem dX6_init_14 : decode cX6_init 14 = .ok (.iconst 0, 1) := by decide +kernel
theorem dX6_init_15 : decode cX6_init 15 = .ok (.putfield 13, 3) := by decide +kernel
theorem dX6_init_18 : decode cX6_init 18 = .ok (.aload_n 0, 1) := by decide +kernel
theorem dX6_init_19 : decode cX6_init 19 = .ok (.iconst (-1), 1) := by decide +kernel
theorem dX6_init_20 : decode cX6_init 20 = .ok (.putfield 17, 3) := by decide +kernel
theorem dX6_init_23 : decode cX6_init 23 = .ok (.aload_n 0, 1) := by decide +kernel
theorem dX6_init_24 : decode cX6_init 24 = .ok (.bipush 10, 2) := by decide +kernel
theorem dX6_init_26 : decode cX6_init 26 = .ok (.anewarray 20, 3) := by decide +kernel
theorem dX6_init_29 : decode cX6_init 29 = .ok (.putfield 22, 3) := by decide +kernel
theorem dX6_init_32 : decode cX6_init 32 = .ok (.aload_n 0, 1) := by decide +kernel
theorem dX6_init_33 : decode cX6_init 33 = .ok (.iconst 0, 1) := by decide +kernel
theorem dX6_init_34 : decode cX6_init 34 = .ok (.putfield 26, 3) := by decide +kernel
theorem dX6_init_37 : decode cX6_init 37 = .ok (.aload_n 0, 1) := by decide +kernel
theorem dX6_init_38 : decode cX6_init 38 = .ok (.iconst 0, 1) := by decide +kernel
theorem dX6_init_39 : decode cX6_init 39 = .ok (.putfield 29, 3) := by decide +kernel
theorem dX6_init_42 : decode cX6_init 42 = .ok (.aload_n 0, 1) := by decide +kernel
theorem dX6_init_43 : decode cX6_init 43 = .ok (.new 32, 3) := by decide +kernel
theorem dX6_init_46 : decode cX6_init 46 = .ok (.dup, 1) := by decide +kernel
theorem dX6_init_47 : decode cX6_init 47 = .ok (.invokespecial 34, 3) := by decide +kernel
theorem dX6_init_50 : decode cX6_init 50 = .ok (.putfield 35, 3) := by decide +kernel
theorem dX6_init_53 : decode cX6_init 53 = .ok (.aload_n 0, 1) := by decide +kernel
theorem dX6_init_54 : decode cX6_init 54 = .ok (.new 39, 3) := by decide +kernel
theorem dX6_init_57 : decode cX6_init 57 = .ok (.dup, 1) := by decide +kernel
theorem dX6_init_58 : decode cX6_init 58 = .ok (.invokespecial 41, 3) := by decide +kernel
theorem dX6_init_61 : decode cX6_init 61 = .ok (.putfield 42, 3) := by decide +kernel
theorem dX6_init_64 : decode cX6_init 64 = .ok (.iconst 0, 1) := by decide +kernel
theorem dX6_init_65 : decode cX6_init 65 = .ok (.istore_n 1, 1) := by decide +kernel
theorem dX6_init_66 : decode cX6_init 66 = .ok (.iload_n 1, 1) := by decide +kernel
theorem dX6_init_67 : decode cX6_init 67 = .ok (.bipush 10, 2) := by decide +kernel
theorem dX6_init_69 : decode cX6_init 69 = .ok (.if_icmp .ge 22, 3) := by decide +kernel
theorem dX6_init_72 : decode cX6_init 72 = .ok (.aload_n 0, 1) := by decide +kernel
theorem dX6_init_73 : decode cX6_init 73 = .ok (.getfield 22, 3) := by decide +kernel
theorem dX6_init_76 : decode cX6_init 76 = .ok (.iload_n 1, 1) := by decide +kernel
theorem dX6_init_77 : decode cX6_init 77 = .ok (.new 20, 3) := by decide +kernel
theorem dX6_init_80 : decode cX6_init 80 = .ok (.dup, 1) := by decide +kernel
theorem dX6_init_81 : decode cX6_init 81 = .ok (.invokespecial 46, 3) := by decide +kernel
theorem dX6_init_84 : decode cX6_init 84 = .ok (.aastore, 1) := by decide +kernel
theorem dX6_init_85 : decode cX6_init 85 = .ok (.iinc 1 1, 3) := by decide +kernel
theorem dX6_init_88 : decode cX6_init 88 = .ok (.goto (-22), 3) := by decide +kernel
theorem dX6_init_91 : decode cX6_init 91 = .ok (.aload_n 0, 1) := by decide +kernel
theorem dX6_init_92 : decode cX6_init 92 = .ok (.aload_n 0, 1) := by decide +kernel
theorem dX6_init_93 : decode cX6_init 93 = .ok (.getfield 22, 3) := by decide +kernel
theorem dX6_init_96 : decode cX6_init 96 = .ok (.aload_n 0, 1) := by decide +kernel
theorem dX6_init_97 : decode cX6_init 97 = .ok (.getfield 26, 3) := by decide +kernel
theorem dX6_init_100 : decode cX6_init 100 = .ok (.aaload, 1) := by decide +kernel
theorem dX6_init_101 : decode cX6_init 101 = .ok (.putfield 47, 3) := by decide +kernel
theorem dX6_init_104 : decode cX6_init 104 = .ok (.return_, 1) := by decide +kernel
theorem dX6_append_0 : decode cX6_append 0 = .ok (.aload_n 0, 1) := by decide +kernel
theorem dX6_append_1 : decode cX6_append 1 = .ok (.getfield 13, 3) := by decide +kernel
theorem dX6_append_4 : decode cX6_append 4 = .ok (.sipush 580, 3) := by decide +kernel
theorem dX6_append_7 : decode cX6_append 7 = .ok (.if_icmp .le 5, 3) := by decide +kernel
theorem dX6_append_10 : decode cX6_append 10 = .ok (.iconst (-1), 1) := by decide +kernel
theorem dX6_append_11 : decode cX6_append 11 = .ok (.ireturn, 1) := by decide +kernel
theorem dX6_append_12 : decode cX6_append 12 = .ok (.aload_n 0, 1) := by decide +kernel
theorem dX6_append_13 : decode cX6_append 13 = .ok (.iload_n 1, 1) := by decide +kernel
theorem dX6_append_14 : decode cX6_append 14 = .ok (.invokevirtual 51, 3) := by decide +kernel
theorem dX6_append_17 : decode cX6_append 17 = .ok (.aload_n 0, 1) := by decide +kernel
theorem dX6_append_18 : decode cX6_append 18 = .ok (.iload_n 2, 1) := by decide +kernel
theorem dX6_append_19 : decode cX6_append 19 = .ok (.invokevirtual 51, 3) := by decide +kernel
theorem dX6_append_22 : decode cX6_append 22 = .ok (.aload_n 0, 1) := by decide +kernel
theorem dX6_append_23 : decode cX6_append 23 = .ok (.iload_n 3, 1) := by decide +kernel
theorem dX6_append_24 : decode cX6_append 24 = .ok (.invokevirtual 51, 3) := by decide +kernel
theorem dX6_append_27 : decode cX6_append 27 = .ok (.aload_n 0, 1) := by decide +kernel
theorem dX6_append_28 : decode cX6_append 28 = .ok (.iload 4, 2) := by decide +kernel
theorem dX6_append_30 : decode cX6_append 30 = .ok (.invokevirtual 51, 3) := by decide +kernel
theorem dX6_append_33 : decode cX6_append 33 = .ok (.aload_n 0, 1) := by decide +kernel
theorem dX6_append_34 : decode cX6_append 34 = .ok (.iload 5, 2) := by decide +kernel
theorem dX6_append_36 : decode cX6_append 36 = .ok (.invokevirtual 51, 3) := by decide +kernel
theorem dX6_append_39 : decode cX6_append 39 = .ok (.aload_n 0, 1) := by decide +kernel
theorem dX6_append_40 : decode cX6_append 40 = .ok (.getfield 13, 3) := by decide +kernel
theorem dX6_append_43 : decode cX6_append 43 = .ok (.ireturn, 1) := by decide +kernel
theorem dX6_load_0 : decode cX6_load 0 = .ok (.aload_n 0, 1) := by decide +kernel
theorem dX6_load_1 : decode cX6_load 1 = .ok (.iload_n 1, 1) := by decide +kernel
theorem dX6_load_2 : decode cX6_load 2 = .ok (.invokevirtual 55, 3) := by decide +kernel
theorem dX6_load_5 : decode cX6_load 5 = .ok (.aload_n 0, 1) := by decide +kernel
theorem dX6_load_6 : decode cX6_load 6 = .ok (.iconst 0, 1) := by decide +kernel
theorem dX6_load_7 : decode cX6_load 7 = .ok (.putfield 13, 3) := by decide +kernel
theorem dX6_load_10 : decode cX6_load 10 = .ok (.aload_n 0, 1) := by decide +kernel
theorem dX6_load_11 : decode cX6_load 11 = .ok (.getfield 42, 3) := by decide +kernel
theorem dX6_load_14 : decode cX6_load 14 = .ok (.aload_n 0, 1) := by decide +kernel
theorem dX6_load_15 : decode cX6_load 15 = .ok (.getfield 9, 3) := by decide +kernel
theorem dX6_load_18 : decode cX6_load 18 = .ok (.iload_n 1, 1) := by decide +kernel
theorem dX6_load_19 : decode cX6_load 19 = .ok (.aload_n 0, 1) := by decide +kernel
theorem dX6_load_20 : decode cX6_load 20 = .ok (.invokevirtual 58, 3) := by decide +kernel
theorem dX6_load_23 : decode cX6_load 23 = .ok (.invokevirtual 62, 3) := by decide +kernel
theorem dX6_load_26 : decode cX6_load 26 = .ok (.istore_n 2, 1) := by decide +kernel
theorem dX6_load_27 : decode cX6_load 27 = .ok (.aload_n 0, 1) := by decide +kernel
theorem dX6_load_28 : decode cX6_load 28 = .ok (.aload_n 0, 1) := by decide +kernel
theorem dX6_load_29 : decode cX6_load 29 = .ok (.getfield 42, 3) := by decide +kernel
theorem dX6_load_32 : decode cX6_load 32 = .ok (.getfield 66, 3) := by decide +kernel
theorem dX6_load_35 : decode cX6_load 35 = .ok (.putfield 17, 3) := by decide +kernel
theorem dX6_load_38 : decode cX6_load 38 = .ok (.iload_n 2, 1) := by decide +kernel
theorem dX6_load_39 : decode cX6_load 39 = .ok (.ifCond .ne 11, 3) := by decide +kernel
theorem dX6_load_42 : decode cX6_load 42 = .ok (.aload_n 0, 1) := by decide +kernel
theorem dX6_load_43 : decode cX6_load 43 = .ok (.getfield 42, 3) := by decide +kernel
theorem dX6_load_46 : decode cX6_load 46 = .ok (.getfield 69, 3) := by decide +kernel
theorem dX6_load_49 : decode cX6_load 49 = .ok (.ireturn, 1) := by decide +kernel
theorem dX6_load_50 : decode cX6_load 50 = .ok (.aload_n 0, 1) := by decide +kernel
theorem dX6_load_51 : decode cX6_load 51 = .ok (.invokevirtual 72, 3) := by decide +kernel
theorem dX6_load_54 : decode cX6_load 54 = .ok (.aload_n 0, 1) := by decide +kernel
theorem dX6_load_55 : decode cX6_load 55 = .ok (.getfield 35, 3) := by decide +kernel
theorem dX6_load_58 : decode cX6_load 58 = .ok (.invokevirtual 75, 3) := by decide +kernel
theorem dX6_load_61 : decode cX6_load 61 = .ok (.aload_n 0, 1) := by decide +kernel
theorem dX6_load_62 : decode cX6_load 62 = .ok (.getfield 47, 3) := by decide +kernel
theorem dX6_load_65 : decode cX6_load 65 = .ok (.getfield 78, 3) := by decide +kernel
theorem dX6_load_68 : decode cX6_load 68 = .ok (.ireturn, 1) := by decide +kernel
theorem dX6_state_0 : decode cX6_state 0 = .ok (.iload_n 1, 1) := by decide +kernel
theorem dX6_state_1 : decode cX6_state 1 = .ok (.ifCond .lt 9, 3) := by decide +kernel
theorem dX6_state_4 : decode cX6_state 4 = .ok (.iload_n 1, 1) := by decide +kernel
theorem dX6_state_5 : decode cX6_state 5 = .ok (.bipush 8, 2) := by decide +kernel
theorem dX6_state_7 : decode cX6_state 7 = .ok (.if_icmp .le 13, 3) := by decide +kernel
theorem dX6_state_10 : decode cX6_state 10 = .ok (.new 81, 3) := by decide +kernel
theorem dX6_state_13 : decode cX6_state 13 = .ok (.dup, 1) := by decide +kernel
theorem dX6_state_14 : decode cX6_state 14 = .ok (.ldc 83, 2) := by decide +kernel
theorem dX6_state_16 : decode cX6_state 16 = .ok (.invokespecial 85, 3) := by decide +kernel
theorem dX6_state_19 : decode cX6_state 19 = .ok (.athrow, 1) := by decide +kernel
theorem dX6_state_20 : decode cX6_state 20 = .ok (.aload_n 0, 1) := by decide +kernel
theorem dX6_state_21 : decode cX6_state 21 = .ok (.getfield 35, 3) := by decide +kernel
theorem dX6_state_24 : decode cX6_state 24 = .ok (.aload_n 0, 1) := by decide +kernel
theorem dX6_state_25 : decode cX6_state 25 = .ok (.getfield 47, 3) := by decide +kernel
theorem dX6_state_28 : decode cX6_state 28 = .ok (.invokevirtual 88, 3) := by decide +kernel
theorem dX6_state_31 : decode cX6_state 31 = .ok (.iload_n 1, 1) := by decide +kernel
theorem dX6_state_32 : decode cX6_state 32 = .ok (.tableswitch 156 0 7 #[48, 56, 64, 72, 80, 92, 105, 138], 48) := by decide +kernel
theorem dX6_state_80 : decode cX6_state 80 = .ok (.aload_n 0, 1) := by decide +kernel
theorem dX6_state_81 : decode cX6_state 81 = .ok (.getfield 47, 3) := by decide +kernel
theorem dX6_state_84 : decode cX6_state 84 = .ok (.getfield 92, 3) := by decide +kernel
theorem dX6_state_87 : decode cX6_state 87 = .ok (.ireturn, 1) := by decide +kernel
theorem dX6_state_88 : decode cX6_state 88 = .ok (.aload_n 0, 1) := by decide +kernel
theorem dX6_state_89 : decode cX6_state 89 = .ok (.getfield 47, 3) := by decide +kernel
theorem dX6_state_92 : decode cX6_state 92 = .ok (.getfield 95, 3) := by decide +kernel
theorem dX6_state_95 : decode cX6_state 95 = .ok (.ireturn, 1) := by decide +kernel
theorem dX6_state_96 : decode cX6_state 96 = .ok (.aload_n 0, 1) := by decide +kernel
theorem dX6_state_97 : decode cX6_state 97 = .ok (.getfield 47, 3) := by decide +kernel
theorem dX6_state_100 : decode cX6_state 100 = .ok (.getfield 78, 3) := by decide +kernel
theorem dX6_state_103 : decode cX6_state 103 = .ok (.ireturn, 1) := by decide +kernel
theorem dX6_state_104 : decode cX6_state 104 = .ok (.aload_n 0, 1) := by decide +kernel
theorem dX6_state_105 : decode cX6_state 105 = .ok (.getfield 47, 3) := by decide +kernel
theorem dX6_state_108 : decode cX6_state 108 = .ok (.getfield 98, 3) := by decide +kernel
theorem dX6_state_111 : decode cX6_state 111 = .ok (.ireturn, 1) := by decide +kernel
theorem dX6_state_112 : decode cX6_state 112 = .ok (.aload_n 0, 1) := by decide +kernel
theorem dX6_state_113 : decode cX6_state 113 = .ok (.getfield 35, 3) := by decide +kernel
theorem dX6_state_116 : decode cX6_state 116 = .ok (.aload_n 0, 1) := by decide +kernel
theorem dX6_state_117 : decode cX6_state 117 = .ok (.getfield 47, 3) := by decide +kernel
theorem dX6_state_120 : decode cX6_state 120 = .ok (.invokevirtual 101, 3) := by decide +kernel
theorem dX6_state_123 : decode cX6_state 123 = .ok (.ireturn, 1) := by decide +kernel
theorem dX6_state_124 : decode cX6_state 124 = .ok (.aload_n 0, 1) := by decide +kernel
theorem dX6_state_125 : decode cX6_state 125 = .ok (.getfield 35, 3) := by decide +kernel
theorem dX6_state_128 : decode cX6_state 128 = .ok (.aload_n 0, 1) := by decide +kernel
theorem dX6_state_129 : decode cX6_state 129 = .ok (.getfield 47, 3) := by decide +kernel
theorem dX6_state_132 : decode cX6_state 132 = .ok (.iconst 0, 1) := by decide +kernel
theorem dX6_state_133 : decode cX6_state 133 = .ok (.invokevirtual 105, 3) := by decide +kernel
theorem dX6_state_136 : decode cX6_state 136 = .ok (.ireturn, 1) := by decide +kernel
theorem dX6_state_137 : decode cX6_state 137 = .ok (.aload_n 0, 1) := by decide +kernel
theorem dX6_state_138 : decode cX6_state 138 = .ok (.getfield 47, 3) := by decide +kernel
theorem dX6_state_141 : decode cX6_state 141 = .ok (.getfield 78, 3) := by decide +kernel
theorem dX6_state_144 : decode cX6_state 144 = .ok (.ifCond .ne 7, 3) := by decide +kernel
theorem dX6_state_147 : decode cX6_state 147 = .ok (.iconst 0, 1) := by decide +kernel
theorem dX6_state_148 : decode cX6_state 148 = .ok (.goto 21, 3) := by decide +kernel
theorem dX6_state_151 : decode cX6_state 151 = .ok (.aload_n 0, 1) := by decide +kernel
theorem dX6_state_152 : decode cX6_state 152 = .ok (.getfield 35, 3) := by decide +kernel
theorem dX6_state_155 : decode cX6_state 155 = .ok (.aload_n 0, 1) := by decide +kernel
theorem dX6_state_156 : decode cX6_state 156 = .ok (.getfield 47, 3) := by decide +kernel
theorem dX6_state_159 : decode cX6_state 159 = .ok (.aload_n 0, 1) := by decide +kernel
theorem dX6_state_160 : decode cX6_state 160 = .ok (.getfield 47, 3) := by decide +kernel
theorem dX6_state_163 : decode cX6_state 163 = .ok (.getfield 78, 3) := by decide +kernel
theorem dX6_state_166 : decode cX6_state 166 = .ok (.invokevirtual 105, 3) := by decide +kernel
theorem dX6_state_169 : decode cX6_state 169 = .ok (.ireturn, 1) := by decide +kernel
theorem dX6_state_170 : decode cX6_state 170 = .ok (.aload_n 0, 1) := by decide +kernel
theorem dX6_state_171 : decode cX6_state 171 = .ok (.getfield 47, 3) := by decide +kernel
theorem dX6_state_174 : decode cX6_state 174 = .ok (.getfield 109, 3) := by decide +kernel
theorem dX6_state_177 : decode cX6_state 177 = .ok (.aload_n 0, 1) := by decide +kernel
theorem dX6_state_178 : decode cX6_state 178 = .ok (.getfield 47, 3) := by decide +kernel
theorem dX6_state_181 : decode cX6_state 181 = .ok (.invokevirtual 113, 3) := by decide +kernel
theorem dX6_state_184 : decode cX6_state 184 = .ok (.invokestatic 117, 3) := by decide +kernel
theorem dX6_state_187 : decode cX6_state 187 = .ok (.ireturn, 1) := by decide +kernel
theorem dX6_state_188 : decode cX6_state 188 = .ok (.aload_n 0, 1) := by decide +kernel
theorem dX6_state_189 : decode cX6_state 189 = .ok (.getfield 47, 3) := by decide +kernel
theorem dX6_state_192 : decode cX6_state 192 = .ok (.invokevirtual 121, 3) := by decide +kernel
theorem dX6_state_195 : decode cX6_state 195 = .ok (.ireturn, 1) := by decide +kernel
theorem dX6_cell_0 : decode cX6_cell 0 = .ok (.aload_n 0, 1) := by decide +kernel
theorem dX6_cell_1 : decode cX6_cell 1 = .ok (.iload_n 1, 1) := by decide +kernel
theorem dX6_cell_2 : decode cX6_cell 2 = .ok (.invokevirtual 132, 3) := by decide +kernel
theorem dX6_cell_5 : decode cX6_cell 5 = .ok (.aload_n 0, 1) := by decide +kernel
theorem dX6_cell_6 : decode cX6_cell 6 = .ok (.iload_n 2, 1) := by decide +kernel
theorem dX6_cell_7 : decode cX6_cell 7 = .ok (.iload_n 3, 1) := by decide +kernel
theorem dX6_cell_8 : decode cX6_cell 8 = .ok (.invokevirtual 177, 3) := by decide +kernel
theorem dX6_cell_11 : decode cX6_cell 11 = .ok (.iload 4, 2) := by decide +kernel
theorem dX6_cell_13 : decode cX6_cell 13 = .ok (.ifCond .lt 9, 3) := by decide +kernel
theorem dX6_cell_16 : decode cX6_cell 16 = .ok (.iload 4, 2) := by decide +kernel
theorem dX6_cell_18 : decode cX6_cell 18 = .ok (.iconst 4, 1) := by decide +kernel
theorem dX6_cell_19 : decode cX6_cell 19 = .ok (.if_icmp .le 13, 3) := by decide +kernel
theorem dX6_cell_22 : decode cX6_cell 22 = .ok (.new 81, 3) := by decide +kernel
theorem dX6_cell_25 : decode cX6_cell 25 = .ok (.dup, 1) := by decide +kernel
theorem dX6_cell_26 : decode cX6_cell 26 = .ok (.ldc 181, 2) := by decide +kernel
theorem dX6_cell_28 : decode cX6_cell 28 = .ok (.invokespecial 85, 3) := by decide +kernel
theorem dX6_cell_31 : decode cX6_cell 31 = .ok (.athrow, 1) := by decide +kernel
theorem dX6_cell_32 : decode cX6_cell 32 = .ok (.aload_n 0, 1) := by decide +kernel
theorem dX6_cell_33 : decode cX6_cell 33 = .ok (.getfield 35, 3) := by decide +kernel
theorem dX6_cell_36 : decode cX6_cell 36 = .ok (.aload_n 0, 1) := by decide +kernel
theorem dX6_cell_37 : decode cX6_cell 37 = .ok (.getfield 47, 3) := by decide +kernel
theorem dX6_cell_40 : decode cX6_cell 40 = .ok (.invokevirtual 88, 3) := by decide +kernel
theorem dX6_cell_43 : decode cX6_cell 43 = .ok (.aload_n 0, 1) := by decide +kernel
theorem dX6_cell_44 : decode cX6_cell 44 = .ok (.getfield 47, 3) := by decide +kernel
theorem dX6_cell_47 : decode cX6_cell 47 = .ok (.iload_n 2, 1) := by decide +kernel
theorem dX6_cell_48 : decode cX6_cell 48 = .ok (.iload_n 3, 1) := by decide +kernel
theorem dX6_cell_49 : decode cX6_cell 49 = .ok (.invokevirtual 183, 3) := by decide +kernel
theorem dX6_cell_52 : decode cX6_cell 52 = .ok (.istore 5, 2) := by decide +kernel
theorem dX6_cell_54 : decode cX6_cell 54 = .ok (.iload 4, 2) := by decide +kernel
theorem dX6_cell_56 : decode cX6_cell 56 = .ok (.tableswitch 102 0 3 #[32, 47, 60, 79], 32) := by decide +kernel
theorem dX6_cell_88 : decode cX6_cell 88 = .ok (.aload_n 0, 1) := by decide +kernel
theorem dX6_cell_89 : decode cX6_cell 89 = .ok (.getfield 35, 3) := by decide +kernel
theorem dX6_cell_92 : decode cX6_cell 92 = .ok (.aload_n 0, 1) := by decide +kernel
theorem dX6_cell_93 : decode cX6_cell 93 = .ok (.getfield 47, 3) := by decide +kernel
theorem dX6_cell_96 : decode cX6_cell 96 = .ok (.iload_n 1, 1) := by decide +kernel
theorem dX6_cell_97 : decode cX6_cell 97 = .ok (.iload_n 2, 1) := by decide +kernel
theorem dX6_cell_98 : decode cX6_cell 98 = .ok (.iload_n 3, 1) := by decide +kernel
theorem dX6_cell_99 : decode cX6_cell 99 = .ok (.invokevirtual 186, 3) := by decide +kernel
theorem dX6_cell_102 : decode cX6_cell 102 = .ok (.ireturn, 1) := by decide +kernel
theorem dX6_cell_103 : decode cX6_cell 103 = .ok (.aload_n 0, 1) := by decide +kernel
theorem dX6_cell_104 : decode cX6_cell 104 = .ok (.getfield 35, 3) := by decide +kernel
theorem dX6_cell_107 : decode cX6_cell 107 = .ok (.getfield 174, 3) := by decide +kernel
theorem dX6_cell_110 : decode cX6_cell 110 = .ok (.iload_n 1, 1) := by decide +kernel
theorem dX6_cell_111 : decode cX6_cell 111 = .ok (.aaload, 1) := by decide +kernel
theorem dX6_cell_112 : decode cX6_cell 112 = .ok (.iload 5, 2) := by decide +kernel
theorem dX6_cell_114 : decode cX6_cell 114 = .ok (.iaload, 1) := by decide +kernel
theorem dX6_cell_115 : decode cX6_cell 115 = .ok (.ireturn, 1) := by decide +kernel
theorem dX6_cell_116 : decode cX6_cell 116 = .ok (.aload_n 0, 1) := by decide +kernel
theorem dX6_cell_117 : decode cX6_cell 117 = .ok (.getfield 35, 3) := by decide +kernel
theorem dX6_cell_120 : decode cX6_cell 120 = .ok (.iload_n 1, 1) := by decide +kernel
theorem dX6_cell_121 : decode cX6_cell 121 = .ok (.iload 5, 2) := by decide +kernel
theorem dX6_cell_123 : decode cX6_cell 123 = .ok (.invokevirtual 190, 3) := by decide +kernel
theorem dX6_cell_126 : decode cX6_cell 126 = .ok (.ifCond .eq 7, 3) := by decide +kernel
theorem dX6_cell_129 : decode cX6_cell 129 = .ok (.iconst 1, 1) := by decide +kernel
theorem dX6_cell_130 : decode cX6_cell 130 = .ok (.goto 4, 3) := by decide +kernel
theorem dX6_cell_133 : decode cX6_cell 133 = .ok (.iconst 0, 1) := by decide +kernel
theorem dX6_cell_134 : decode cX6_cell 134 = .ok (.ireturn, 1) := by decide +kernel
theorem dX6_cell_135 : decode cX6_cell 135 = .ok (.aload_n 0, 1) := by decide +kernel
theorem dX6_cell_136 : decode cX6_cell 136 = .ok (.getfield 35, 3) := by decide +kernel
theorem dX6_cell_139 : decode cX6_cell 139 = .ok (.aload_n 0, 1) := by decide +kernel
theorem dX6_cell_140 : decode cX6_cell 140 = .ok (.getfield 47, 3) := by decide +kernel
theorem dX6_cell_143 : decode cX6_cell 143 = .ok (.iload_n 1, 1) := by decide +kernel
theorem dX6_cell_144 : decode cX6_cell 144 = .ok (.iload_n 2, 1) := by decide +kernel
theorem dX6_cell_145 : decode cX6_cell 145 = .ok (.iload_n 3, 1) := by decide +kernel
theorem dX6_cell_146 : decode cX6_cell 146 = .ok (.invokevirtual 194, 3) := by decide +kernel
theorem dX6_cell_149 : decode cX6_cell 149 = .ok (.ifCond .eq 7, 3) := by decide +kernel
theorem dX6_cell_152 : decode cX6_cell 152 = .ok (.iconst 1, 1) := by decide +kernel
theorem dX6_cell_153 : decode cX6_cell 153 = .ok (.goto 4, 3) := by decide +kernel
theorem dX6_cell_156 : decode cX6_cell 156 = .ok (.iconst 0, 1) := by decide +kernel
theorem dX6_cell_157 : decode cX6_cell 157 = .ok (.ireturn, 1) := by decide +kernel
theorem dX6_cell_158 : decode cX6_cell 158 = .ok (.aload_n 0, 1) := by decide +kernel
theorem dX6_cell_159 : decode cX6_cell 159 = .ok (.getfield 47, 3) := by decide +kernel
theorem dX6_cell_162 : decode cX6_cell 162 = .ok (.iload_n 1, 1) := by decide +kernel
theorem dX6_cell_163 : decode cX6_cell 163 = .ok (.iload 5, 2) := by decide +kernel
theorem dX6_cell_165 : decode cX6_cell 165 = .ok (.invokevirtual 198, 3) := by decide +kernel
theorem dX6_cell_168 : decode cX6_cell 168 = .ok (.ifCond .eq 7, 3) := by decide +kernel
theorem dX6_cell_171 : decode cX6_cell 171 = .ok (.iconst 1, 1) := by decide +kernel
theorem dX6_cell_172 : decode cX6_cell 172 = .ok (.goto 4, 3) := by decide +kernel
theorem dX6_cell_175 : decode cX6_cell 175 = .ok (.iconst 0, 1) := by decide +kernel
theorem dX6_cell_176 : decode cX6_cell 176 = .ok (.ireturn, 1) := by decide +kernel
theorem dX6_tone_0 : decode cX6_tone 0 = .ok (.aload_n 0, 1) := by decide +kernel
theorem dX6_tone_1 : decode cX6_tone 1 = .ok (.iload_n 1, 1) := by decide +kernel
theorem dX6_tone_2 : decode cX6_tone 2 = .ok (.iload_n 2, 1) := by decide +kernel
theorem dX6_tone_3 : decode cX6_tone 3 = .ok (.invokevirtual 177, 3) := by decide +kernel
theorem dX6_tone_6 : decode cX6_tone 6 = .ok (.aload_n 0, 1) := by decide +kernel
theorem dX6_tone_7 : decode cX6_tone 7 = .ok (.getfield 47, 3) := by decide +kernel
theorem dX6_tone_10 : decode cX6_tone 10 = .ok (.getfield 109, 3) := by decide +kernel
theorem dX6_tone_13 : decode cX6_tone 13 = .ok (.aload_n 0, 1) := by decide +kernel
theorem dX6_tone_14 : decode cX6_tone 14 = .ok (.getfield 47, 3) := by decide +kernel
theorem dX6_tone_17 : decode cX6_tone 17 = .ok (.iload_n 1, 1) := by decide +kernel
theorem dX6_tone_18 : decode cX6_tone 18 = .ok (.iload_n 2, 1) := by decide +kernel
theorem dX6_tone_19 : decode cX6_tone 19 = .ok (.invokevirtual 183, 3) := by decide +kernel
theorem dX6_tone_22 : decode cX6_tone 22 = .ok (.iaload, 1) := by decide +kernel
theorem dX6_tone_23 : decode cX6_tone 23 = .ok (.ireturn, 1) := by decide +kernel
theorem dX6_inks_0 : decode cX6_inks 0 = .ok (.aload_n 0, 1) := by decide +kernel
theorem dX6_inks_1 : decode cX6_inks 1 = .ok (.iload_n 1, 1) := by decide +kernel
theorem dX6_inks_2 : decode cX6_inks 2 = .ok (.iload_n 2, 1) := by decide +kernel
theorem dX6_inks_3 : decode cX6_inks 3 = .ok (.invokevirtual 177, 3) := by decide +kernel
theorem dX6_inks_6 : decode cX6_inks 6 = .ok (.aload_n 0, 1) := by decide +kernel
theorem dX6_inks_7 : decode cX6_inks 7 = .ok (.getfield 35, 3) := by decide +kernel
theorem dX6_inks_10 : decode cX6_inks 10 = .ok (.aload_n 0, 1) := by decide +kernel
theorem dX6_inks_11 : decode cX6_inks 11 = .ok (.getfield 47, 3) := by decide +kernel
theorem dX6_inks_14 : decode cX6_inks 14 = .ok (.invokevirtual 88, 3) := by decide +kernel
theorem dX6_inks_17 : decode cX6_inks 17 = .ok (.aload_n 0, 1) := by decide +kernel
theorem dX6_inks_18 : decode cX6_inks 18 = .ok (.getfield 35, 3) := by decide +kernel
theorem dX6_inks_21 : decode cX6_inks 21 = .ok (.getfield 201, 3) := by decide +kernel
theorem dX6_inks_24 : decode cX6_inks 24 = .ok (.aload_n 0, 1) := by decide +kernel
theorem dX6_inks_25 : decode cX6_inks 25 = .ok (.getfield 47, 3) := by decide +kernel
theorem dX6_inks_28 : decode cX6_inks 28 = .ok (.iload_n 1, 1) := by decide +kernel
theorem dX6_inks_29 : decode cX6_inks 29 = .ok (.iload_n 2, 1) := by decide +kernel
theorem dX6_inks_30 : decode cX6_inks 30 = .ok (.invokevirtual 183, 3) := by decide +kernel
theorem dX6_inks_33 : decode cX6_inks 33 = .ok (.iaload, 1) := by decide +kernel
theorem dX6_inks_34 : decode cX6_inks 34 = .ok (.ireturn, 1) := by decide +kernel
theorem dX6_why_0 : decode cX6_why 0 = .ok (.aload_n 0, 1) := by decide +kernel
theorem dX6_why_1 : decode cX6_why 1 = .ok (.iload_n 1, 1) := by decide +kernel
theorem dX6_why_2 : decode cX6_why 2 = .ok (.invokevirtual 132, 3) := by decide +kernel
theorem dX6_why_5 : decode cX6_why 5 = .ok (.aload_n 0, 1) := by decide +kernel
theorem dX6_why_6 : decode cX6_why 6 = .ok (.iload_n 2, 1) := by decide +kernel
theorem dX6_why_7 : decode cX6_why 7 = .ok (.iload_n 3, 1) := by decide +kernel
theorem dX6_why_8 : decode cX6_why 8 = .ok (.invokevirtual 177, 3) := by decide +kernel
theorem dX6_why_11 : decode cX6_why 11 = .ok (.aload_n 0, 1) := by decide +kernel
theorem dX6_why_12 : decode cX6_why 12 = .ok (.getfield 35, 3) := by decide +kernel
theorem dX6_why_15 : decode cX6_why 15 = .ok (.aload_n 0, 1) := by decide +kernel
theorem dX6_why_16 : decode cX6_why 16 = .ok (.getfield 47, 3) := by decide +kernel
theorem dX6_why_19 : decode cX6_why 19 = .ok (.invokevirtual 88, 3) := by decide +kernel
theorem dX6_why_22 : decode cX6_why 22 = .ok (.aload_n 0, 1) := by decide +kernel
theorem dX6_why_23 : decode cX6_why 23 = .ok (.getfield 47, 3) := by decide +kernel
theorem dX6_why_26 : decode cX6_why 26 = .ok (.iload_n 2, 1) := by decide +kernel
theorem dX6_why_27 : decode cX6_why 27 = .ok (.iload_n 3, 1) := by decide +kernel
theorem dX6_why_28 : decode cX6_why 28 = .ok (.invokevirtual 183, 3) := by decide +kernel
theorem dX6_why_31 : decode cX6_why 31 = .ok (.istore 4, 2) := by decide +kernel
theorem dX6_why_33 : decode cX6_why 33 = .ok (.aload_n 0, 1) := by decide +kernel
theorem dX6_why_34 : decode cX6_why 34 = .ok (.getfield 35, 3) := by decide +kernel
theorem dX6_why_37 : decode cX6_why 37 = .ok (.iload_n 1, 1) := by decide +kernel
theorem dX6_why_38 : decode cX6_why 38 = .ok (.iload 4, 2) := by decide +kernel
theorem dX6_why_40 : decode cX6_why 40 = .ok (.invokevirtual 190, 3) := by decide +kernel
theorem dX6_why_43 : decode cX6_why 43 = .ok (.ifCond .eq 5, 3) := by decide +kernel
theorem dX6_why_46 : decode cX6_why 46 = .ok (.iconst 0, 1) := by decide +kernel
theorem dX6_why_47 : decode cX6_why 47 = .ok (.ireturn, 1) := by decide +kernel
theorem dX6_why_48 : decode cX6_why 48 = .ok (.aload_n 0, 1) := by decide +kernel
theorem dX6_why_49 : decode cX6_why 49 = .ok (.getfield 47, 3) := by decide +kernel
theorem dX6_why_52 : decode cX6_why 52 = .ok (.iload_n 1, 1) := by decide +kernel
theorem dX6_why_53 : decode cX6_why 53 = .ok (.iload 4, 2) := by decide +kernel
theorem dX6_why_55 : decode cX6_why 55 = .ok (.invokevirtual 198, 3) := by decide +kernel
theorem dX6_why_58 : decode cX6_why 58 = .ok (.ifCond .eq 5, 3) := by decide +kernel
theorem dX6_why_61 : decode cX6_why 61 = .ok (.iconst 1, 1) := by decide +kernel
theorem dX6_why_62 : decode cX6_why 62 = .ok (.ireturn, 1) := by decide +kernel
theorem dX6_why_63 : decode cX6_why 63 = .ok (.aload_n 0, 1) := by decide +kernel
theorem dX6_why_64 : decode cX6_why 64 = .ok (.getfield 35, 3) := by decide +kernel
theorem dX6_why_67 : decode cX6_why 67 = .ok (.aload_n 0, 1) := by decide +kernel
theorem dX6_why_68 : decode cX6_why 68 = .ok (.getfield 47, 3) := by decide +kernel
theorem dX6_why_71 : decode cX6_why 71 = .ok (.iload_n 1, 1) := by decide +kernel
theorem dX6_why_72 : decode cX6_why 72 = .ok (.iload_n 2, 1) := by decide +kernel
theorem dX6_why_73 : decode cX6_why 73 = .ok (.iload_n 3, 1) := by decide +kernel
theorem dX6_why_74 : decode cX6_why 74 = .ok (.invokevirtual 204, 3) := by decide +kernel
theorem dX6_why_77 : decode cX6_why 77 = .ok (.ifCond .eq 7, 3) := by decide +kernel
theorem dX6_why_80 : decode cX6_why 80 = .ok (.iconst 3, 1) := by decide +kernel
theorem dX6_why_81 : decode cX6_why 81 = .ok (.goto 4, 3) := by decide +kernel
theorem dX6_why_84 : decode cX6_why 84 = .ok (.iconst 2, 1) := by decide +kernel
theorem dX6_why_85 : decode cX6_why 85 = .ok (.ireturn, 1) := by decide +kernel
theorem dX6_paint_0 : decode cX6_paint 0 = .ok (.aload_n 0, 1) := by decide +kernel
theorem dX6_paint_1 : decode cX6_paint 1 = .ok (.iload_n 1, 1) := by decide +kernel
theorem dX6_paint_2 : decode cX6_paint 2 = .ok (.iload_n 2, 1) := by decide +kernel
theorem dX6_paint_3 : decode cX6_paint 3 = .ok (.invokevirtual 177, 3) := by decide +kernel
theorem dX6_paint_6 : decode cX6_paint 6 = .ok (.iload_n 3, 1) := by decide +kernel
theorem dX6_paint_7 : decode cX6_paint 7 = .ok (.iconst 1, 1) := by decide +kernel
theorem dX6_paint_8 : decode cX6_paint 8 = .ok (.if_icmp .lt 36, 3) := by decide +kernel
theorem dX6_paint_11 : decode cX6_paint 11 = .ok (.iload 4, 2) := by decide +kernel
theorem dX6_paint_13 : decode cX6_paint 13 = .ok (.iconst 1, 1) := by decide +kernel
theorem dX6_paint_14 : decode cX6_paint 14 = .ok (.if_icmp .lt 30, 3) := by decide +kernel
theorem dX6_paint_17 : decode cX6_paint 17 = .ok (.iload_n 3, 1) := by decide +kernel
theorem dX6_paint_18 : decode cX6_paint 18 = .ok (.aload_n 0, 1) := by decide +kernel
theorem dX6_paint_19 : decode cX6_paint 19 = .ok (.getfield 47, 3) := by decide +kernel
theorem dX6_paint_22 : decode cX6_paint 22 = .ok (.getfield 92, 3) := by decide +kernel
theorem dX6_paint_25 : decode cX6_paint 25 = .ok (.iload_n 1, 1) := by decide +kernel
theorem dX6_paint_26 : decode cX6_paint 26 = .ok (.isub, 1) := by decide +kernel
theorem dX6_paint_27 : decode cX6_paint 27 = .ok (.if_icmp .gt 17, 3) := by decide +kernel
theorem dX6_paint_30 : decode cX6_paint 30 = .ok (.iload 4, 2) := by decide +kernel
theorem dX6_paint_32 : decode cX6_paint 32 = .ok (.aload_n 0, 1) := by decide +kernel
theorem dX6_paint_33 : decode cX6_paint 33 = .ok (.getfield 47, 3) := by decide +kernel
theorem dX6_paint_36 : decode cX6_paint 36 = .ok (.getfield 95, 3) := by decide +kernel
theorem dX6_paint_39 : decode cX6_paint 39 = .ok (.iload_n 2, 1) := by decide +kernel
theorem dX6_paint_40 : decode cX6_paint 40 = .ok (.isub, 1) := by decide +kernel
theorem dX6_paint_41 : decode cX6_paint 41 = .ok (.if_icmp .le 13, 3) := by decide +kernel
theorem dX6_paint_44 : decode cX6_paint 44 = .ok (.new 81, 3) := by decide +kernel
theorem dX6_paint_47 : decode cX6_paint 47 = .ok (.dup, 1) := by decide +kernel
theorem dX6_paint_48 : decode cX6_paint 48 = .ok (.ldc 232, 2) := by decide +kernel
theorem dX6_paint_50 : decode cX6_paint 50 = .ok (.invokespecial 85, 3) := by decide +kernel
theorem dX6_paint_53 : decode cX6_paint 53 = .ok (.athrow, 1) := by decide +kernel
theorem dX6_paint_54 : decode cX6_paint 54 = .ok (.iload 5, 2) := by decide +kernel
theorem dX6_paint_56 : decode cX6_paint 56 = .ok (.ifCond .lt 10, 3) := by decide +kernel
theorem dX6_paint_59 : decode cX6_paint 59 = .ok (.iload 5, 2) := by decide +kernel
theorem dX6_paint_61 : decode cX6_paint 61 = .ok (.bipush 100, 2) := by decide +kernel
theorem dX6_paint_63 : decode cX6_paint 63 = .ok (.if_icmp .le 13, 3) := by decide +kernel
theorem dX6_paint_66 : decode cX6_paint 66 = .ok (.new 81, 3) := by decide +kernel
theorem dX6_paint_69 : decode cX6_paint 69 = .ok (.dup, 1) := by decide +kernel
theorem dX6_paint_70 : decode cX6_paint 70 = .ok (.ldc 234, 2) := by decide +kernel
theorem dX6_paint_72 : decode cX6_paint 72 = .ok (.invokespecial 85, 3) := by decide +kernel
theorem dX6_paint_75 : decode cX6_paint 75 = .ok (.athrow, 1) := by decide +kernel
theorem dX6_paint_76 : decode cX6_paint 76 = .ok (.aload_n 0, 1) := by decide +kernel
theorem dX6_paint_77 : decode cX6_paint 77 = .ok (.invokevirtual 236, 3) := by decide +kernel
theorem dX6_paint_80 : decode cX6_paint 80 = .ok (.iload_n 2, 1) := by decide +kernel
theorem dX6_paint_81 : decode cX6_paint 81 = .ok (.istore 6, 2) := by decide +kernel
theorem dX6_paint_83 : decode cX6_paint 83 = .ok (.iload 6, 2) := by decide +kernel
theorem dX6_paint_85 : decode cX6_paint 85 = .ok (.iload_n 2, 1) := by decide +kernel
theorem dX6_paint_86 : decode cX6_paint 86 = .ok (.iload 4, 2) := by decide +kernel
theorem dX6_paint_88 : decode cX6_paint 88 = .ok (.iadd, 1) := by decide +kernel
theorem dX6_paint_89 : decode cX6_paint 89 = .ok (.if_icmp .ge 47, 3) := by decide +kernel
theorem dX6_paint_92 : decode cX6_paint 92 = .ok (.iload_n 1, 1) := by decide +kernel
theorem dX6_paint_93 : decode cX6_paint 93 = .ok (.istore 7, 2) := by decide +kernel
theorem dX6_paint_95 : decode cX6_paint 95 = .ok (.iload 7, 2) := by decide +kernel
theorem dX6_paint_97 : decode cX6_paint 97 = .ok (.iload_n 1, 1) := by decide +kernel
theorem dX6_paint_98 : decode cX6_paint 98 = .ok (.iload_n 3, 1) := by decide +kernel
theorem dX6_paint_99 : decode cX6_paint 99 = .ok (.iadd, 1) := by decide +kernel
theorem dX6_paint_100 : decode cX6_paint 100 = .ok (.if_icmp .ge 30, 3) := by decide +kernel
theorem dX6_paint_103 : decode cX6_paint 103 = .ok (.aload_n 0, 1) := by decide +kernel
theorem dX6_paint_104 : decode cX6_paint 104 = .ok (.getfield 47, 3) := by decide +kernel
theorem dX6_paint_107 : decode cX6_paint 107 = .ok (.getfield 109, 3) := by decide +kernel
theorem dX6_paint_110 : decode cX6_paint 110 = .ok (.aload_n 0, 1) := by decide +kernel
theorem dX6_paint_111 : decode cX6_paint 111 = .ok (.getfield 47, 3) := by decide +kernel
theorem dX6_paint_114 : decode cX6_paint 114 = .ok (.iload 7, 2) := by decide +kernel
theorem dX6_paint_116 : decode cX6_paint 116 = .ok (.iload 6, 2) := by decide +kernel
theorem dX6_paint_118 : decode cX6_paint 118 = .ok (.invokevirtual 183, 3) := by decide +kernel
theorem dX6_paint_121 : decode cX6_paint 121 = .ok (.iload 5, 2) := by decide +kernel
theorem dX6_paint_123 : decode cX6_paint 123 = .ok (.iastore, 1) := by decide +kernel
theorem dX6_paint_124 : decode cX6_paint 124 = .ok (.iinc 7 1, 3) := by decide +kernel
theorem dX6_paint_127 : decode cX6_paint 127 = .ok (.goto (-32), 3) := by decide +kernel
theorem dX6_paint_130 : decode cX6_paint 130 = .ok (.iinc 6 1, 3) := by decide +kernel
theorem dX6_paint_133 : decode cX6_paint 133 = .ok (.goto (-50), 3) := by decide +kernel
theorem dX6_paint_136 : decode cX6_paint 136 = .ok (.aload_n 0, 1) := by decide +kernel
theorem dX6_paint_137 : decode cX6_paint 137 = .ok (.getfield 35, 3) := by decide +kernel
theorem dX6_paint_140 : decode cX6_paint 140 = .ok (.invokevirtual 75, 3) := by decide +kernel
theorem dX6_paint_143 : decode cX6_paint 143 = .ok (.aload_n 0, 1) := by decide +kernel
theorem dX6_paint_144 : decode cX6_paint 144 = .ok (.getfield 35, 3) := by decide +kernel
theorem dX6_paint_147 : decode cX6_paint 147 = .ok (.aload_n 0, 1) := by decide +kernel
theorem dX6_paint_148 : decode cX6_paint 148 = .ok (.getfield 47, 3) := by decide +kernel
theorem dX6_paint_151 : decode cX6_paint 151 = .ok (.invokevirtual 88, 3) := by decide +kernel
theorem dX6_paint_154 : decode cX6_paint 154 = .ok (.aload_n 0, 1) := by decide +kernel
theorem dX6_paint_155 : decode cX6_paint 155 = .ok (.getfield 35, 3) := by decide +kernel
theorem dX6_paint_158 : decode cX6_paint 158 = .ok (.aload_n 0, 1) := by decide +kernel
theorem dX6_paint_159 : decode cX6_paint 159 = .ok (.getfield 47, 3) := by decide +kernel
theorem dX6_paint_162 : decode cX6_paint 162 = .ok (.invokevirtual 101, 3) := by decide +kernel
theorem dX6_paint_165 : decode cX6_paint 165 = .ok (.ireturn, 1) := by decide +kernel
theorem dX6_shape_0 : decode cX6_shape 0 = .ok (.aload_n 0, 1) := by decide +kernel
theorem dX6_shape_1 : decode cX6_shape 1 = .ok (.iload_n 1, 1) := by decide +kernel
theorem dX6_shape_2 : decode cX6_shape 2 = .ok (.invokevirtual 132, 3) := by decide +kernel
theorem dX6_shape_5 : decode cX6_shape 5 = .ok (.iload_n 2, 1) := by decide +kernel
theorem dX6_shape_6 : decode cX6_shape 6 = .ok (.ifCond .lt 8, 3) := by decide +kernel
theorem dX6_shape_9 : decode cX6_shape 9 = .ok (.iload_n 2, 1) := by decide +kernel
theorem dX6_shape_10 : decode cX6_shape 10 = .ok (.iconst 3, 1) := by decide +kernel
theorem dX6_shape_11 : decode cX6_shape 11 = .ok (.if_icmp .le 13, 3) := by decide +kernel
theorem dX6_shape_14 : decode cX6_shape 14 = .ok (.new 81, 3) := by decide +kernel
theorem dX6_shape_17 : decode cX6_shape 17 = .ok (.dup, 1) := by decide +kernel
theorem dX6_shape_18 : decode cX6_shape 18 = .ok (.ldc 241, 2) := by decide +kernel
theorem dX6_shape_20 : decode cX6_shape 20 = .ok (.invokespecial 85, 3) := by decide +kernel
theorem dX6_shape_23 : decode cX6_shape 23 = .ok (.athrow, 1) := by decide +kernel
theorem dX6_shape_24 : decode cX6_shape 24 = .ok (.aload_n 0, 1) := by decide +kernel
theorem dX6_shape_25 : decode cX6_shape 25 = .ok (.invokevirtual 236, 3) := by decide +kernel
theorem dX6_shape_28 : decode cX6_shape 28 = .ok (.aload_n 0, 1) := by decide +kernel
theorem dX6_shape_29 : decode cX6_shape 29 = .ok (.getfield 47, 3) := by decide +kernel
theorem dX6_shape_32 : decode cX6_shape 32 = .ok (.getfield 137, 3) := by decide +kernel
theorem dX6_shape_35 : decode cX6_shape 35 = .ok (.iload_n 1, 1) := by decide +kernel
theorem dX6_shape_36 : decode cX6_shape 36 = .ok (.aaload, 1) := by decide +kernel
theorem dX6_shape_37 : decode cX6_shape 37 = .ok (.getfield 152, 3) := by decide +kernel
theorem dX6_shape_40 : decode cX6_shape 40 = .ok (.istore_n 3, 1) := by decide +kernel
theorem dX6_shape_41 : decode cX6_shape 41 = .ok (.aload_n 0, 1) := by decide +kernel
theorem dX6_shape_42 : decode cX6_shape 42 = .ok (.getfield 47, 3) := by decide +kernel
theorem dX6_shape_45 : decode cX6_shape 45 = .ok (.getfield 137, 3) := by decide +kernel
theorem dX6_shape_48 : decode cX6_shape 48 = .ok (.iload_n 1, 1) := by decide +kernel
theorem dX6_shape_49 : decode cX6_shape 49 = .ok (.aaload, 1) := by decide +kernel
theorem dX6_shape_50 : decode cX6_shape 50 = .ok (.iload_n 2, 1) := by decide +kernel
theorem dX6_shape_51 : decode cX6_shape 51 = .ok (.putfield 152, 3) := by decide +kernel
theorem dX6_shape_54 : decode cX6_shape 54 = .ok (.iload_n 3, 1) := by decide +kernel
theorem dX6_shape_55 : decode cX6_shape 55 = .ok (.ireturn, 1) := by decide +kernel
theorem dX6_shift_0 : decode cX6_shift 0 = .ok (.aload_n 0, 1) := by decide +kernel
theorem dX6_shift_1 : decode cX6_shift 1 = .ok (.iload_n 1, 1) := by decide +kernel
theorem dX6_shift_2 : decode cX6_shift 2 = .ok (.invokevirtual 132, 3) := by decide +kernel
theorem dX6_shift_5 : decode cX6_shift 5 = .ok (.iload_n 2, 1) := by decide +kernel
theorem dX6_shift_6 : decode cX6_shift 6 = .ok (.ifCond .lt 19, 3) := by decide +kernel
theorem dX6_shift_9 : decode cX6_shift 9 = .ok (.iload_n 2, 1) := by decide +kernel
theorem dX6_shift_10 : decode cX6_shift 10 = .ok (.bipush 17, 2) := by decide +kernel
theorem dX6_shift_12 : decode cX6_shift 12 = .ok (.if_icmp .gt 13, 3) := by decide +kernel
theorem dX6_shift_15 : decode cX6_shift 15 = .ok (.iload_n 3, 1) := by decide +kernel
theorem dX6_shift_16 : decode cX6_shift 16 = .ok (.ifCond .lt 9, 3) := by decide +kernel
theorem dX6_shift_19 : decode cX6_shift 19 = .ok (.iload_n 3, 1) := by decide +kernel
theorem dX6_shift_20 : decode cX6_shift 20 = .ok (.bipush 17, 2) := by decide +kernel
theorem dX6_shift_22 : decode cX6_shift 22 = .ok (.if_icmp .le 13, 3) := by decide +kernel
theorem dX6_shift_25 : decode cX6_shift 25 = .ok (.new 81, 3) := by decide +kernel
theorem dX6_shift_28 : decode cX6_shift 28 = .ok (.dup, 1) := by decide +kernel
theorem dX6_shift_29 : decode cX6_shift 29 = .ok (.ldc 243, 2) := by decide +kernel
theorem dX6_shift_31 : decode cX6_shift 31 = .ok (.invokespecial 85, 3) := by decide +kernel
theorem dX6_shift_34 : decode cX6_shift 34 = .ok (.athrow, 1) := by decide +kernel
theorem dX6_shift_35 : decode cX6_shift 35 = .ok (.aload_n 0, 1) := by decide +kernel
theorem dX6_shift_36 : decode cX6_shift 36 = .ok (.invokevirtual 236, 3) := by decide +kernel
theorem dX6_shift_39 : decode cX6_shift 39 = .ok (.aload_n 0, 1) := by decide +kernel
theorem dX6_shift_40 : decode cX6_shift 40 = .ok (.getfield 47, 3) := by decide +kernel
theorem dX6_shift_43 : decode cX6_shift 43 = .ok (.getfield 137, 3) := by decide +kernel
theorem dX6_shift_46 : decode cX6_shift 46 = .ok (.iload_n 1, 1) := by decide +kernel
theorem dX6_shift_47 : decode cX6_shift 47 = .ok (.aaload, 1) := by decide +kernel
theorem dX6_shift_48 : decode cX6_shift 48 = .ok (.iload_n 2, 1) := by decide +kernel
theorem dX6_shift_49 : decode cX6_shift 49 = .ok (.putfield 155, 3) := by decide +kernel
theorem dX6_shift_52 : decode cX6_shift 52 = .ok (.aload_n 0, 1) := by decide +kernel
theorem dX6_shift_53 : decode cX6_shift 53 = .ok (.getfield 47, 3) := by decide +kernel
theorem dX6_shift_56 : decode cX6_shift 56 = .ok (.getfield 137, 3) := by decide +kernel
theorem dX6_shift_59 : decode cX6_shift 59 = .ok (.iload_n 1, 1) := by decide +kernel
theorem dX6_shift_60 : decode cX6_shift 60 = .ok (.aaload, 1) := by decide +kernel
theorem dX6_shift_61 : decode cX6_shift 61 = .ok (.iload_n 3, 1) := by decide +kernel
theorem dX6_shift_62 : decode cX6_shift 62 = .ok (.putfield 158, 3) := by decide +kernel
theorem dX6_shift_65 : decode cX6_shift 65 = .ok (.aload_n 0, 1) := by decide +kernel
theorem dX6_shift_66 : decode cX6_shift 66 = .ok (.getfield 35, 3) := by decide +kernel
theorem dX6_shift_69 : decode cX6_shift 69 = .ok (.aload_n 0, 1) := by decide +kernel
theorem dX6_shift_70 : decode cX6_shift 70 = .ok (.getfield 47, 3) := by decide +kernel
theorem dX6_shift_73 : decode cX6_shift 73 = .ok (.invokevirtual 88, 3) := by decide +kernel
theorem dX6_shift_76 : decode cX6_shift 76 = .ok (.aload_n 0, 1) := by decide +kernel
theorem dX6_shift_77 : decode cX6_shift 77 = .ok (.getfield 35, 3) := by decide +kernel
theorem dX6_shift_80 : decode cX6_shift 80 = .ok (.aload_n 0, 1) := by decide +kernel
theorem dX6_shift_81 : decode cX6_shift 81 = .ok (.getfield 47, 3) := by decide +kernel
theorem dX6_shift_84 : decode cX6_shift 84 = .ok (.invokevirtual 101, 3) := by decide +kernel
theorem dX6_shift_87 : decode cX6_shift 87 = .ok (.ireturn, 1) := by decide +kernel
theorem dX6_limit_0 : decode cX6_limit 0 = .ok (.iload_n 1, 1) := by decide +kernel
theorem dX6_limit_1 : decode cX6_limit 1 = .ok (.iconst 1, 1) := by decide +kernel
theorem dX6_limit_2 : decode cX6_limit 2 = .ok (.if_icmp .lt 8, 3) := by decide +kernel
theorem dX6_limit_5 : decode cX6_limit 5 = .ok (.iload_n 1, 1) := by decide +kernel
theorem dX6_limit_6 : decode cX6_limit 6 = .ok (.iconst 4, 1) := by decide +kernel
theorem dX6_limit_7 : decode cX6_limit 7 = .ok (.if_icmp .le 13, 3) := by decide +kernel
theorem dX6_limit_10 : decode cX6_limit 10 = .ok (.new 81, 3) := by decide +kernel
theorem dX6_limit_13 : decode cX6_limit 13 = .ok (.dup, 1) := by decide +kernel
theorem dX6_limit_14 : decode cX6_limit 14 = .ok (.ldc 245, 2) := by decide +kernel
theorem dX6_limit_16 : decode cX6_limit 16 = .ok (.invokespecial 85, 3) := by decide +kernel
theorem dX6_limit_19 : decode cX6_limit 19 = .ok (.athrow, 1) := by decide +kernel
theorem dX6_limit_20 : decode cX6_limit 20 = .ok (.aload_n 0, 1) := by decide +kernel
theorem dX6_limit_21 : decode cX6_limit 21 = .ok (.invokevirtual 236, 3) := by decide +kernel
theorem dX6_limit_24 : decode cX6_limit 24 = .ok (.aload_n 0, 1) := by decide +kernel
theorem dX6_limit_25 : decode cX6_limit 25 = .ok (.getfield 47, 3) := by decide +kernel
theorem dX6_limit_28 : decode cX6_limit 28 = .ok (.getfield 98, 3) := by decide +kernel
theorem dX6_limit_31 : decode cX6_limit 31 = .ok (.istore_n 2, 1) := by decide +kernel
theorem dX6_limit_32 : decode cX6_limit 32 = .ok (.aload_n 0, 1) := by decide +kernel
theorem dX6_limit_33 : decode cX6_limit 33 = .ok (.getfield 47, 3) := by decide +kernel
theorem dX6_limit_36 : decode cX6_limit 36 = .ok (.iload_n 1, 1) := by decide +kernel
theorem dX6_limit_37 : decode cX6_limit 37 = .ok (.putfield 98, 3) := by decide +kernel
theorem dX6_limit_40 : decode cX6_limit 40 = .ok (.iload_n 2, 1) := by decide +kernel
theorem dX6_limit_41 : decode cX6_limit 41 = .ok (.ireturn, 1) := by decide +kernel
theorem dX6_undo_0 : decode cX6_undo 0 = .ok (.aload_n 0, 1) := by decide +kernel
theorem dX6_undo_1 : decode cX6_undo 1 = .ok (.getfield 29, 3) := by decide +kernel
theorem dX6_undo_4 : decode cX6_undo 4 = .ok (.iconst 1, 1) := by decide +kernel
theorem dX6_undo_5 : decode cX6_undo 5 = .ok (.if_icmp .ge 5, 3) := by decide +kernel
theorem dX6_undo_8 : decode cX6_undo 8 = .ok (.iconst (-1), 1) := by decide +kernel
theorem dX6_undo_9 : decode cX6_undo 9 = .ok (.ireturn, 1) := by decide +kernel
theorem dX6_undo_10 : decode cX6_undo 10 = .ok (.aload_n 0, 1) := by decide +kernel
theorem dX6_undo_11 : decode cX6_undo 11 = .ok (.dup, 1) := by decide +kernel
theorem dX6_undo_12 : decode cX6_undo 12 = .ok (.getfield 29, 3) := by decide +kernel
theorem dX6_undo_15 : decode cX6_undo 15 = .ok (.iconst 1, 1) := by decide +kernel
theorem dX6_undo_16 : decode cX6_undo 16 = .ok (.isub, 1) := by decide +kernel
theorem dX6_undo_17 : decode cX6_undo 17 = .ok (.putfield 29, 3) := by decide +kernel
theorem dX6_undo_20 : decode cX6_undo 20 = .ok (.aload_n 0, 1) := by decide +kernel
theorem dX6_undo_21 : decode cX6_undo 21 = .ok (.aload_n 0, 1) := by decide +kernel
theorem dX6_undo_22 : decode cX6_undo 22 = .ok (.getfield 26, 3) := by decide +kernel
theorem dX6_undo_25 : decode cX6_undo 25 = .ok (.bipush 10, 2) := by decide +kernel
theorem dX6_undo_27 : decode cX6_undo 27 = .ok (.iadd, 1) := by decide +kernel
theorem dX6_undo_28 : decode cX6_undo 28 = .ok (.iconst 1, 1) := by decide +kernel
theorem dX6_undo_29 : decode cX6_undo 29 = .ok (.isub, 1) := by decide +kernel
theorem dX6_undo_30 : decode cX6_undo 30 = .ok (.bipush 10, 2) := by decide +kernel
theorem dX6_undo_32 : decode cX6_undo 32 = .ok (.irem, 1) := by decide +kernel
theorem dX6_undo_33 : decode cX6_undo 33 = .ok (.putfield 26, 3) := by decide +kernel
theorem dX6_undo_36 : decode cX6_undo 36 = .ok (.aload_n 0, 1) := by decide +kernel
theorem dX6_undo_37 : decode cX6_undo 37 = .ok (.aload_n 0, 1) := by decide +kernel
theorem dX6_undo_38 : decode cX6_undo 38 = .ok (.getfield 22, 3) := by decide +kernel
theorem dX6_undo_41 : decode cX6_undo 41 = .ok (.aload_n 0, 1) := by decide +kernel
theorem dX6_undo_42 : decode cX6_undo 42 = .ok (.getfield 26, 3) := by decide +kernel
theorem dX6_undo_45 : decode cX6_undo 45 = .ok (.aaload, 1) := by decide +kernel
theorem dX6_undo_46 : decode cX6_undo 46 = .ok (.putfield 47, 3) := by decide +kernel
theorem dX6_undo_49 : decode cX6_undo 49 = .ok (.aload_n 0, 1) := by decide +kernel
theorem dX6_undo_50 : decode cX6_undo 50 = .ok (.getfield 35, 3) := by decide +kernel
theorem dX6_undo_53 : decode cX6_undo 53 = .ok (.invokevirtual 75, 3) := by decide +kernel
theorem dX6_undo_56 : decode cX6_undo 56 = .ok (.aload_n 0, 1) := by decide +kernel
theorem dX6_undo_57 : decode cX6_undo 57 = .ok (.getfield 29, 3) := by decide +kernel
theorem dX6_undo_60 : decode cX6_undo 60 = .ok (.ireturn, 1) := by decide +kernel
theorem dX6_appendWord_0 : decode cX6_appendWord 0 = .ok (.bipush 24, 2) := by decide +kernel
theorem dX6_appendWord_2 : decode cX6_appendWord 2 = .ok (.istore_n 2, 1) := by decide +kernel
theorem dX6_appendWord_3 : decode cX6_appendWord 3 = .ok (.iload_n 2, 1) := by decide +kernel
theorem dX6_appendWord_4 : decode cX6_appendWord 4 = .ok (.ifCond .lt 42, 3) := by decide +kernel
theorem dX6_appendWord_7 : decode cX6_appendWord 7 = .ok (.aload_n 0, 1) := by decide +kernel
theorem dX6_appendWord_8 : decode cX6_appendWord 8 = .ok (.getfield 13, 3) := by decide +kernel
theorem dX6_appendWord_11 : decode cX6_appendWord 11 = .ok (.sipush 600, 3) := by decide +kernel
theorem dX6_appendWord_14 : decode cX6_appendWord 14 = .ok (.if_icmp .ge 32, 3) := by decide +kernel
theorem dX6_appendWord_17 : decode cX6_appendWord 17 = .ok (.aload_n 0, 1) := by decide +kernel
theorem dX6_appendWord_18 : decode cX6_appendWord 18 = .ok (.getfield 9, 3) := by decide +kernel
theorem dX6_appendWord_21 : decode cX6_appendWord 21 = .ok (.aload_n 0, 1) := by decide +kernel
theorem dX6_appendWord_22 : decode cX6_appendWord 22 = .ok (.getfield 13, 3) := by decide +kernel
theorem dX6_appendWord_25 : decode cX6_appendWord 25 = .ok (.iload_n 1, 1) := by decide +kernel
theorem dX6_appendWord_26 : decode cX6_appendWord 26 = .ok (.iload_n 2, 1) := by decide +kernel
theorem dX6_appendWord_27 : decode cX6_appendWord 27 = .ok (.iushr, 1) := by decide +kernel
theorem dX6_appendWord_28 : decode cX6_appendWord 28 = .ok (.i2b, 1) := by decide +kernel
theorem dX6_appendWord_29 : decode cX6_appendWord 29 = .ok (.bastore, 1) := by decide +kernel
theorem dX6_appendWord_30 : decode cX6_appendWord 30 = .ok (.aload_n 0, 1) := by decide +kernel
theorem dX6_appendWord_31 : decode cX6_appendWord 31 = .ok (.dup, 1) := by decide +kernel
theorem dX6_appendWord_32 : decode cX6_appendWord 32 = .ok (.getfield 13, 3) := by decide +kernel
theorem dX6_appendWord_35 : decode cX6_appendWord 35 = .ok (.iconst 1, 1) := by decide +kernel
theorem dX6_appendWord_36 : decode cX6_appendWord 36 = .ok (.iadd, 1) := by decide +kernel
theorem dX6_appendWord_37 : decode cX6_appendWord 37 = .ok (.putfield 13, 3) := by decide +kernel
theorem dX6_appendWord_40 : decode cX6_appendWord 40 = .ok (.iinc 2 (-8), 3) := by decide +kernel
theorem dX6_appendWord_43 : decode cX6_appendWord 43 = .ok (.goto (-40), 3) := by decide +kernel
theorem dX6_appendWord_46 : decode cX6_appendWord 46 = .ok (.return_, 1) := by decide +kernel
theorem dX6_requireBuffered_0 : decode cX6_requireBuffered 0 = .ok (.iload_n 1, 1) := by decide +kernel
theorem dX6_requireBuffered_1 : decode cX6_requireBuffered 1 = .ok (.ifCond .lt 11, 3) := by decide +kernel
theorem dX6_requireBuffered_4 : decode cX6_requireBuffered 4 = .ok (.iload_n 1, 1) := by decide +kernel
theorem dX6_requireBuffered_5 : decode cX6_requireBuffered 5 = .ok (.aload_n 0, 1) := by decide +kernel
theorem dX6_requireBuffered_6 : decode cX6_requireBuffered 6 = .ok (.getfield 13, 3) := by decide +kernel
theorem dX6_requireBuffered_9 : decode cX6_requireBuffered 9 = .ok (.if_icmp .le 14, 3) := by decide +kernel
theorem dX6_requireBuffered_12 : decode cX6_requireBuffered 12 = .ok (.new 81, 3) := by decide +kernel
theorem dX6_requireBuffered_15 : decode cX6_requireBuffered 15 = .ok (.dup, 1) := by decide +kernel
theorem dX6_requireBuffered_16 : decode cX6_requireBuffered 16 = .ok (.ldc_w 272, 3) := by decide +kernel
theorem dX6_requireBuffered_19 : decode cX6_requireBuffered 19 = .ok (.invokespecial 85, 3) := by decide +kernel
theorem dX6_requireBuffered_22 : decode cX6_requireBuffered 22 = .ok (.athrow, 1) := by decide +kernel
theorem dX6_requireBuffered_23 : decode cX6_requireBuffered 23 = .ok (.return_, 1) := by decide +kernel
theorem dX6_requirePlate_0 : decode cX6_requirePlate 0 = .ok (.iload_n 1, 1) := by decide +kernel
theorem dX6_requirePlate_1 : decode cX6_requirePlate 1 = .ok (.ifCond .lt 14, 3) := by decide +kernel
theorem dX6_requirePlate_4 : decode cX6_requirePlate 4 = .ok (.iload_n 1, 1) := by decide +kernel
theorem dX6_requirePlate_5 : decode cX6_requirePlate 5 = .ok (.aload_n 0, 1) := by decide +kernel
theorem dX6_requirePlate_6 : decode cX6_requirePlate 6 = .ok (.getfield 47, 3) := by decide +kernel
theorem dX6_requirePlate_9 : decode cX6_requirePlate 9 = .ok (.getfield 78, 3) := by decide +kernel
theorem dX6_requirePlate_12 : decode cX6_requirePlate 12 = .ok (.if_icmp .lt 14, 3) := by decide +kernel
theorem dX6_requirePlate_15 : decode cX6_requirePlate 15 = .ok (.new 274, 3) := by decide +kernel
theorem dX6_requirePlate_18 : decode cX6_requirePlate 18 = .ok (.dup, 1) := by decide +kernel
theorem dX6_requirePlate_19 : decode cX6_requirePlate 19 = .ok (.ldc_w 276, 3) := by decide +kernel
theorem dX6_requirePlate_22 : decode cX6_requirePlate 22 = .ok (.invokespecial 278, 3) := by decide +kernel
theorem dX6_requirePlate_25 : decode cX6_requirePlate 25 = .ok (.athrow, 1) := by decide +kernel
theorem dX6_requirePlate_26 : decode cX6_requirePlate 26 = .ok (.return_, 1) := by decide +kernel
theorem dX6_requireCell_0 : decode cX6_requireCell 0 = .ok (.iload_n 1, 1) := by decide +kernel
theorem dX6_requireCell_1 : decode cX6_requireCell 1 = .ok (.ifCond .lt 29, 3) := by decide +kernel
theorem dX6_requireCell_4 : decode cX6_requireCell 4 = .ok (.iload_n 1, 1) := by decide +kernel
theorem dX6_requireCell_5 : decode cX6_requireCell 5 = .ok (.aload_n 0, 1) := by decide +kernel
theorem dX6_requireCell_6 : decode cX6_requireCell 6 = .ok (.getfield 47, 3) := by decide +kernel
theorem dX6_requireCell_9 : decode cX6_requireCell 9 = .ok (.getfield 92, 3) := by decide +kernel
theorem dX6_requireCell_12 : decode cX6_requireCell 12 = .ok (.if_icmp .ge 18, 3) := by decide +kernel
theorem dX6_requireCell_15 : decode cX6_requireCell 15 = .ok (.iload_n 2, 1) := by decide +kernel
theorem dX6_requireCell_16 : decode cX6_requireCell 16 = .ok (.ifCond .lt 14, 3) := by decide +kernel
theorem dX6_requireCell_19 : decode cX6_requireCell 19 = .ok (.iload_n 2, 1) := by decide +kernel
theorem dX6_requireCell_20 : decode cX6_requireCell 20 = .ok (.aload_n 0, 1) := by decide +kernel
theorem dX6_requireCell_21 : decode cX6_requireCell 21 = .ok (.getfield 47, 3) := by decide +kernel
theorem dX6_requireCell_24 : decode cX6_requireCell 24 = .ok (.getfield 95, 3) := by decide +kernel
theorem dX6_requireCell_27 : decode cX6_requireCell 27 = .ok (.if_icmp .lt 14, 3) := by decide +kernel
theorem dX6_requireCell_30 : decode cX6_requireCell 30 = .ok (.new 274, 3) := by decide +kernel
theorem dX6_requireCell_33 : decode cX6_requireCell 33 = .ok (.dup, 1) := by decide +kernel
theorem dX6_requireCell_34 : decode cX6_requireCell 34 = .ok (.ldc_w 279, 3) := by decide +kernel
theorem dX6_requireCell_37 : decode cX6_requireCell 37 = .ok (.invokespecial 278, 3) := by decide +kernel
theorem dX6_requireCell_40 : decode cX6_requireCell 40 = .ok (.athrow, 1) := by decide +kernel
theorem dX6_requireCell_41 : decode cX6_requireCell 41 = .ok (.return_, 1) := by decide +kernel
theorem dX6_draftSheet_0 : decode cX6_draftSheet 0 = .ok (.aload_n 0, 1) := by decide +kernel
theorem dX6_draftSheet_1 : decode cX6_draftSheet 1 = .ok (.getfield 22, 3) := by decide +kernel
theorem dX6_draftSheet_4 : decode cX6_draftSheet 4 = .ok (.aload_n 0, 1) := by decide +kernel
theorem dX6_draftSheet_5 : decode cX6_draftSheet 5 = .ok (.getfield 26, 3) := by decide +kernel
theorem dX6_draftSheet_8 : decode cX6_draftSheet 8 = .ok (.iconst 1, 1) := by decide +kernel
theorem dX6_draftSheet_9 : decode cX6_draftSheet 9 = .ok (.iadd, 1) := by decide +kernel
theorem dX6_draftSheet_10 : decode cX6_draftSheet 10 = .ok (.bipush 10, 2) := by decide +kernel
theorem dX6_draftSheet_12 : decode cX6_draftSheet 12 = .ok (.irem, 1) := by decide +kernel
theorem dX6_draftSheet_13 : decode cX6_draftSheet 13 = .ok (.aaload, 1) := by decide +kernel
theorem dX6_draftSheet_14 : decode cX6_draftSheet 14 = .ok (.areturn, 1) := by decide +kernel
theorem dX6_useDraft_0 : decode cX6_useDraft 0 = .ok (.aload_n 0, 1) := by decide +kernel
theorem dX6_useDraft_1 : decode cX6_useDraft 1 = .ok (.aload_n 0, 1) := by decide +kernel
theorem dX6_useDraft_2 : decode cX6_useDraft 2 = .ok (.getfield 26, 3) := by decide +kernel
theorem dX6_useDraft_5 : decode cX6_useDraft 5 = .ok (.iconst 1, 1) := by decide +kernel
theorem dX6_useDraft_6 : decode cX6_useDraft 6 = .ok (.iadd, 1) := by decide +kernel
theorem dX6_useDraft_7 : decode cX6_useDraft 7 = .ok (.bipush 10, 2) := by decide +kernel
theorem dX6_useDraft_9 : decode cX6_useDraft 9 = .ok (.irem, 1) := by decide +kernel
theorem dX6_useDraft_10 : decode cX6_useDraft 10 = .ok (.putfield 26, 3) := by decide +kernel
theorem dX6_useDraft_13 : decode cX6_useDraft 13 = .ok (.aload_n 0, 1) := by decide +kernel
theorem dX6_useDraft_14 : decode cX6_useDraft 14 = .ok (.aload_n 0, 1) := by decide +kernel
theorem dX6_useDraft_15 : decode cX6_useDraft 15 = .ok (.getfield 22, 3) := by decide +kernel
theorem dX6_useDraft_18 : decode cX6_useDraft 18 = .ok (.aload_n 0, 1) := by decide +kernel
theorem dX6_useDraft_19 : decode cX6_useDraft 19 = .ok (.getfield 26, 3) := by decide +kernel
theorem dX6_useDraft_22 : decode cX6_useDraft 22 = .ok (.aaload, 1) := by decide +kernel
theorem dX6_useDraft_23 : decode cX6_useDraft 23 = .ok (.putfield 47, 3) := by decide +kernel
theorem dX6_useDraft_26 : decode cX6_useDraft 26 = .ok (.aload_n 0, 1) := by decide +kernel
theorem dX6_useDraft_27 : decode cX6_useDraft 27 = .ok (.aload_n 0, 1) := by decide +kernel
theorem dX6_useDraft_28 : decode cX6_useDraft 28 = .ok (.getfield 29, 3) := by decide +kernel
theorem dX6_useDraft_31 : decode cX6_useDraft 31 = .ok (.iconst 1, 1) := by decide +kernel
theorem dX6_useDraft_32 : decode cX6_useDraft 32 = .ok (.iadd, 1) := by decide +kernel
theorem dX6_useDraft_33 : decode cX6_useDraft 33 = .ok (.bipush 8, 2) := by decide +kernel
theorem dX6_useDraft_35 : decode cX6_useDraft 35 = .ok (.invokestatic 225, 3) := by decide +kernel
theorem dX6_useDraft_38 : decode cX6_useDraft 38 = .ok (.putfield 29, 3) := by decide +kernel
theorem dX6_useDraft_41 : decode cX6_useDraft 41 = .ok (.aload_n 0, 1) := by decide +kernel
theorem dX6_useDraft_42 : decode cX6_useDraft 42 = .ok (.getfield 35, 3) := by decide +kernel
theorem dX6_useDraft_45 : decode cX6_useDraft 45 = .ok (.invokevirtual 281, 3) := by decide +kernel
theorem dX6_useDraft_48 : decode cX6_useDraft 48 = .ok (.return_, 1) := by decide +kernel
theorem dX6_startChange_0 : decode cX6_startChange 0 = .ok (.aload_n 0, 1) := by decide +kernel
theorem dX6_startChange_1 : decode cX6_startChange 1 = .ok (.invokevirtual 58, 3) := by decide +kernel
theorem dX6_startChange_4 : decode cX6_startChange 4 = .ok (.aload_n 0, 1) := by decide +kernel
theorem dX6_startChange_5 : decode cX6_startChange 5 = .ok (.getfield 47, 3) := by decide +kernel
theorem dX6_startChange_8 : decode cX6_startChange 8 = .ok (.invokevirtual 284, 3) := by decide +kernel
theorem dX6_startChange_11 : decode cX6_startChange 11 = .ok (.aload_n 0, 1) := by decide +kernel
theorem dX6_startChange_12 : decode cX6_startChange 12 = .ok (.invokevirtual 72, 3) := by decide +kernel
theorem dX6_startChange_15 : decode cX6_startChange 15 = .ok (.return_, 1) := by decide +kernel
theorem dX6_sumOfTones_0 : decode cX6_sumOfTones 0 = .ok (.iconst 0, 1) := by decide +kernel
theorem dX6_sumOfTones_1 : decode cX6_sumOfTones 1 = .ok (.istore_n 2, 1) := by decide +kernel
theorem dX6_sumOfTones_2 : decode cX6_sumOfTones 2 = .ok (.iconst 0, 1) := by decide +kernel
theorem dX6_sumOfTones_3 : decode cX6_sumOfTones 3 = .ok (.istore_n 3, 1) := by decide +kernel
theorem dX6_sumOfTones_4 : decode cX6_sumOfTones 4 = .ok (.iload_n 3, 1) := by decide +kernel
theorem dX6_sumOfTones_5 : decode cX6_sumOfTones 5 = .ok (.iload_n 1, 1) := by decide +kernel
theorem dX6_sumOfTones_6 : decode cX6_sumOfTones 6 = .ok (.if_icmp .ge 21, 3) := by decide +kernel
theorem dX6_sumOfTones_9 : decode cX6_sumOfTones 9 = .ok (.iload_n 3, 1) := by decide +kernel
theorem dX6_sumOfTones_10 : decode cX6_sumOfTones 10 = .ok (.aload_n 0, 1) := by decide +kernel
theorem dX6_sumOfTones_11 : decode cX6_sumOfTones 11 = .ok (.arraylength, 1) := by decide +kernel
theorem dX6_sumOfTones_12 : decode cX6_sumOfTones 12 = .ok (.if_icmp .ge 15, 3) := by decide +kernel
theorem dX6_sumOfTones_15 : decode cX6_sumOfTones 15 = .ok (.iload_n 2, 1) := by decide +kernel
theorem dX6_sumOfTones_16 : decode cX6_sumOfTones 16 = .ok (.aload_n 0, 1) := by decide +kernel
theorem dX6_sumOfTones_17 : decode cX6_sumOfTones 17 = .ok (.iload_n 3, 1) := by decide +kernel
theorem dX6_sumOfTones_18 : decode cX6_sumOfTones 18 = .ok (.iaload, 1) := by decide +kernel
theorem dX6_sumOfTones_19 : decode cX6_sumOfTones 19 = .ok (.iadd, 1) := by decide +kernel
theorem dX6_sumOfTones_20 : decode cX6_sumOfTones 20 = .ok (.istore_n 2, 1) := by decide +kernel
theorem dX6_sumOfTones_21 : decode cX6_sumOfTones 21 = .ok (.iinc 3 1, 3) := by decide +kernel
theorem dX6_sumOfTones_24 : decode cX6_sumOfTones 24 = .ok (.goto (-20), 3) := by decide +kernel
theorem dX6_sumOfTones_27 : decode cX6_sumOfTones 27 = .ok (.iload_n 2, 1) := by decide +kernel
theorem dX6_sumOfTones_28 : decode cX6_sumOfTones 28 = .ok (.ireturn, 1) := by decide +kernel
theorem dX6_packedName_0 : decode cX6_packedName 0 = .ok (.lconst 1, 1) := by decide +kernel
theorem dX6_packedName_1 : decode cX6_packedName 1 = .ok (.lstore_n 3, 1) := by decide +kernel
theorem dX6_packedName_2 : decode cX6_packedName 2 = .ok (.iload_n 1, 1) := by decide +kernel
theorem dX6_packedName_3 : decode cX6_packedName 3 = .ok (.istore 5, 2) := by decide +kernel
theorem dX6_packedName_5 : decode cX6_packedName 5 = .ok (.iload 5, 2) := by decide +kernel
theorem dX6_packedName_7 : decode cX6_packedName 7 = .ok (.iload_n 2, 1) := by decide +kernel
theorem dX6_packedName_8 : decode cX6_packedName 8 = .ok (.if_icmp .ge 32, 3) := by decide +kernel
theorem dX6_packedName_11 : decode cX6_packedName 11 = .ok (.iload 5, 2) := by decide +kernel
theorem dX6_packedName_13 : decode cX6_packedName 13 = .ok (.aload_n 0, 1) := by decide +kernel
theorem dX6_packedName_14 : decode cX6_packedName 14 = .ok (.arraylength, 1) := by decide +kernel
theorem dX6_packedName_15 : decode cX6_packedName 15 = .ok (.if_icmp .ge 25, 3) := by decide +kernel
theorem dX6_packedName_18 : decode cX6_packedName 18 = .ok (.lload_n 3, 1) := by decide +kernel
theorem dX6_packedName_19 : decode cX6_packedName 19 = .ok (.ldc2_w 287, 3) := by decide +kernel
theorem dX6_packedName_22 : decode cX6_packedName 22 = .ok (.lmul, 1) := by decide +kernel
theorem dX6_packedName_23 : decode cX6_packedName 23 = .ok (.aload_n 0, 1) := by decide +kernel
theorem dX6_packedName_24 : decode cX6_packedName 24 = .ok (.iload 5, 2) := by decide +kernel
theorem dX6_packedName_26 : decode cX6_packedName 26 = .ok (.baload, 1) := by decide +kernel
theorem dX6_packedName_27 : decode cX6_packedName 27 = .ok (.sipush 255, 3) := by decide +kernel
theorem dX6_packedName_30 : decode cX6_packedName 30 = .ok (.iand, 1) := by decide +kernel
theorem dX6_packedName_31 : decode cX6_packedName 31 = .ok (.i2l, 1) := by decide +kernel
theorem dX6_packedName_32 : decode cX6_packedName 32 = .ok (.ladd, 1) := by decide +kernel
theorem dX6_packedName_33 : decode cX6_packedName 33 = .ok (.lstore_n 3, 1) := by decide +kernel
theorem dX6_packedName_34 : decode cX6_packedName 34 = .ok (.iinc 5 1, 3) := by decide +kernel
theorem dX6_packedName_37 : decode cX6_packedName 37 = .ok (.goto (-32), 3) := by decide +kernel
theorem dX6_packedName_40 : decode cX6_packedName 40 = .ok (.lload_n 3, 1) := by decide +kernel
theorem dX6_packedName_41 : decode cX6_packedName 41 = .ok (.lreturn, 1) := by decide +kernel
theorem dX6_remainder_0 : decode cX6_remainder 0 = .ok (.iload_n 1, 1) := by decide +kernel
theorem dX6_remainder_1 : decode cX6_remainder 1 = .ok (.iconst 1, 1) := by decide +kernel
theorem dX6_remainder_2 : decode cX6_remainder 2 = .ok (.if_icmp .ge 7, 3) := by decide +kernel
theorem dX6_remainder_5 : decode cX6_remainder 5 = .ok (.iconst 0, 1) := by decide +kernel
theorem dX6_remainder_6 : decode cX6_remainder 6 = .ok (.goto 8, 3) := by decide +kernel
theorem dX6_remainder_9 : decode cX6_remainder 9 = .ok (.iload_n 0, 1) := by decide +kernel
theorem dX6_remainder_10 : decode cX6_remainder 10 = .ok (.iload_n 1, 1) := by decide +kernel
theorem dX6_remainder_11 : decode cX6_remainder 11 = .ok (.invokestatic 289, 3) := by decide +kernel
theorem dX6_remainder_14 : decode cX6_remainder 14 = .ok (.ireturn, 1) := by decide +kernel
theorem dX6_limited_0 : decode cX6_limited 0 = .ok (.iload_n 2, 1) := by decide +kernel
theorem dX6_limited_1 : decode cX6_limited 1 = .ok (.i2l, 1) := by decide +kernel
theorem dX6_limited_2 : decode cX6_limited 2 = .ok (.iload_n 3, 1) := by decide +kernel
theorem dX6_limited_3 : decode cX6_limited 3 = .ok (.i2l, 1) := by decide +kernel
theorem dX6_limited_4 : decode cX6_limited 4 = .ok (.lload_n 0, 1) := by decide +kernel
theorem dX6_limited_5 : decode cX6_limited 5 = .ok (.invokestatic 292, 3) := by decide +kernel
theorem dX6_limited_8 : decode cX6_limited 8 = .ok (.invokestatic 295, 3) := by decide +kernel
theorem dX6_limited_11 : decode cX6_limited 11 = .ok (.l2i, 1) := by decide +kernel
theorem dX6_limited_12 : decode cX6_limited 12 = .ok (.ireturn, 1) := by decide +kernel
theorem dX7_init_0 : decode cX7_init 0 = .ok (.aload_n 0, 1) := by decide +kernel
theorem dX7_init_1 : decode cX7_init 1 = .ok (.invokespecial 1, 3) := by decide +kernel
theorem dX7_init_4 : decode cX7_init 4 = .ok (.aload_n 0, 1) := by decide +kernel
theorem dX7_init_5 : decode cX7_init 5 = .ok (.iload_n 1, 1) := by decide +kernel
theorem dX7_init_6 : decode cX7_init 6 = .ok (.putfield 7, 3) := by decide +kernel
theorem dX7_init_9 : decode cX7_init 9 = .ok (.aload_n 0, 1) := by decide +kernel
theorem dX7_init_10 : decode cX7_init 10 = .ok (.iload_n 2, 1) := by decide +kernel
theorem dX7_init_11 : decode cX7_init 11 = .ok (.putfield 13, 3) := by decide +kernel
theorem dX7_init_14 : decode cX7_init 14 = .ok (.aload_n 0, 1) := by decide +kernel
theorem dX7_init_15 : decode cX7_init 15 = .ok (.iload_n 3, 1) := by decide +kernel
theorem dX7_init_16 : decode cX7_init 16 = .ok (.putfield 16, 3) := by decide +kernel
theorem dX7_init_19 : decode cX7_init 19 = .ok (.return_, 1) := by decide +kernel
theorem dX7_isAhead_0 : decode cX7_isAhead 0 = .ok (.aload_n 0, 1) := by decide +kernel
theorem dX7_isAhead_1 : decode cX7_isAhead 1 = .ok (.getfield 16, 3) := by decide +kernel
theorem dX7_isAhead_4 : decode cX7_isAhead 4 = .ok (.aload_n 1, 1) := by decide +kernel
theorem dX7_isAhead_5 : decode cX7_isAhead 5 = .ok (.getfield 16, 3) := by decide +kernel
theorem dX7_isAhead_8 : decode cX7_isAhead 8 = .ok (.if_icmp .eq 22, 3) := by decide +kernel
theorem dX7_isAhead_11 : decode cX7_isAhead 11 = .ok (.aload_n 0, 1) := by decide +kernel
theorem dX7_isAhead_12 : decode cX7_isAhead 12 = .ok (.getfield 16, 3) := by decide +kernel
theorem dX7_isAhead_15 : decode cX7_isAhead 15 = .ok (.aload_n 1, 1) := by decide +kernel
theorem dX7_isAhead_16 : decode cX7_isAhead 16 = .ok (.getfield 16, 3) := by decide +kernel
theorem dX7_isAhead_19 : decode cX7_isAhead 19 = .ok (.if_icmp .ge 7, 3) := by decide +kernel
theorem dX7_isAhead_22 : decode cX7_isAhead 22 = .ok (.iconst 1, 1) := by decide +kernel
theorem dX7_isAhead_23 : decode cX7_isAhead 23 = .ok (.goto 53, 3) := by decide +kernel
theorem dX7_isAhead_26 : decode cX7_isAhead 26 = .ok (.iconst 0, 1) := by decide +kernel
theorem dX7_isAhead_27 : decode cX7_isAhead 27 = .ok (.goto 49, 3) := by decide +kernel
theorem dX7_isAhead_30 : decode cX7_isAhead 30 = .ok (.aload_n 0, 1) := by decide +kernel
theorem dX7_isAhead_31 : decode cX7_isAhead 31 = .ok (.getfield 13, 3) := by decide +kernel
theorem dX7_isAhead_34 : decode cX7_isAhead 34 = .ok (.aload_n 1, 1) := by decide +kernel
theorem dX7_isAhead_35 : decode cX7_isAhead 35 = .ok (.getfield 13, 3) := by decide +kernel
theorem dX7_isAhead_38 : decode cX7_isAhead 38 = .ok (.if_icmp .eq 22, 3) := by decide +kernel
theorem dX7_isAhead_41 : decode cX7_isAhead 41 = .ok (.aload_n 0, 1) := by decide +kernel
theorem dX7_isAhead_42 : decode cX7_isAhead 42 = .ok (.getfield 13, 3) := by decide +kernel
theorem dX7_isAhead_45 : decode cX7_isAhead 45 = .ok (.aload_n 1, 1) := by decide +kernel
theorem dX7_isAhead_46 : decode cX7_isAhead 46 = .ok (.getfield 13, 3) := by decide +kernel
theorem dX7_isAhead_49 : decode cX7_isAhead 49 = .ok (.if_icmp .ge 7, 3) := by decide +kernel
theorem dX7_isAhead_52 : decode cX7_isAhead 52 = .ok (.iconst 1, 1) := by decide +kernel
theorem dX7_isAhead_53 : decode cX7_isAhead 53 = .ok (.goto 23, 3) := by decide +kernel
theorem dX7_isAhead_56 : decode cX7_isAhead 56 = .ok (.iconst 0, 1) := by decide +kernel
theorem dX7_isAhead_57 : decode cX7_isAhead 57 = .ok (.goto 19, 3) := by decide +kernel
theorem dX7_isAhead_60 : decode cX7_isAhead 60 = .ok (.aload_n 0, 1) := by decide +kernel
theorem dX7_isAhead_61 : decode cX7_isAhead 61 = .ok (.getfield 7, 3) := by decide +kernel
theorem dX7_isAhead_64 : decode cX7_isAhead 64 = .ok (.aload_n 1, 1) := by decide +kernel
theorem dX7_isAhead_65 : decode cX7_isAhead 65 = .ok (.getfield 7, 3) := by decide +kernel
theorem dX7_isAhead_68 : decode cX7_isAhead 68 = .ok (.if_icmp .ge 7, 3) := by decide +kernel
theorem dX7_isAhead_71 : decode cX7_isAhead 71 = .ok (.iconst 1, 1) := by decide +kernel
theorem dX7_isAhead_72 : decode cX7_isAhead 72 = .ok (.goto 4, 3) := by decide +kernel
theorem dX7_isAhead_75 : decode cX7_isAhead 75 = .ok (.iconst 0, 1) := by decide +kernel
theorem dX7_isAhead_76 : decode cX7_isAhead 76 = .ok (.ireturn, 1) := by decide +kernel
theorem dX8_init_0 : decode cX8_init 0 = .ok (.aload_n 0, 1) := by decide +kernel
theorem dX8_init_1 : decode cX8_init 1 = .ok (.invokespecial 1, 3) := by decide +kernel
theorem dX8_init_4 : decode cX8_init 4 = .ok (.aload_n 0, 1) := by decide +kernel
theorem dX8_init_5 : decode cX8_init 5 = .ok (.new 7, 3) := by decide +kernel
theorem dX8_init_8 : decode cX8_init 8 = .ok (.dup, 1) := by decide +kernel
theorem dX8_init_9 : decode cX8_init 9 = .ok (.invokespecial 9, 3) := by decide +kernel
theorem dX8_init_12 : decode cX8_init 12 = .ok (.putfield 10, 3) := by decide +kernel
theorem dX8_init_15 : decode cX8_init 15 = .ok (.aload_n 0, 1) := by decide +kernel
theorem dX8_init_16 : decode cX8_init 16 = .ok (.iload_n 1, 1) := by decide +kernel
theorem dX8_init_17 : decode cX8_init 17 = .ok (.putfield 16, 3) := by decide +kernel
theorem dX8_init_20 : decode cX8_init 20 = .ok (.aload_n 0, 1) := by decide +kernel
theorem dX8_init_21 : decode cX8_init 21 = .ok (.iload_n 2, 1) := by decide +kernel
theorem dX8_init_22 : decode cX8_init 22 = .ok (.putfield 20, 3) := by decide +kernel
theorem dX8_init_25 : decode cX8_init 25 = .ok (.aload_n 0, 1) := by decide +kernel
theorem dX8_init_26 : decode cX8_init 26 = .ok (.iload_n 3, 1) := by decide +kernel
theorem dX8_init_27 : decode cX8_init 27 = .ok (.putfield 23, 3) := by decide +kernel
theorem dX8_init_30 : decode cX8_init 30 = .ok (.aload_n 0, 1) := by decide +kernel
theorem dX8_init_31 : decode cX8_init 31 = .ok (.iload_n 1, 1) := by decide +kernel
theorem dX8_init_32 : decode cX8_init 32 = .ok (.iload_n 1, 1) := by decide +kernel
theorem dX8_init_33 : decode cX8_init 33 = .ok (.imul, 1) := by decide +kernel
theorem dX8_init_34 : decode cX8_init 34 = .ok (.iload_n 2, 1) := by decide +kernel
theorem dX8_init_35 : decode cX8_init 35 = .ok (.iload_n 2, 1) := by decide +kernel
theorem dX8_init_36 : decode cX8_init 36 = .ok (.imul, 1) := by decide +kernel
theorem dX8_init_37 : decode cX8_init 37 = .ok (.iadd, 1) := by decide +kernel
theorem dX8_init_38 : decode cX8_init 38 = .ok (.putfield 26, 3) := by decide +kernel
theorem dX8_init_41 : decode cX8_init 41 = .ok (.iconst 0, 1) := by decide +kernel
theorem dX8_init_42 : decode cX8_init 42 = .ok (.istore 4, 2) := by decide +kernel
theorem dX8_init_44 : decode cX8_init 44 = .ok (.iload 4, 2) := by decide +kernel
theorem dX8_init_46 : decode cX8_init 46 = .ok (.aload_n 0, 1) := by decide +kernel
theorem dX8_init_47 : decode cX8_init 47 = .ok (.getfield 26, 3) := by decide +kernel
theorem dX8_init_50 : decode cX8_init 50 = .ok (.if_icmp .ge 50, 3) := by decide +kernel
theorem dX8_init_53 : decode cX8_init 53 = .ok (.iconst 0, 1) := by decide +kernel
theorem dX8_init_54 : decode cX8_init 54 = .ok (.istore 5, 2) := by decide +kernel
theorem dX8_init_56 : decode cX8_init 56 = .ok (.iload 5, 2) := by decide +kernel
theorem dX8_init_58 : decode cX8_init 58 = .ok (.aload_n 0, 1) := by decide +kernel
theorem dX8_init_59 : decode cX8_init 59 = .ok (.getfield 26, 3) := by decide +kernel
theorem dX8_init_62 : decode cX8_init 62 = .ok (.if_icmp .ge 32, 3) := by decide +kernel
theorem dX8_init_65 : decode cX8_init 65 = .ok (.aload_n 0, 1) := by decide +kernel
theorem dX8_init_66 : decode cX8_init 66 = .ok (.new 29, 3) := by decide +kernel
theorem dX8_init_69 : decode cX8_init 69 = .ok (.dup, 1) := by decide +kernel
theorem dX8_init_70 : decode cX8_init 70 = .ok (.iload 4, 2) := by decide +kernel
theorem dX8_init_72 : decode cX8_init 72 = .ok (.iload 5, 2) := by decide +kernel
theorem dX8_init_74 : decode cX8_init 74 = .ok (.aload_n 0, 1) := by decide +kernel
theorem dX8_init_75 : decode cX8_init 75 = .ok (.iload 4, 2) := by decide +kernel
theorem dX8_init_77 : decode cX8_init 77 = .ok (.iload 5, 2) := by decide +kernel
theorem dX8_init_79 : decode cX8_init 79 = .ok (.invokevirtual 31, 3) := by decide +kernel
theorem dX8_init_82 : decode cX8_init 82 = .ok (.invokespecial 35, 3) := by decide +kernel
theorem dX8_init_85 : decode cX8_init 85 = .ok (.invokevirtual 38, 3) := by decide +kernel
theorem dX8_init_88 : decode cX8_init 88 = .ok (.iinc 5 1, 3) := by decide +kernel
theorem dX8_init_91 : decode cX8_init 91 = .ok (.goto (-35), 3) := by decide +kernel
theorem dX8_init_94 : decode cX8_init 94 = .ok (.iinc 4 1, 3) := by decide +kernel
theorem dX8_init_97 : decode cX8_init 97 = .ok (.goto (-53), 3) := by decide +kernel
theorem dX8_init_100 : decode cX8_init 100 = .ok (.return_, 1) := by decide +kernel
theorem dX8_measure_0 : decode cX8_measure 0 = .ok (.iconst 2, 1) := by decide +kernel
theorem dX8_measure_1 : decode cX8_measure 1 = .ok (.aload_n 0, 1) := by decide +kernel
theorem dX8_measure_2 : decode cX8_measure 2 = .ok (.getfield 16, 3) := by decide +kernel
theorem dX8_measure_5 : decode cX8_measure 5 = .ok (.iload_n 1, 1) := by decide +kernel
theorem dX8_measure_6 : decode cX8_measure 6 = .ok (.imul, 1) := by decide +kernel
theorem dX8_measure_7 : decode cX8_measure 7 = .ok (.aload_n 0, 1) := by decide +kernel
theorem dX8_measure_8 : decode cX8_measure 8 = .ok (.getfield 20, 3) := by decide +kernel
theorem dX8_measure_11 : decode cX8_measure 11 = .ok (.iload_n 2, 1) := by decide +kernel
theorem dX8_measure_12 : decode cX8_measure 12 = .ok (.imul, 1) := by decide +kernel
theorem dX8_measure_13 : decode cX8_measure 13 = .ok (.iadd, 1) := by decide +kernel
theorem dX8_measure_14 : decode cX8_measure 14 = .ok (.aload_n 0, 1) := by decide +kernel
theorem dX8_measure_15 : decode cX8_measure 15 = .ok (.getfield 26, 3) := by decide +kernel
theorem dX8_measure_18 : decode cX8_measure 18 = .ok (.invokestatic 42, 3) := by decide +kernel
theorem dX8_measure_21 : decode cX8_measure 21 = .ok (.imul, 1) := by decide +kernel
theorem dX8_measure_22 : decode cX8_measure 22 = .ok (.aload_n 0, 1) := by decide +kernel
theorem dX8_measure_23 : decode cX8_measure 23 = .ok (.getfield 26, 3) := by decide +kernel
theorem dX8_measure_26 : decode cX8_measure 26 = .ok (.isub, 1) := by decide +kernel
theorem dX8_measure_27 : decode cX8_measure 27 = .ok (.invokestatic 47, 3) := by decide +kernel
theorem dX8_measure_30 : decode cX8_measure 30 = .ok (.istore_n 3, 1) := by decide +kernel
theorem dX8_measure_31 : decode cX8_measure 31 = .ok (.iconst 2, 1) := by decide +kernel
theorem dX8_measure_32 : decode cX8_measure 32 = .ok (.aload_n 0, 1) := by decide +kernel
theorem dX8_measure_33 : decode cX8_measure 33 = .ok (.getfield 16, 3) := by decide +kernel
theorem dX8_measure_36 : decode cX8_measure 36 = .ok (.iload_n 2, 1) := by decide +kernel
theorem dX8_measure_37 : decode cX8_measure 37 = .ok (.imul, 1) := by decide +kernel
theorem dX8_measure_38 : decode cX8_measure 38 = .ok (.aload_n 0, 1) := by decide +kernel
theorem dX8_measure_39 : decode cX8_measure 39 = .ok (.getfield 20, 3) := by decide +kernel
theorem dX8_measure_42 : decode cX8_measure 42 = .ok (.iload_n 1, 1) := by decide +kernel
theorem dX8_measure_43 : decode cX8_measure 43 = .ok (.imul, 1) := by decide +kernel
theorem dX8_measure_44 : decode cX8_measure 44 = .ok (.isub, 1) := by decide +kernel
theorem dX8_measure_45 : decode cX8_measure 45 = .ok (.aload_n 0, 1) := by decide +kernel
theorem dX8_measure_46 : decode cX8_measure 46 = .ok (.getfield 26, 3) := by decide +kernel
theorem dX8_measure_49 : decode cX8_measure 49 = .ok (.invokestatic 42, 3) := by decide +kernel
theorem dX8_measure_52 : decode cX8_measure 52 = .ok (.imul, 1) := by decide +kernel
theorem dX8_measure_53 : decode cX8_measure 53 = .ok (.aload_n 0, 1) := by decide +kernel
theorem dX8_measure_54 : decode cX8_measure 54 = .ok (.getfield 26, 3) := by decide +kernel
theorem dX8_measure_57 : decode cX8_measure 57 = .ok (.isub, 1) := by decide +kernel
theorem dX8_measure_58 : decode cX8_measure 58 = .ok (.invokestatic 47, 3) := by decide +kernel
theorem dX8_measure_61 : decode cX8_measure 61 = .ok (.istore 4, 2) := by decide +kernel
theorem dX8_measure_63 : decode cX8_measure 63 = .ok (.aload_n 0, 1) := by decide +kernel
theorem dX8_measure_64 : decode cX8_measure 64 = .ok (.getfield 23, 3) := by decide +kernel
theorem dX8_measure_67 : decode cX8_measure 67 = .ok (.tableswitch 42 0 2 #[25, 35, 37], 25) := by decide +kernel
theorem dX8_measure_92 : decode cX8_measure 92 = .ok (.iload_n 3, 1) := by decide +kernel
theorem dX8_measure_93 : decode cX8_measure 93 = .ok (.iload_n 3, 1) := by decide +kernel
theorem dX8_measure_94 : decode cX8_measure 94 = .ok (.imul, 1) := by decide +kernel
theorem dX8_measure_95 : decode cX8_measure 95 = .ok (.iload 4, 2) := by decide +kernel
theorem dX8_measure_97 : decode cX8_measure 97 = .ok (.iload 4, 2) := by decide +kernel
theorem dX8_measure_99 : decode cX8_measure 99 = .ok (.imul, 1) := by decide +kernel
theorem dX8_measure_100 : decode cX8_measure 100 = .ok (.iadd, 1) := by decide +kernel
theorem dX8_measure_101 : decode cX8_measure 101 = .ok (.ireturn, 1) := by decide +kernel
theorem dX8_measure_102 : decode cX8_measure 102 = .ok (.iload_n 3, 1) := by decide +kernel
theorem dX8_measure_103 : decode cX8_measure 103 = .ok (.ireturn, 1) := by decide +kernel
theorem dX8_measure_104 : decode cX8_measure 104 = .ok (.iload_n 3, 1) := by decide +kernel
theorem dX8_measure_105 : decode cX8_measure 105 = .ok (.iload 4, 2) := by decide +kernel
theorem dX8_measure_107 : decode cX8_measure 107 = .ok (.iadd, 1) := by decide +kernel
theorem dX8_measure_108 : decode cX8_measure 108 = .ok (.ireturn, 1) := by decide +kernel
theorem dX8_measure_109 : decode cX8_measure 109 = .ok (.iload_n 3, 1) := by decide +kernel
theorem dX8_measure_110 : decode cX8_measure 110 = .ok (.iload 4, 2) := by decide +kernel
theorem dX8_measure_112 : decode cX8_measure 112 = .ok (.if_icmp .le 7, 3) := by decide +kernel
theorem dX8_measure_115 : decode cX8_measure 115 = .ok (.iload_n 3, 1) := by decide +kernel
theorem dX8_measure_116 : decode cX8_measure 116 = .ok (.goto 5, 3) := by decide +kernel
theorem dX8_measure_119 : decode cX8_measure 119 = .ok (.iload 4, 2) := by decide +kernel
theorem dX8_measure_121 : decode cX8_measure 121 = .ok (.ireturn, 1) := by decide +kernel
theorem dX8_comes_0 : decode cX8_comes 0 = .ok (.aload_n 0, 1) := by decide +kernel
theorem dX8_comes_1 : decode cX8_comes 1 = .ok (.getfield 10, 3) := by decide +kernel
theorem dX8_comes_4 : decode cX8_comes 4 = .ok (.invokevirtual 51, 3) := by decide +kernel
theorem dX8_comes_7 : decode cX8_comes 7 = .ok (.istore_n 2, 1) := by decide +kernel
theorem dX8_comes_8 : decode cX8_comes 8 = .ok (.iload_n 2, 1) := by decide +kernel
theorem dX8_comes_9 : decode cX8_comes 9 = .ok (.ifCond .le 29, 3) := by decide +kernel
theorem dX8_comes_12 : decode cX8_comes 12 = .ok (.aload_n 1, 1) := by decide +kernel
theorem dX8_comes_13 : decode cX8_comes 13 = .ok (.aload_n 0, 1) := by decide +kernel
theorem dX8_comes_14 : decode cX8_comes 14 = .ok (.getfield 10, 3) := by decide +kernel
theorem dX8_comes_17 : decode cX8_comes 17 = .ok (.iload_n 2, 1) := by decide +kernel
theorem dX8_comes_18 : decode cX8_comes 18 = .ok (.iconst 1, 1) := by decide +kernel
theorem dX8_comes_19 : decode cX8_comes 19 = .ok (.isub, 1) := by decide +kernel
theorem dX8_comes_20 : decode cX8_comes 20 = .ok (.invokevirtual 55, 3) := by decide +kernel
theorem dX8_comes_23 : decode cX8_comes 23 = .ok (.checkcast 29, 3) := by decide +kernel
theorem dX8_comes_26 : decode cX8_comes 26 = .ok (.invokevirtual 59, 3) := by decide +kernel
theorem dX8_comes_29 : decode cX8_comes 29 = .ok (.ifCond .eq 9, 3) := by decide +kernel
theorem dX8_comes_32 : decode cX8_comes 32 = .ok (.iinc 2 (-1), 3) := by decide +kernel
theorem dX8_comes_35 : decode cX8_comes 35 = .ok (.goto (-27), 3) := by decide +kernel
theorem dX8_comes_38 : decode cX8_comes 38 = .ok (.aload_n 0, 1) := by decide +kernel
theorem dX8_comes_39 : decode cX8_comes 39 = .ok (.getfield 10, 3) := by decide +kernel
theorem dX8_comes_42 : decode cX8_comes 42 = .ok (.iload_n 2, 1) := by decide +kernel
theorem dX8_comes_43 : decode cX8_comes 43 = .ok (.aload_n 1, 1) := by decide +kernel
theorem dX8_comes_44 : decode cX8_comes 44 = .ok (.invokevirtual 63, 3) := by decide +kernel
theorem dX8_comes_47 : decode cX8_comes 47 = .ok (.return_, 1) := by decide +kernel
theorem dX8_rank_0 : decode cX8_rank 0 = .ok (.iconst 0, 1) := by decide +kernel
theorem dX8_rank_1 : decode cX8_rank 1 = .ok (.istore_n 3, 1) := by decide +kernel
theorem dX8_rank_2 : decode cX8_rank 2 = .ok (.aload_n 0, 1) := by decide +kernel
theorem dX8_rank_3 : decode cX8_rank 3 = .ok (.getfield 10, 3) := by decide +kernel
theorem dX8_rank_6 : decode cX8_rank 6 = .ok (.iload_n 3, 1) := by decide +kernel
theorem dX8_rank_7 : decode cX8_rank 7 = .ok (.invokevirtual 55, 3) := by decide +kernel
theorem dX8_rank_10 : decode cX8_rank 10 = .ok (.checkcast 29, 3) := by decide +kernel
theorem dX8_rank_13 : decode cX8_rank 13 = .ok (.getfield 67, 3) := by decide +kernel
theorem dX8_rank_16 : decode cX8_rank 16 = .ok (.iload_n 1, 1) := by decide +kernel
theorem dX8_rank_17 : decode cX8_rank 17 = .ok (.aload_n 0, 1) := by decide +kernel
theorem dX8_rank_18 : decode cX8_rank 18 = .ok (.getfield 70, 3) := by decide +kernel
theorem dX8_rank_21 : decode cX8_rank 21 = .ok (.iadd, 1) := by decide +kernel
theorem dX8_rank_22 : decode cX8_rank 22 = .ok (.aload_n 0, 1) := by decide +kernel
theorem dX8_rank_23 : decode cX8_rank 23 = .ok (.getfield 26, 3) := by decide +kernel
theorem dX8_rank_26 : decode cX8_rank 26 = .ok (.irem, 1) := by decide +kernel
theorem dX8_rank_27 : decode cX8_rank 27 = .ok (.if_icmp .ne 31, 3) := by decide +kernel
theorem dX8_rank_30 : decode cX8_rank 30 = .ok (.aload_n 0, 1) := by decide +kernel
theorem dX8_rank_31 : decode cX8_rank 31 = .ok (.getfield 10, 3) := by decide +kernel
theorem dX8_rank_34 : decode cX8_rank 34 = .ok (.iload_n 3, 1) := by decide +kernel
theorem dX8_rank_35 : decode cX8_rank 35 = .ok (.invokevirtual 55, 3) := by decide +kernel
theorem dX8_rank_38 : decode cX8_rank 38 = .ok (.checkcast 29, 3) := by decide +kernel
theorem dX8_rank_41 : decode cX8_rank 41 = .ok (.getfield 73, 3) := by decide +kernel
theorem dX8_rank_44 : decode cX8_rank 44 = .ok (.iload_n 2, 1) := by decide +kernel
theorem dX8_rank_45 : decode cX8_rank 45 = .ok (.aload_n 0, 1) := by decide +kernel
theorem dX8_rank_46 : decode cX8_rank 46 = .ok (.getfield 76, 3) := by decide +kernel
theorem dX8_rank_49 : decode cX8_rank 49 = .ok (.iadd, 1) := by decide +kernel
theorem dX8_rank_50 : decode cX8_rank 50 = .ok (.aload_n 0, 1) := by decide +kernel
theorem dX8_rank_51 : decode cX8_rank 51 = .ok (.getfield 26, 3) := by decide +kernel
theorem dX8_rank_54 : decode cX8_rank 54 = .ok (.irem, 1) := by decide +kernel
theorem dX8_rank_55 : decode cX8_rank 55 = .ok (.if_icmp .eq 9, 3) := by decide +kernel
theorem dX8_rank_58 : decode cX8_rank 58 = .ok (.iinc 3 1, 3) := by decide +kernel
theorem dX8_rank_61 : decode cX8_rank 61 = .ok (.goto (-59), 3) := by decide +kernel
theorem dX8_rank_64 : decode cX8_rank 64 = .ok (.iload_n 3, 1) := by decide +kernel
theorem dX8_rank_65 : decode cX8_rank 65 = .ok (.ireturn, 1) := by decide +kernel
theorem dJ5_init_d00df_0 : decode cJ5_init_d00df 0 = .ok (.aload_n 0, 1) := by decide +kernel
theorem dJ5_init_d00df_1 : decode cJ5_init_d00df 1 = .ok (.invokespecial 3, 3) := by decide +kernel
theorem dJ5_init_d00df_4 : decode cJ5_init_d00df 4 = .ok (.getstatic 18, 3) := by decide +kernel
theorem dJ5_init_d00df_7 : decode cJ5_init_d00df 7 = .ok (.ifCond .eq 18, 3) := by decide +kernel
theorem dJ5_init_d00df_10 : decode cJ5_init_d00df 10 = .ok (.aload_n 0, 1) := by decide +kernel
theorem dJ5_init_d00df_11 : decode cJ5_init_d00df 11 = .ok (.iload_n 1, 1) := by decide +kernel
theorem dJ5_init_d00df_12 : decode cJ5_init_d00df 12 = .ok (.newarray .byte, 2) := by decide +kernel
theorem dJ5_init_d00df_14 : decode cJ5_init_d00df 14 = .ok (.putfield 15, 3) := by decide +kernel
theorem dJ5_init_d00df_17 : decode cJ5_init_d00df 17 = .ok (.aload_n 0, 1) := by decide +kernel
theorem dJ5_init_d00df_18 : decode cJ5_init_d00df 18 = .ok (.iconst 0, 1) := by decide +kernel
theorem dJ5_init_d00df_19 : decode cJ5_init_d00df 19 = .ok (.putfield 22, 3) := by decide +kernel
theorem dJ5_init_d00df_22 : decode cJ5_init_d00df 22 = .ok (.goto 16, 3) := by decide +kernel
theorem dJ5_init_d00df_25 : decode cJ5_init_d00df 25 = .ok (.aload_n 0, 1) := by decide +kernel
theorem dJ5_init_d00df_26 : decode cJ5_init_d00df 26 = .ok (.iload_n 1, 1) := by decide +kernel
theorem dJ5_init_d00df_27 : decode cJ5_init_d00df 27 = .ok (.invokestatic 26, 3) := by decide +kernel
theorem dJ5_init_d00df_30 : decode cJ5_init_d00df 30 = .ok (.putfield 15, 3) := by decide +kernel
theorem dJ5_init_d00df_33 : decode cJ5_init_d00df 33 = .ok (.aload_n 0, 1) := by decide +kernel
theorem dJ5_init_d00df_34 : decode cJ5_init_d00df 34 = .ok (.iconst 1, 1) := by decide +kernel
theorem dJ5_init_d00df_35 : decode cJ5_init_d00df 35 = .ok (.putfield 22, 3) := by decide +kernel
theorem dJ5_init_d00df_38 : decode cJ5_init_d00df 38 = .ok (.return_, 1) := by decide +kernel
theorem dJ5_init_a7421_0 : decode cJ5_init_a7421 0 = .ok (.aload_n 0, 1) := by decide +kernel
theorem dJ5_init_a7421_1 : decode cJ5_init_a7421 1 = .ok (.invokespecial 3, 3) := by decide +kernel
theorem dJ5_init_a7421_4 : decode cJ5_init_a7421 4 = .ok (.aload_n 1, 1) := by decide +kernel
theorem dJ5_init_a7421_5 : decode cJ5_init_a7421 5 = .ok (.invokevirtual 32, 3) := by decide +kernel
theorem dJ5_init_a7421_8 : decode cJ5_init_a7421 8 = .ok (.istore_n 2, 1) := by decide +kernel
theorem dJ5_init_a7421_9 : decode cJ5_init_a7421 9 = .ok (.iload_n 2, 1) := by decide +kernel
theorem dJ5_init_a7421_10 : decode cJ5_init_a7421 10 = .ok (.ldc 38, 2) := by decide +kernel
theorem dJ5_init_a7421_12 : decode cJ5_init_a7421 12 = .ok (.if_icmp .ge 10, 3) := by decide +kernel
theorem dJ5_init_a7421_15 : decode cJ5_init_a7421 15 = .ok (.iload_n 2, 1) := by decide +kernel
theorem dJ5_init_a7421_16 : decode cJ5_init_a7421 16 = .ok (.bipush 16, 2) := by decide +kernel
theorem dJ5_init_a7421_18 : decode cJ5_init_a7421 18 = .ok (.iadd, 1) := by decide +kernel
theorem dJ5_init_a7421_19 : decode cJ5_init_a7421 19 = .ok (.goto 5, 3) := by decide +kernel
theorem dJ5_init_a7421_22 : decode cJ5_init_a7421 22 = .ok (.ldc 39, 2) := by decide +kernel
theorem dJ5_init_a7421_24 : decode cJ5_init_a7421 24 = .ok (.istore_n 3, 1) := by decide +kernel
theorem dJ5_init_a7421_25 : decode cJ5_init_a7421 25 = .ok (.aload_n 1, 1) := by decide +kernel
theorem dJ5_init_a7421_26 : decode cJ5_init_a7421 26 = .ok (.invokevirtual 40, 3) := by decide +kernel
theorem dJ5_init_a7421_29 : decode cJ5_init_a7421 29 = .ok (.istore 4, 2) := by decide +kernel
theorem dJ5_init_a7421_31 : decode cJ5_init_a7421 31 = .ok (.aload_n 0, 1) := by decide +kernel
theorem dJ5_init_a7421_32 : decode cJ5_init_a7421 32 = .ok (.iload 4, 2) := by decide +kernel
theorem dJ5_init_a7421_34 : decode cJ5_init_a7421 34 = .ok (.putfield 22, 3) := by decide +kernel
theorem dJ5_init_a7421_37 : decode cJ5_init_a7421 37 = .ok (.aload_n 0, 1) := by decide +kernel
theorem dJ5_init_a7421_38 : decode cJ5_init_a7421 38 = .ok (.iload 4, 2) := by decide +kernel
theorem dJ5_init_a7421_40 : decode cJ5_init_a7421 40 = .ok (.ifCond .ne 9, 3) := by decide +kernel
theorem dJ5_init_a7421_43 : decode cJ5_init_a7421 43 = .ok (.iload_n 3, 1) := by decide +kernel
theorem dJ5_init_a7421_44 : decode cJ5_init_a7421 44 = .ok (.newarray .byte, 2) := by decide +kernel
theorem dJ5_init_a7421_46 : decode cJ5_init_a7421 46 = .ok (.goto 7, 3) := by decide +kernel
theorem dJ5_init_a7421_49 : decode cJ5_init_a7421 49 = .ok (.iload_n 3, 1) := by decide +kernel
theorem dJ5_init_a7421_50 : decode cJ5_init_a7421 50 = .ok (.invokestatic 26, 3) := by decide +kernel
theorem dJ5_init_a7421_53 : decode cJ5_init_a7421 53 = .ok (.putfield 15, 3) := by decide +kernel
theorem dJ5_init_a7421_56 : decode cJ5_init_a7421 56 = .ok (.aload_n 0, 1) := by decide +kernel
theorem dJ5_init_a7421_57 : decode cJ5_init_a7421 57 = .ok (.aload_n 1, 1) := by decide +kernel
theorem dJ5_init_a7421_58 : decode cJ5_init_a7421 58 = .ok (.invokevirtual 43, 3) := by decide +kernel
theorem dJ5_init_a7421_61 : decode cJ5_init_a7421 61 = .ok (.pop, 1) := by decide +kernel
theorem dJ5_init_a7421_62 : decode cJ5_init_a7421 62 = .ok (.return_, 1) := by decide +kernel
theorem dJ5_length_8abf5_0 : decode cJ5_length_8abf5 0 = .ok (.aload_n 0, 1) := by decide +kernel
theorem dJ5_length_8abf5_1 : decode cJ5_length_8abf5 1 = .ok (.getfield 79, 3) := by decide +kernel
theorem dJ5_length_8abf5_4 : decode cJ5_length_8abf5 4 = .ok (.ireturn, 1) := by decide +kernel
theorem dJ5_ensureCapacityInternal_d00df_0 : decode cJ5_ensureCapacityInternal_d00df 0 = .ok (.aload_n 0, 1) := by decide +kernel
theorem dJ5_ensureCapacityInternal_d00df_1 : decode cJ5_ensureCapacityInternal_d00df 1 = .ok (.getfield 15, 3) := by decide +kernel
theorem dJ5_ensureCapacityInternal_d00df_4 : decode cJ5_ensureCapacityInternal_d00df 4 = .ok (.arraylength, 1) := by decide +kernel
theorem dJ5_ensureCapacityInternal_d00df_5 : decode cJ5_ensureCapacityInternal_d00df 5 = .ok (.aload_n 0, 1) := by decide +kernel
theorem dJ5_ensureCapacityInternal_d00df_6 : decode cJ5_ensureCapacityInternal_d00df 6 = .ok (.getfield 22, 3) := by decide +kernel
theorem dJ5_ensureCapacityInternal_d00df_9 : decode cJ5_ensureCapacityInternal_d00df 9 = .ok (.ishr, 1) := by decide +kernel
theorem dJ5_ensureCapacityInternal_d00df_10 : decode cJ5_ensureCapacityInternal_d00df 10 = .ok (.istore_n 2, 1) := by decide +kernel
theorem dJ5_ensureCapacityInternal_d00df_11 : decode cJ5_ensureCapacityInternal_d00df 11 = .ok (.iload_n 1, 1) := by decide +kernel
theorem dJ5_ensureCapacityInternal_d00df_12 : decode cJ5_ensureCapacityInternal_d00df 12 = .ok (.iload_n 2, 1) := by decide +kernel
theorem dJ5_ensureCapacityInternal_d00df_13 : decode cJ5_ensureCapacityInternal_d00df 13 = .ok (.isub, 1) := by decide +kernel
theorem dJ5_ensureCapacityInternal_d00df_14 : decode cJ5_ensureCapacityInternal_d00df 14 = .ok (.ifCond .le 24, 3) := by decide +kernel
theorem dJ5_ensureCapacityInternal_d00df_17 : decode cJ5_ensureCapacityInternal_d00df 17 = .ok (.aload_n 0, 1) := by decide +kernel
theorem dJ5_ensureCapacityInternal_d00df_18 : decode cJ5_ensureCapacityInternal_d00df 18 = .ok (.aload_n 0, 1) := by decide +kernel
theorem dJ5_ensureCapacityInternal_d00df_19 : decode cJ5_ensureCapacityInternal_d00df 19 = .ok (.getfield 15, 3) := by decide +kernel
theorem dJ5_ensureCapacityInternal_d00df_22 : decode cJ5_ensureCapacityInternal_d00df 22 = .ok (.aload_n 0, 1) := by decide +kernel
theorem dJ5_ensureCapacityInternal_d00df_23 : decode cJ5_ensureCapacityInternal_d00df 23 = .ok (.iload_n 1, 1) := by decide +kernel
theorem dJ5_ensureCapacityInternal_d00df_24 : decode cJ5_ensureCapacityInternal_d00df 24 = .ok (.invokevirtual 104, 3) := by decide +kernel
theorem dJ5_ensureCapacityInternal_d00df_27 : decode cJ5_ensureCapacityInternal_d00df 27 = .ok (.aload_n 0, 1) := by decide +kernel
theorem dJ5_ensureCapacityInternal_d00df_28 : decode cJ5_ensureCapacityInternal_d00df 28 = .ok (.getfield 22, 3) := by decide +kernel
theorem dJ5_ensureCapacityInternal_d00df_31 : decode cJ5_ensureCapacityInternal_d00df 31 = .ok (.ishl, 1) := by decide +kernel
theorem dJ5_ensureCapacityInternal_d00df_32 : decode cJ5_ensureCapacityInternal_d00df 32 = .ok (.invokestatic 108, 3) := by decide +kernel
theorem dJ5_ensureCapacityInternal_d00df_35 : decode cJ5_ensureCapacityInternal_d00df 35 = .ok (.putfield 15, 3) := by decide +kernel
theorem dJ5_ensureCapacityInternal_d00df_38 : decode cJ5_ensureCapacityInternal_d00df 38 = .ok (.return_, 1) := by decide +kernel
theorem dJ5_newCapacity_0f7a4_0 : decode cJ5_newCapacity_0f7a4 0 = .ok (.aload_n 0, 1) := by decide +kernel
theorem dJ5_newCapacity_0f7a4_1 : decode cJ5_newCapacity_0f7a4 1 = .ok (.getfield 15, 3) := by decide +kernel
theorem dJ5_newCapacity_0f7a4_4 : decode cJ5_newCapacity_0f7a4 4 = .ok (.arraylength, 1) := by decide +kernel
theorem dJ5_newCapacity_0f7a4_5 : decode cJ5_newCapacity_0f7a4 5 = .ok (.istore_n 2, 1) := by decide +kernel
theorem dJ5_newCapacity_0f7a4_6 : decode cJ5_newCapacity_0f7a4 6 = .ok (.iload_n 1, 1) := by decide +kernel
theorem dJ5_newCapacity_0f7a4_7 : decode cJ5_newCapacity_0f7a4 7 = .ok (.aload_n 0, 1) := by decide +kernel
theorem dJ5_newCapacity_0f7a4_8 : decode cJ5_newCapacity_0f7a4 8 = .ok (.getfield 22, 3) := by decide +kernel
theorem dJ5_newCapacity_0f7a4_11 : decode cJ5_newCapacity_0f7a4 11 = .ok (.ishl, 1) := by decide +kernel
theorem dJ5_newCapacity_0f7a4_12 : decode cJ5_newCapacity_0f7a4 12 = .ok (.istore_n 3, 1) := by decide +kernel
theorem dJ5_newCapacity_0f7a4_13 : decode cJ5_newCapacity_0f7a4 13 = .ok (.iload_n 3, 1) := by decide +kernel
theorem dJ5_newCapacity_0f7a4_14 : decode cJ5_newCapacity_0f7a4 14 = .ok (.iload_n 2, 1) := by decide +kernel
theorem dJ5_newCapacity_0f7a4_15 : decode cJ5_newCapacity_0f7a4 15 = .ok (.isub, 1) := by decide +kernel
theorem dJ5_newCapacity_0f7a4_16 : decode cJ5_newCapacity_0f7a4 16 = .ok (.istore 4, 2) := by decide +kernel
theorem dJ5_newCapacity_0f7a4_18 : decode cJ5_newCapacity_0f7a4 18 = .ok (.iload_n 2, 1) := by decide +kernel
theorem dJ5_newCapacity_0f7a4_19 : decode cJ5_newCapacity_0f7a4 19 = .ok (.iload 4, 2) := by decide +kernel
theorem dJ5_newCapacity_0f7a4_21 : decode cJ5_newCapacity_0f7a4 21 = .ok (.iload_n 2, 1) := by decide +kernel
theorem dJ5_newCapacity_0f7a4_22 : decode cJ5_newCapacity_0f7a4 22 = .ok (.iconst 2, 1) := by decide +kernel
theorem dJ5_newCapacity_0f7a4_23 : decode cJ5_newCapacity_0f7a4 23 = .ok (.aload_n 0, 1) := by decide +kernel
theorem dJ5_newCapacity_0f7a4_24 : decode cJ5_newCapacity_0f7a4 24 = .ok (.getfield 22, 3) := by decide +kernel
theorem dJ5_newCapacity_0f7a4_27 : decode cJ5_newCapacity_0f7a4 27 = .ok (.ishl, 1) := by decide +kernel
theorem dJ5_newCapacity_0f7a4_28 : decode cJ5_newCapacity_0f7a4 28 = .ok (.iadd, 1) := by decide +kernel
theorem dJ5_newCapacity_0f7a4_29 : decode cJ5_newCapacity_0f7a4 29 = .ok (.invokestatic 114, 3) := by decide +kernel
theorem dJ5_newCapacity_0f7a4_32 : decode cJ5_newCapacity_0f7a4 32 = .ok (.istore 5, 2) := by decide +kernel
theorem dJ5_newCapacity_0f7a4_34 : decode cJ5_newCapacity_0f7a4 34 = .ok (.iload 5, 2) := by decide +kernel
theorem dJ5_newCapacity_0f7a4_36 : decode cJ5_newCapacity_0f7a4 36 = .ok (.ldc 39, 2) := by decide +kernel
theorem dJ5_newCapacity_0f7a4_38 : decode cJ5_newCapacity_0f7a4 38 = .ok (.if_icmp .ne 13, 3) := by decide +kernel
theorem dJ5_newCapacity_0f7a4_41 : decode cJ5_newCapacity_0f7a4 41 = .ok (.new 120, 3) := by decide +kernel
theorem dJ5_newCapacity_0f7a4_44 : decode cJ5_newCapacity_0f7a4 44 = .ok (.dup, 1) := by decide +kernel
theorem dJ5_newCapacity_0f7a4_45 : decode cJ5_newCapacity_0f7a4 45 = .ok (.ldc 122, 2) := by decide +kernel
theorem dJ5_newCapacity_0f7a4_47 : decode cJ5_newCapacity_0f7a4 47 = .ok (.invokespecial 124, 3) := by decide +kernel
theorem dJ5_newCapacity_0f7a4_50 : decode cJ5_newCapacity_0f7a4 50 = .ok (.athrow, 1) := by decide +kernel
theorem dJ5_newCapacity_0f7a4_51 : decode cJ5_newCapacity_0f7a4 51 = .ok (.iload 5, 2) := by decide +kernel
theorem dJ5_newCapacity_0f7a4_53 : decode cJ5_newCapacity_0f7a4 53 = .ok (.aload_n 0, 1) := by decide +kernel
theorem dJ5_newCapacity_0f7a4_54 : decode cJ5_newCapacity_0f7a4 54 = .ok (.getfield 22, 3) := by decide +kernel
theorem dJ5_newCapacity_0f7a4_57 : decode cJ5_newCapacity_0f7a4 57 = .ok (.ishr, 1) := by decide +kernel
theorem dJ5_newCapacity_0f7a4_58 : decode cJ5_newCapacity_0f7a4 58 = .ok (.ireturn, 1) := by decide +kernel
theorem dJ5_inflate_da8c8_0 : decode cJ5_inflate_da8c8 0 = .ok (.aload_n 0, 1) := by decide +kernel
theorem dJ5_inflate_da8c8_1 : decode cJ5_inflate_da8c8 1 = .ok (.invokevirtual 83, 3) := by decide +kernel
theorem dJ5_inflate_da8c8_4 : decode cJ5_inflate_da8c8 4 = .ok (.ifCond .ne 4, 3) := by decide +kernel
theorem dJ5_inflate_da8c8_7 : decode cJ5_inflate_da8c8 7 = .ok (.return_, 1) := by decide +kernel
theorem dJ5_inflate_da8c8_8 : decode cJ5_inflate_da8c8 8 = .ok (.aload_n 0, 1) := by decide +kernel
theorem dJ5_inflate_da8c8_9 : decode cJ5_inflate_da8c8 9 = .ok (.getfield 15, 3) := by decide +kernel
theorem dJ5_inflate_da8c8_12 : decode cJ5_inflate_da8c8 12 = .ok (.arraylength, 1) := by decide +kernel
theorem dJ5_inflate_da8c8_13 : decode cJ5_inflate_da8c8 13 = .ok (.invokestatic 26, 3) := by decide +kernel
theorem dJ5_inflate_da8c8_16 : decode cJ5_inflate_da8c8 16 = .ok (.astore_n 1, 1) := by decide +kernel
theorem dJ5_inflate_da8c8_17 : decode cJ5_inflate_da8c8 17 = .ok (.aload_n 0, 1) := by decide +kernel
theorem dJ5_inflate_da8c8_18 : decode cJ5_inflate_da8c8 18 = .ok (.getfield 15, 3) := by decide +kernel
theorem dJ5_inflate_da8c8_21 : decode cJ5_inflate_da8c8 21 = .ok (.iconst 0, 1) := by decide +kernel
theorem dJ5_inflate_da8c8_22 : decode cJ5_inflate_da8c8 22 = .ok (.aload_n 1, 1) := by decide +kernel
theorem dJ5_inflate_da8c8_23 : decode cJ5_inflate_da8c8 23 = .ok (.iconst 0, 1) := by decide +kernel
theorem dJ5_inflate_da8c8_24 : decode cJ5_inflate_da8c8 24 = .ok (.aload_n 0, 1) := by decide +kernel
theorem dJ5_inflate_da8c8_25 : decode cJ5_inflate_da8c8 25 = .ok (.getfield 79, 3) := by decide +kernel
theorem dJ5_inflate_da8c8_28 : decode cJ5_inflate_da8c8 28 = .ok (.invokestatic 125, 3) := by decide +kernel
theorem dJ5_inflate_da8c8_31 : decode cJ5_inflate_da8c8 31 = .ok (.aload_n 0, 1) := by decide +kernel
theorem dJ5_inflate_da8c8_32 : decode cJ5_inflate_da8c8 32 = .ok (.aload_n 1, 1) := by decide +kernel
theorem dJ5_inflate_da8c8_33 : decode cJ5_inflate_da8c8 33 = .ok (.putfield 15, 3) := by decide +kernel
theorem dJ5_inflate_da8c8_36 : decode cJ5_inflate_da8c8 36 = .ok (.aload_n 0, 1) := by decide +kernel
theorem dJ5_inflate_da8c8_37 : decode cJ5_inflate_da8c8 37 = .ok (.iconst 1, 1) := by decide +kernel
theorem dJ5_inflate_da8c8_38 : decode cJ5_inflate_da8c8 38 = .ok (.putfield 22, 3) := by decide +kernel
theorem dJ5_inflate_da8c8_41 : decode cJ5_inflate_da8c8 41 = .ok (.return_, 1) := by decide +kernel
theorem dJ5_append_cf1ce_0 : decode cJ5_append_cf1ce 0 = .ok (.aload_n 1, 1) := by decide +kernel
theorem dJ5_append_cf1ce_1 : decode cJ5_append_cf1ce 1 = .ok (.ifnonnull 8, 3) := by decide +kernel
theorem dJ5_append_cf1ce_4 : decode cJ5_append_cf1ce 4 = .ok (.aload_n 0, 1) := by decide +kernel
theorem dJ5_append_cf1ce_5 : decode cJ5_append_cf1ce 5 = .ok (.invokevirtual 204, 3) := by decide +kernel
theorem dJ5_append_cf1ce_8 : decode cJ5_append_cf1ce 8 = .ok (.areturn, 1) := by decide +kernel
theorem dJ5_append_cf1ce_9 : decode cJ5_append_cf1ce 9 = .ok (.aload_n 1, 1) := by decide +kernel
theorem dJ5_append_cf1ce_10 : decode cJ5_append_cf1ce 10 = .ok (.invokevirtual 32, 3) := by decide +kernel
theorem dJ5_append_cf1ce_13 : decode cJ5_append_cf1ce 13 = .ok (.istore_n 2, 1) := by decide +kernel
theorem dJ5_append_cf1ce_14 : decode cJ5_append_cf1ce 14 = .ok (.aload_n 0, 1) := by decide +kernel
theorem dJ5_append_cf1ce_15 : decode cJ5_append_cf1ce 15 = .ok (.aload_n 0, 1) := by decide +kernel
theorem dJ5_append_cf1ce_16 : decode cJ5_append_cf1ce 16 = .ok (.getfield 79, 3) := by decide +kernel
theorem dJ5_append_cf1ce_19 : decode cJ5_append_cf1ce 19 = .ok (.iload_n 2, 1) := by decide +kernel
theorem dJ5_append_cf1ce_20 : decode cJ5_append_cf1ce 20 = .ok (.iadd, 1) := by decide +kernel
theorem dJ5_append_cf1ce_21 : decode cJ5_append_cf1ce 21 = .ok (.invokevirtual 100, 3) := by decide +kernel
theorem dJ5_append_cf1ce_24 : decode cJ5_append_cf1ce 24 = .ok (.aload_n 0, 1) := by decide +kernel
theorem dJ5_append_cf1ce_25 : decode cJ5_append_cf1ce 25 = .ok (.aload_n 0, 1) := by decide +kernel
theorem dJ5_append_cf1ce_26 : decode cJ5_append_cf1ce 26 = .ok (.getfield 79, 3) := by decide +kernel
theorem dJ5_append_cf1ce_29 : decode cJ5_append_cf1ce 29 = .ok (.aload_n 1, 1) := by decide +kernel
theorem dJ5_append_cf1ce_30 : decode cJ5_append_cf1ce 30 = .ok (.invokevirtual 208, 3) := by decide +kernel
theorem dJ5_append_cf1ce_33 : decode cJ5_append_cf1ce 33 = .ok (.aload_n 0, 1) := by decide +kernel
theorem dJ5_append_cf1ce_34 : decode cJ5_append_cf1ce 34 = .ok (.dup, 1) := by decide +kernel
theorem dJ5_append_cf1ce_35 : decode cJ5_append_cf1ce 35 = .ok (.getfield 79, 3) := by decide +kernel
theorem dJ5_append_cf1ce_38 : decode cJ5_append_cf1ce 38 = .ok (.iload_n 2, 1) := by decide +kernel
theorem dJ5_append_cf1ce_39 : decode cJ5_append_cf1ce 39 = .ok (.iadd, 1) := by decide +kernel
theorem dJ5_append_cf1ce_40 : decode cJ5_append_cf1ce 40 = .ok (.putfield 79, 3) := by decide +kernel
theorem dJ5_append_cf1ce_43 : decode cJ5_append_cf1ce 43 = .ok (.aload_n 0, 1) := by decide +kernel
theorem dJ5_append_cf1ce_44 : decode cJ5_append_cf1ce 44 = .ok (.areturn, 1) := by decide +kernel
theorem dJ5_appendNull_278bc_0 : decode cJ5_appendNull_278bc 0 = .ok (.aload_n 0, 1) := by decide +kernel
theorem dJ5_appendNull_278bc_1 : decode cJ5_appendNull_278bc 1 = .ok (.aload_n 0, 1) := by decide +kernel
theorem dJ5_appendNull_278bc_2 : decode cJ5_appendNull_278bc 2 = .ok (.getfield 79, 3) := by decide +kernel
theorem dJ5_appendNull_278bc_5 : decode cJ5_appendNull_278bc 5 = .ok (.iconst 4, 1) := by decide +kernel
theorem dJ5_appendNull_278bc_6 : decode cJ5_appendNull_278bc 6 = .ok (.iadd, 1) := by decide +kernel
theorem dJ5_appendNull_278bc_7 : decode cJ5_appendNull_278bc 7 = .ok (.invokevirtual 100, 3) := by decide +kernel
theorem dJ5_appendNull_278bc_10 : decode cJ5_appendNull_278bc 10 = .ok (.aload_n 0, 1) := by decide +kernel
theorem dJ5_appendNull_278bc_11 : decode cJ5_appendNull_278bc 11 = .ok (.getfield 79, 3) := by decide +kernel
theorem dJ5_appendNull_278bc_14 : decode cJ5_appendNull_278bc 14 = .ok (.istore_n 1, 1) := by decide +kernel
theorem dJ5_appendNull_278bc_15 : decode cJ5_appendNull_278bc 15 = .ok (.aload_n 0, 1) := by decide +kernel
theorem dJ5_appendNull_278bc_16 : decode cJ5_appendNull_278bc 16 = .ok (.getfield 15, 3) := by decide +kernel
theorem dJ5_appendNull_278bc_19 : decode cJ5_appendNull_278bc 19 = .ok (.astore_n 2, 1) := by decide +kernel
theorem dJ5_appendNull_278bc_20 : decode cJ5_appendNull_278bc 20 = .ok (.aload_n 0, 1) := by decide +kernel
theorem dJ5_appendNull_278bc_21 : decode cJ5_appendNull_278bc 21 = .ok (.invokevirtual 83, 3) := by decide +kernel
theorem dJ5_appendNull_278bc_24 : decode cJ5_appendNull_278bc 24 = .ok (.ifCond .eq 38, 3) := by decide +kernel
theorem dJ5_appendNull_278bc_27 : decode cJ5_appendNull_278bc 27 = .ok (.aload_n 2, 1) := by decide +kernel
theorem dJ5_appendNull_278bc_28 : decode cJ5_appendNull_278bc 28 = .ok (.iload_n 1, 1) := by decide +kernel
theorem dJ5_appendNull_278bc_29 : decode cJ5_appendNull_278bc 29 = .ok (.iinc 1 1, 3) := by decide +kernel
theorem dJ5_appendNull_278bc_32 : decode cJ5_appendNull_278bc 32 = .ok (.bipush 110, 2) := by decide +kernel
theorem dJ5_appendNull_278bc_34 : decode cJ5_appendNull_278bc 34 = .ok (.bastore, 1) := by decide +kernel
theorem dJ5_appendNull_278bc_35 : decode cJ5_appendNull_278bc 35 = .ok (.aload_n 2, 1) := by decide +kernel
theorem dJ5_appendNull_278bc_36 : decode cJ5_appendNull_278bc 36 = .ok (.iload_n 1, 1) := by decide +kernel
theorem dJ5_appendNull_278bc_37 : decode cJ5_appendNull_278bc 37 = .ok (.iinc 1 1, 3) := by decide +kernel
theorem dJ5_appendNull_278bc_40 : decode cJ5_appendNull_278bc 40 = .ok (.bipush 117, 2) := by decide +kernel
theorem dJ5_appendNull_278bc_42 : decode cJ5_appendNull_278bc 42 = .ok (.bastore, 1) := by decide +kernel
theorem dJ5_appendNull_278bc_43 : decode cJ5_appendNull_278bc 43 = .ok (.aload_n 2, 1) := by decide +kernel
theorem dJ5_appendNull_278bc_44 : decode cJ5_appendNull_278bc 44 = .ok (.iload_n 1, 1) := by decide +kernel
theorem dJ5_appendNull_278bc_45 : decode cJ5_appendNull_278bc 45 = .ok (.iinc 1 1, 3) := by decide +kernel
theorem dJ5_appendNull_278bc_48 : decode cJ5_appendNull_278bc 48 = .ok (.bipush 108, 2) := by decide +kernel
theorem dJ5_appendNull_278bc_50 : decode cJ5_appendNull_278bc 50 = .ok (.bastore, 1) := by decide +kernel
theorem dJ5_appendNull_278bc_51 : decode cJ5_appendNull_278bc 51 = .ok (.aload_n 2, 1) := by decide +kernel
theorem dJ5_appendNull_278bc_52 : decode cJ5_appendNull_278bc 52 = .ok (.iload_n 1, 1) := by decide +kernel
theorem dJ5_appendNull_278bc_53 : decode cJ5_appendNull_278bc 53 = .ok (.iinc 1 1, 3) := by decide +kernel
theorem dJ5_appendNull_278bc_56 : decode cJ5_appendNull_278bc 56 = .ok (.bipush 108, 2) := by decide +kernel
theorem dJ5_appendNull_278bc_58 : decode cJ5_appendNull_278bc 58 = .ok (.bastore, 1) := by decide +kernel
theorem dJ5_appendNull_278bc_59 : decode cJ5_appendNull_278bc 59 = .ok (.goto 17, 3) := by decide +kernel
theorem dJ5_appendNull_278bc_62 : decode cJ5_appendNull_278bc 62 = .ok (.aload_n 2, 1) := by decide +kernel
theorem dJ5_appendNull_278bc_63 : decode cJ5_appendNull_278bc 63 = .ok (.iload_n 1, 1) := by decide +kernel
theorem dJ5_appendNull_278bc_64 : decode cJ5_appendNull_278bc 64 = .ok (.bipush 110, 2) := by decide +kernel
theorem dJ5_appendNull_278bc_66 : decode cJ5_appendNull_278bc 66 = .ok (.bipush 117, 2) := by decide +kernel
theorem dJ5_appendNull_278bc_68 : decode cJ5_appendNull_278bc 68 = .ok (.bipush 108, 2) := by decide +kernel
theorem dJ5_appendNull_278bc_70 : decode cJ5_appendNull_278bc 70 = .ok (.bipush 108, 2) := by decide +kernel
theorem dJ5_appendNull_278bc_72 : decode cJ5_appendNull_278bc 72 = .ok (.invokestatic 226, 3) := by decide +kernel
theorem dJ5_appendNull_278bc_75 : decode cJ5_appendNull_278bc 75 = .ok (.istore_n 1, 1) := by decide +kernel
theorem dJ5_appendNull_278bc_76 : decode cJ5_appendNull_278bc 76 = .ok (.aload_n 0, 1) := by decide +kernel
theorem dJ5_appendNull_278bc_77 : decode cJ5_appendNull_278bc 77 = .ok (.iload_n 1, 1) := by decide +kernel
theorem dJ5_appendNull_278bc_78 : decode cJ5_appendNull_278bc 78 = .ok (.putfield 79, 3) := by decide +kernel
theorem dJ5_appendNull_278bc_81 : decode cJ5_appendNull_278bc 81 = .ok (.aload_n 0, 1) := by decide +kernel
theorem dJ5_appendNull_278bc_82 : decode cJ5_appendNull_278bc 82 = .ok (.areturn, 1) := by decide +kernel
theorem dJ5_append_3fe6f_0 : decode cJ5_append_3fe6f 0 = .ok (.aload_n 0, 1) := by decide +kernel
theorem dJ5_append_3fe6f_1 : decode cJ5_append_3fe6f 1 = .ok (.aload_n 0, 1) := by decide +kernel
theorem dJ5_append_3fe6f_2 : decode cJ5_append_3fe6f 2 = .ok (.getfield 79, 3) := by decide +kernel
theorem dJ5_append_3fe6f_5 : decode cJ5_append_3fe6f 5 = .ok (.iconst 1, 1) := by decide +kernel
theorem dJ5_append_3fe6f_6 : decode cJ5_append_3fe6f 6 = .ok (.iadd, 1) := by decide +kernel
theorem dJ5_append_3fe6f_7 : decode cJ5_append_3fe6f 7 = .ok (.invokevirtual 100, 3) := by decide +kernel
theorem dJ5_append_3fe6f_10 : decode cJ5_append_3fe6f 10 = .ok (.aload_n 0, 1) := by decide +kernel
theorem dJ5_append_3fe6f_11 : decode cJ5_append_3fe6f 11 = .ok (.invokevirtual 83, 3) := by decide +kernel
theorem dJ5_append_3fe6f_14 : decode cJ5_append_3fe6f 14 = .ok (.ifCond .eq 31, 3) := by decide +kernel
theorem dJ5_append_3fe6f_17 : decode cJ5_append_3fe6f 17 = .ok (.iload_n 1, 1) := by decide +kernel
theorem dJ5_append_3fe6f_18 : decode cJ5_append_3fe6f 18 = .ok (.invokestatic 191, 3) := by decide +kernel
theorem dJ5_append_3fe6f_21 : decode cJ5_append_3fe6f 21 = .ok (.ifCond .eq 24, 3) := by decide +kernel
theorem dJ5_append_3fe6f_24 : decode cJ5_append_3fe6f 24 = .ok (.aload_n 0, 1) := by decide +kernel
theorem dJ5_append_3fe6f_25 : decode cJ5_append_3fe6f 25 = .ok (.getfield 15, 3) := by decide +kernel
theorem dJ5_append_3fe6f_28 : decode cJ5_append_3fe6f 28 = .ok (.aload_n 0, 1) := by decide +kernel
theorem dJ5_append_3fe6f_29 : decode cJ5_append_3fe6f 29 = .ok (.dup, 1) := by decide +kernel
theorem dJ5_append_3fe6f_30 : decode cJ5_append_3fe6f 30 = .ok (.getfield 79, 3) := by decide +kernel
theorem dJ5_append_3fe6f_33 : decode cJ5_append_3fe6f 33 = .ok (.dup_x1, 1) := by decide +kernel
theorem dJ5_append_3fe6f_34 : decode cJ5_append_3fe6f 34 = .ok (.iconst 1, 1) := by decide +kernel
theorem dJ5_append_3fe6f_35 : decode cJ5_append_3fe6f 35 = .ok (.iadd, 1) := by decide +kernel
theorem dJ5_append_3fe6f_36 : decode cJ5_append_3fe6f 36 = .ok (.putfield 79, 3) := by decide +kernel
theorem dJ5_append_3fe6f_39 : decode cJ5_append_3fe6f 39 = .ok (.iload_n 1, 1) := by decide +kernel
theorem dJ5_append_3fe6f_40 : decode cJ5_append_3fe6f 40 = .ok (.i2b, 1) := by decide +kernel
theorem dJ5_append_3fe6f_41 : decode cJ5_append_3fe6f 41 = .ok (.bastore, 1) := by decide +kernel
theorem dJ5_append_3fe6f_42 : decode cJ5_append_3fe6f 42 = .ok (.goto 33, 3) := by decide +kernel
theorem dJ5_append_3fe6f_45 : decode cJ5_append_3fe6f 45 = .ok (.aload_n 0, 1) := by decide +kernel
theorem dJ5_append_3fe6f_46 : decode cJ5_append_3fe6f 46 = .ok (.invokevirtual 83, 3) := by decide +kernel
theorem dJ5_append_3fe6f_49 : decode cJ5_append_3fe6f 49 = .ok (.ifCond .eq 7, 3) := by decide +kernel
theorem dJ5_append_3fe6f_52 : decode cJ5_append_3fe6f 52 = .ok (.aload_n 0, 1) := by decide +kernel
theorem dJ5_append_3fe6f_53 : decode cJ5_append_3fe6f 53 = .ok (.invokevirtual 195, 3) := by decide +kernel
theorem dJ5_append_3fe6f_56 : decode cJ5_append_3fe6f 56 = .ok (.aload_n 0, 1) := by decide +kernel
theorem dJ5_append_3fe6f_57 : decode cJ5_append_3fe6f 57 = .ok (.getfield 15, 3) := by decide +kernel
theorem dJ5_append_3fe6f_60 : decode cJ5_append_3fe6f 60 = .ok (.aload_n 0, 1) := by decide +kernel
theorem dJ5_append_3fe6f_61 : decode cJ5_append_3fe6f 61 = .ok (.dup, 1) := by decide +kernel
theorem dJ5_append_3fe6f_62 : decode cJ5_append_3fe6f 62 = .ok (.getfield 79, 3) := by decide +kernel
theorem dJ5_append_3fe6f_65 : decode cJ5_append_3fe6f 65 = .ok (.dup_x1, 1) := by decide +kernel
theorem dJ5_append_3fe6f_66 : decode cJ5_append_3fe6f 66 = .ok (.iconst 1, 1) := by decide +kernel
theorem dJ5_append_3fe6f_67 : decode cJ5_append_3fe6f 67 = .ok (.iadd, 1) := by decide +kernel
theorem dJ5_append_3fe6f_68 : decode cJ5_append_3fe6f 68 = .ok (.putfield 79, 3) := by decide +kernel
theorem dJ5_append_3fe6f_71 : decode cJ5_append_3fe6f 71 = .ok (.iload_n 1, 1) := by decide +kernel
theorem dJ5_append_3fe6f_72 : decode cJ5_append_3fe6f 72 = .ok (.invokestatic 197, 3) := by decide +kernel
theorem dJ5_append_3fe6f_75 : decode cJ5_append_3fe6f 75 = .ok (.aload_n 0, 1) := by decide +kernel
theorem dJ5_append_3fe6f_76 : decode cJ5_append_3fe6f 76 = .ok (.areturn, 1) := by decide +kernel
theorem dJ5_append_c97b9_0 : decode cJ5_append_c97b9 0 = .ok (.aload_n 0, 1) := by decide +kernel
theorem dJ5_append_c97b9_1 : decode cJ5_append_c97b9 1 = .ok (.getfield 79, 3) := by decide +kernel
theorem dJ5_append_c97b9_4 : decode cJ5_append_c97b9 4 = .ok (.istore_n 2, 1) := by decide +kernel
theorem dJ5_append_c97b9_5 : decode cJ5_append_c97b9 5 = .ok (.iload_n 2, 1) := by decide +kernel
theorem dJ5_append_c97b9_6 : decode cJ5_append_c97b9 6 = .ok (.iload_n 1, 1) := by decide +kernel
theorem dJ5_append_c97b9_7 : decode cJ5_append_c97b9 7 = .ok (.invokestatic 245, 3) := by decide +kernel
theorem dJ5_append_c97b9_10 : decode cJ5_append_c97b9 10 = .ok (.iadd, 1) := by decide +kernel
theorem dJ5_append_c97b9_11 : decode cJ5_append_c97b9 11 = .ok (.istore_n 3, 1) := by decide +kernel
theorem dJ5_append_c97b9_12 : decode cJ5_append_c97b9 12 = .ok (.aload_n 0, 1) := by decide +kernel
theorem dJ5_append_c97b9_13 : decode cJ5_append_c97b9 13 = .ok (.iload_n 3, 1) := by decide +kernel
theorem dJ5_append_c97b9_14 : decode cJ5_append_c97b9 14 = .ok (.invokevirtual 100, 3) := by decide +kernel
theorem dJ5_append_c97b9_17 : decode cJ5_append_c97b9 17 = .ok (.aload_n 0, 1) := by decide +kernel
theorem dJ5_append_c97b9_18 : decode cJ5_append_c97b9 18 = .ok (.invokevirtual 83, 3) := by decide +kernel
theorem dJ5_append_c97b9_21 : decode cJ5_append_c97b9 21 = .ok (.ifCond .eq 16, 3) := by decide +kernel
theorem dJ5_append_c97b9_24 : decode cJ5_append_c97b9 24 = .ok (.iload_n 1, 1) := by decide +kernel
theorem dJ5_append_c97b9_25 : decode cJ5_append_c97b9 25 = .ok (.iload_n 3, 1) := by decide +kernel
theorem dJ5_append_c97b9_26 : decode cJ5_append_c97b9 26 = .ok (.aload_n 0, 1) := by decide +kernel
theorem dJ5_append_c97b9_27 : decode cJ5_append_c97b9 27 = .ok (.getfield 15, 3) := by decide +kernel
theorem dJ5_append_c97b9_30 : decode cJ5_append_c97b9 30 = .ok (.invokestatic 248, 3) := by decide +kernel
theorem dJ5_append_c97b9_33 : decode cJ5_append_c97b9 33 = .ok (.pop, 1) := by decide +kernel
theorem dJ5_append_c97b9_34 : decode cJ5_append_c97b9 34 = .ok (.goto 14, 3) := by decide +kernel
theorem dJ5_append_c97b9_37 : decode cJ5_append_c97b9 37 = .ok (.iload_n 1, 1) := by decide +kernel
theorem dJ5_append_c97b9_38 : decode cJ5_append_c97b9 38 = .ok (.iload_n 2, 1) := by decide +kernel
theorem dJ5_append_c97b9_39 : decode cJ5_append_c97b9 39 = .ok (.iload_n 3, 1) := by decide +kernel
theorem dJ5_append_c97b9_40 : decode cJ5_append_c97b9 40 = .ok (.aload_n 0, 1) := by decide +kernel
theorem dJ5_append_c97b9_41 : decode cJ5_append_c97b9 41 = .ok (.getfield 15, 3) := by decide +kernel
theorem dJ5_append_c97b9_44 : decode cJ5_append_c97b9 44 = .ok (.invokestatic 251, 3) := by decide +kernel
theorem dJ5_append_c97b9_47 : decode cJ5_append_c97b9 47 = .ok (.pop, 1) := by decide +kernel
theorem dJ5_append_c97b9_48 : decode cJ5_append_c97b9 48 = .ok (.aload_n 0, 1) := by decide +kernel
theorem dJ5_append_c97b9_49 : decode cJ5_append_c97b9 49 = .ok (.iload_n 3, 1) := by decide +kernel
theorem dJ5_append_c97b9_50 : decode cJ5_append_c97b9 50 = .ok (.putfield 79, 3) := by decide +kernel
theorem dJ5_append_c97b9_53 : decode cJ5_append_c97b9 53 = .ok (.aload_n 0, 1) := by decide +kernel
theorem dJ5_append_c97b9_54 : decode cJ5_append_c97b9 54 = .ok (.areturn, 1) := by decide +kernel
theorem dJ5_getValue_6d5f1_0 : decode cJ5_getValue_6d5f1 0 = .ok (.aload_n 0, 1) := by decide +kernel
theorem dJ5_getValue_6d5f1_1 : decode cJ5_getValue_6d5f1 1 = .ok (.getfield 15, 3) := by decide +kernel
theorem dJ5_getValue_6d5f1_4 : decode cJ5_getValue_6d5f1 4 = .ok (.areturn, 1) := by decide +kernel
theorem dJ5_isLatin1_aae02_0 : decode cJ5_isLatin1_aae02 0 = .ok (.getstatic 18, 3) := by decide +kernel
theorem dJ5_isLatin1_aae02_3 : decode cJ5_isLatin1_aae02 3 = .ok (.ifCond .eq 14, 3) := by decide +kernel
theorem dJ5_isLatin1_aae02_6 : decode cJ5_isLatin1_aae02 6 = .ok (.aload_n 0, 1) := by decide +kernel
theorem dJ5_isLatin1_aae02_7 : decode cJ5_isLatin1_aae02 7 = .ok (.getfield 22, 3) := by decide +kernel
theorem dJ5_isLatin1_aae02_10 : decode cJ5_isLatin1_aae02 10 = .ok (.ifCond .ne 7, 3) := by decide +kernel
theorem dJ5_isLatin1_aae02_13 : decode cJ5_isLatin1_aae02 13 = .ok (.iconst 1, 1) := by decide +kernel
theorem dJ5_isLatin1_aae02_14 : decode cJ5_isLatin1_aae02 14 = .ok (.goto 4, 3) := by decide +kernel
theorem dJ5_isLatin1_aae02_17 : decode cJ5_isLatin1_aae02 17 = .ok (.iconst 0, 1) := by decide +kernel
theorem dJ5_isLatin1_aae02_18 : decode cJ5_isLatin1_aae02 18 = .ok (.ireturn, 1) := by decide +kernel
theorem dJ5_inflateIfNeededFor_a7421_0 : decode cJ5_inflateIfNeededFor_a7421 0 = .ok (.getstatic 18, 3) := by decide +kernel
theorem dJ5_inflateIfNeededFor_a7421_3 : decode cJ5_inflateIfNeededFor_a7421 3 = .ok (.ifCond .eq 18, 3) := by decide +kernel
theorem dJ5_inflateIfNeededFor_a7421_6 : decode cJ5_inflateIfNeededFor_a7421 6 = .ok (.aload_n 0, 1) := by decide +kernel
theorem dJ5_inflateIfNeededFor_a7421_7 : decode cJ5_inflateIfNeededFor_a7421 7 = .ok (.getfield 22, 3) := by decide +kernel
theorem dJ5_inflateIfNeededFor_a7421_10 : decode cJ5_inflateIfNeededFor_a7421 10 = .ok (.aload_n 1, 1) := by decide +kernel
theorem dJ5_inflateIfNeededFor_a7421_11 : decode cJ5_inflateIfNeededFor_a7421 11 = .ok (.invokevirtual 40, 3) := by decide +kernel
theorem dJ5_inflateIfNeededFor_a7421_14 : decode cJ5_inflateIfNeededFor_a7421 14 = .ok (.if_icmp .eq 7, 3) := by decide +kernel
theorem dJ5_inflateIfNeededFor_a7421_17 : decode cJ5_inflateIfNeededFor_a7421 17 = .ok (.aload_n 0, 1) := by decide +kernel
theorem dJ5_inflateIfNeededFor_a7421_18 : decode cJ5_inflateIfNeededFor_a7421 18 = .ok (.invokevirtual 195, 3) := by decide +kernel
theorem dJ5_inflateIfNeededFor_a7421_21 : decode cJ5_inflateIfNeededFor_a7421 21 = .ok (.return_, 1) := by decide +kernel
theorem dJ5_putStringAt_47b60_0 : decode cJ5_putStringAt_47b60 0 = .ok (.aload_n 0, 1) := by decide +kernel
theorem dJ5_putStringAt_47b60_1 : decode cJ5_putStringAt_47b60 1 = .ok (.aload_n 2, 1) := by decide +kernel
theorem dJ5_putStringAt_47b60_2 : decode cJ5_putStringAt_47b60 2 = .ok (.invokevirtual 397, 3) := by decide +kernel
theorem dJ5_putStringAt_47b60_5 : decode cJ5_putStringAt_47b60 5 = .ok (.aload_n 2, 1) := by decide +kernel
theorem dJ5_putStringAt_47b60_6 : decode cJ5_putStringAt_47b60 6 = .ok (.aload_n 0, 1) := by decide +kernel
theorem dJ5_putStringAt_47b60_7 : decode cJ5_putStringAt_47b60 7 = .ok (.getfield 15, 3) := by decide +kernel
theorem dJ5_putStringAt_47b60_10 : decode cJ5_putStringAt_47b60 10 = .ok (.iload_n 1, 1) := by decide +kernel
theorem dJ5_putStringAt_47b60_11 : decode cJ5_putStringAt_47b60 11 = .ok (.aload_n 0, 1) := by decide +kernel
theorem dJ5_putStringAt_47b60_12 : decode cJ5_putStringAt_47b60 12 = .ok (.getfield 22, 3) := by decide +kernel
theorem dJ5_putStringAt_47b60_15 : decode cJ5_putStringAt_47b60 15 = .ok (.invokevirtual 399, 3) := by decide +kernel
theorem dJ5_putStringAt_47b60_18 : decode cJ5_putStringAt_47b60 18 = .ok (.return_, 1) := by decide +kernel
theorem dJ6_getChars_ba4f3_0 : decode cJ6_getChars_ba4f3 0 = .ok (.iload_n 1, 1) := by decide +kernel
theorem dJ6_getChars_ba4f3_1 : decode cJ6_getChars_ba4f3 1 = .ok (.istore 5, 2) := by decide +kernel
theorem dJ6_getChars_ba4f3_3 : decode cJ6_getChars_ba4f3 3 = .ok (.iload_n 0, 1) := by decide +kernel
theorem dJ6_getChars_ba4f3_4 : decode cJ6_getChars_ba4f3 4 = .ok (.ifCond .ge 7, 3) := by decide +kernel
theorem dJ6_getChars_ba4f3_7 : decode cJ6_getChars_ba4f3 7 = .ok (.iconst 1, 1) := by decide +kernel
theorem dJ6_getChars_ba4f3_8 : decode cJ6_getChars_ba4f3 8 = .ok (.goto 4, 3) := by decide +kernel
theorem dJ6_getChars_ba4f3_11 : decode cJ6_getChars_ba4f3 11 = .ok (.iconst 0, 1) := by decide +kernel
theorem dJ6_getChars_ba4f3_12 : decode cJ6_getChars_ba4f3 12 = .ok (.istore 6, 2) := by decide +kernel
theorem dJ6_getChars_ba4f3_14 : decode cJ6_getChars_ba4f3 14 = .ok (.iload 6, 2) := by decide +kernel
theorem dJ6_getChars_ba4f3_16 : decode cJ6_getChars_ba4f3 16 = .ok (.ifCond .ne 6, 3) := by decide +kernel
theorem dJ6_getChars_ba4f3_19 : decode cJ6_getChars_ba4f3 19 = .ok (.iload_n 0, 1) := by decide +kernel
theorem dJ6_getChars_ba4f3_20 : decode cJ6_getChars_ba4f3 20 = .ok (.ineg, 1) := by decide +kernel
theorem dJ6_getChars_ba4f3_21 : decode cJ6_getChars_ba4f3 21 = .ok (.istore_n 0, 1) := by decide +kernel
theorem dJ6_getChars_ba4f3_22 : decode cJ6_getChars_ba4f3 22 = .ok (.iload_n 0, 1) := by decide +kernel
theorem dJ6_getChars_ba4f3_23 : decode cJ6_getChars_ba4f3 23 = .ok (.bipush (-100), 2) := by decide +kernel
theorem dJ6_getChars_ba4f3_25 : decode cJ6_getChars_ba4f3 25 = .ok (.if_icmp .gt 47, 3) := by decide +kernel
theorem dJ6_getChars_ba4f3_28 : decode cJ6_getChars_ba4f3 28 = .ok (.iload_n 0, 1) := by decide +kernel
theorem dJ6_getChars_ba4f3_29 : decode cJ6_getChars_ba4f3 29 = .ok (.bipush 100, 2) := by decide +kernel
theorem dJ6_getChars_ba4f3_31 : decode cJ6_getChars_ba4f3 31 = .ok (.idiv, 1) := by decide +kernel
theorem dJ6_getChars_ba4f3_32 : decode cJ6_getChars_ba4f3 32 = .ok (.istore_n 3, 1) := by decide +kernel
theorem dJ6_getChars_ba4f3_33 : decode cJ6_getChars_ba4f3 33 = .ok (.iload_n 3, 1) := by decide +kernel
theorem dJ6_getChars_ba4f3_34 : decode cJ6_getChars_ba4f3 34 = .ok (.bipush 100, 2) := by decide +kernel
theorem dJ6_getChars_ba4f3_36 : decode cJ6_getChars_ba4f3 36 = .ok (.imul, 1) := by decide +kernel
theorem dJ6_getChars_ba4f3_37 : decode cJ6_getChars_ba4f3 37 = .ok (.iload_n 0, 1) := by decide +kernel
theorem dJ6_getChars_ba4f3_38 : decode cJ6_getChars_ba4f3 38 = .ok (.isub, 1) := by decide +kernel
theorem dJ6_getChars_ba4f3_39 : decode cJ6_getChars_ba4f3 39 = .ok (.istore 4, 2) := by decide +kernel
theorem dJ6_getChars_ba4f3_41 : decode cJ6_getChars_ba4f3 41 = .ok (.iload_n 3, 1) := by decide +kernel
theorem dJ6_getChars_ba4f3_42 : decode cJ6_getChars_ba4f3 42 = .ok (.istore_n 0, 1) := by decide +kernel
theorem dJ6_getChars_ba4f3_43 : decode cJ6_getChars_ba4f3 43 = .ok (.aload_n 2, 1) := by decide +kernel
theorem dJ6_getChars_ba4f3_44 : decode cJ6_getChars_ba4f3 44 = .ok (.iinc 5 (-1), 3) := by decide +kernel
theorem dJ6_getChars_ba4f3_47 : decode cJ6_getChars_ba4f3 47 = .ok (.iload 5, 2) := by decide +kernel
theorem dJ6_getChars_ba4f3_49 : decode cJ6_getChars_ba4f3 49 = .ok (.getstatic 83, 3) := by decide +kernel
theorem dJ6_getChars_ba4f3_52 : decode cJ6_getChars_ba4f3 52 = .ok (.iload 4, 2) := by decide +kernel
theorem dJ6_getChars_ba4f3_54 : decode cJ6_getChars_ba4f3 54 = .ok (.baload, 1) := by decide +kernel
theorem dJ6_getChars_ba4f3_55 : decode cJ6_getChars_ba4f3 55 = .ok (.bastore, 1) := by decide +kernel
theorem dJ6_getChars_ba4f3_56 : decode cJ6_getChars_ba4f3 56 = .ok (.aload_n 2, 1) := by decide +kernel
theorem dJ6_getChars_ba4f3_57 : decode cJ6_getChars_ba4f3 57 = .ok (.iinc 5 (-1), 3) := by decide +kernel
theorem dJ6_getChars_ba4f3_60 : decode cJ6_getChars_ba4f3 60 = .ok (.iload 5, 2) := by decide +kernel
theorem dJ6_getChars_ba4f3_62 : decode cJ6_getChars_ba4f3 62 = .ok (.getstatic 87, 3) := by decide +kernel
theorem dJ6_getChars_ba4f3_65 : decode cJ6_getChars_ba4f3 65 = .ok (.iload 4, 2) := by decide +kernel
theorem dJ6_getChars_ba4f3_67 : decode cJ6_getChars_ba4f3 67 = .ok (.baload, 1) := by decide +kernel
theorem dJ6_getChars_ba4f3_68 : decode cJ6_getChars_ba4f3 68 = .ok (.bastore, 1) := by decide +kernel
theorem dJ6_getChars_ba4f3_69 : decode cJ6_getChars_ba4f3 69 = .ok (.goto (-47), 3) := by decide +kernel
theorem dJ6_getChars_ba4f3_72 : decode cJ6_getChars_ba4f3 72 = .ok (.aload_n 2, 1) := by decide +kernel
theorem dJ6_getChars_ba4f3_73 : decode cJ6_getChars_ba4f3 73 = .ok (.iinc 5 (-1), 3) := by decide +kernel
theorem dJ6_getChars_ba4f3_76 : decode cJ6_getChars_ba4f3 76 = .ok (.iload 5, 2) := by decide +kernel
theorem dJ6_getChars_ba4f3_78 : decode cJ6_getChars_ba4f3 78 = .ok (.getstatic 83, 3) := by decide +kernel
theorem dJ6_getChars_ba4f3_81 : decode cJ6_getChars_ba4f3 81 = .ok (.iload_n 0, 1) := by decide +kernel
theorem dJ6_getChars_ba4f3_82 : decode cJ6_getChars_ba4f3 82 = .ok (.ineg, 1) := by decide +kernel
theorem dJ6_getChars_ba4f3_83 : decode cJ6_getChars_ba4f3 83 = .ok (.baload, 1) := by decide +kernel
theorem dJ6_getChars_ba4f3_84 : decode cJ6_getChars_ba4f3 84 = .ok (.bastore, 1) := by decide +kernel
theorem dJ6_getChars_ba4f3_85 : decode cJ6_getChars_ba4f3 85 = .ok (.iload_n 0, 1) := by decide +kernel
theorem dJ6_getChars_ba4f3_86 : decode cJ6_getChars_ba4f3 86 = .ok (.bipush (-9), 2) := by decide +kernel
theorem dJ6_getChars_ba4f3_88 : decode cJ6_getChars_ba4f3 88 = .ok (.if_icmp .ge 16, 3) := by decide +kernel
theorem dJ6_getChars_ba4f3_91 : decode cJ6_getChars_ba4f3 91 = .ok (.aload_n 2, 1) := by decide +kernel
theorem dJ6_getChars_ba4f3_92 : decode cJ6_getChars_ba4f3 92 = .ok (.iinc 5 (-1), 3) := by decide +kernel
theorem dJ6_getChars_ba4f3_95 : decode cJ6_getChars_ba4f3 95 = .ok (.iload 5, 2) := by decide +kernel
theorem dJ6_getChars_ba4f3_97 : decode cJ6_getChars_ba4f3 97 = .ok (.getstatic 87, 3) := by decide +kernel
theorem dJ6_getChars_ba4f3_100 : decode cJ6_getChars_ba4f3 100 = .ok (.iload_n 0, 1) := by decide +kernel
theorem dJ6_getChars_ba4f3_101 : decode cJ6_getChars_ba4f3 101 = .ok (.ineg, 1) := by decide +kernel
theorem dJ6_getChars_ba4f3_102 : decode cJ6_getChars_ba4f3 102 = .ok (.baload, 1) := by decide +kernel
theorem dJ6_getChars_ba4f3_103 : decode cJ6_getChars_ba4f3 103 = .ok (.bastore, 1) := by decide +kernel
theorem dJ6_getChars_ba4f3_104 : decode cJ6_getChars_ba4f3 104 = .ok (.iload 6, 2) := by decide +kernel
theorem dJ6_getChars_ba4f3_106 : decode cJ6_getChars_ba4f3 106 = .ok (.ifCond .eq 12, 3) := by decide +kernel
theorem dJ6_getChars_ba4f3_109 : decode cJ6_getChars_ba4f3 109 = .ok (.aload_n 2, 1) := by decide +kernel
theorem dJ6_getChars_ba4f3_110 : decode cJ6_getChars_ba4f3 110 = .ok (.iinc 5 (-1), 3) := by decide +kernel
theorem dJ6_getChars_ba4f3_113 : decode cJ6_getChars_ba4f3 113 = .ok (.iload 5, 2) := by decide +kernel
theorem dJ6_getChars_ba4f3_115 : decode cJ6_getChars_ba4f3 115 = .ok (.bipush 45, 2) := by decide +kernel
theorem dJ6_getChars_ba4f3_117 : decode cJ6_getChars_ba4f3 117 = .ok (.bastore, 1) := by decide +kernel
theorem dJ6_getChars_ba4f3_118 : decode cJ6_getChars_ba4f3 118 = .ok (.iload 5, 2) := by decide +kernel
theorem dJ6_getChars_ba4f3_120 : decode cJ6_getChars_ba4f3 120 = .ok (.ireturn, 1) := by decide +kernel
theorem dJ6_stringSize_0f7a4_0 : decode cJ6_stringSize_0f7a4 0 = .ok (.iconst 1, 1) := by decide +kernel
theorem dJ6_stringSize_0f7a4_1 : decode cJ6_stringSize_0f7a4 1 = .ok (.istore_n 1, 1) := by decide +kernel
theorem dJ6_stringSize_0f7a4_2 : decode cJ6_stringSize_0f7a4 2 = .ok (.iload_n 0, 1) := by decide +kernel
theorem dJ6_stringSize_0f7a4_3 : decode cJ6_stringSize_0f7a4 3 = .ok (.ifCond .lt 8, 3) := by decide +kernel
theorem dJ6_stringSize_0f7a4_6 : decode cJ6_stringSize_0f7a4 6 = .ok (.iconst 0, 1) := by decide +kernel
theorem dJ6_stringSize_0f7a4_7 : decode cJ6_stringSize_0f7a4 7 = .ok (.istore_n 1, 1) := by decide +kernel
theorem dJ6_stringSize_0f7a4_8 : decode cJ6_stringSize_0f7a4 8 = .ok (.iload_n 0, 1) := by decide +kernel
theorem dJ6_stringSize_0f7a4_9 : decode cJ6_stringSize_0f7a4 9 = .ok (.ineg, 1) := by decide +kernel
theorem dJ6_stringSize_0f7a4_10 : decode cJ6_stringSize_0f7a4 10 = .ok (.istore_n 0, 1) := by decide +kernel
theorem dJ6_stringSize_0f7a4_11 : decode cJ6_stringSize_0f7a4 11 = .ok (.bipush (-10), 2) := by decide +kernel
theorem dJ6_stringSize_0f7a4_13 : decode cJ6_stringSize_0f7a4 13 = .ok (.istore_n 2, 1) := by decide +kernel
theorem dJ6_stringSize_0f7a4_14 : decode cJ6_stringSize_0f7a4 14 = .ok (.iconst 1, 1) := by decide +kernel
theorem dJ6_stringSize_0f7a4_15 : decode cJ6_stringSize_0f7a4 15 = .ok (.istore_n 3, 1) := by decide +kernel
theorem dJ6_stringSize_0f7a4_16 : decode cJ6_stringSize_0f7a4 16 = .ok (.iload_n 3, 1) := by decide +kernel
theorem dJ6_stringSize_0f7a4_17 : decode cJ6_stringSize_0f7a4 17 = .ok (.bipush 10, 2) := by decide +kernel
theorem dJ6_stringSize_0f7a4_19 : decode cJ6_stringSize_0f7a4 19 = .ok (.if_icmp .ge 23, 3) := by decide +kernel
theorem dJ6_stringSize_0f7a4_22 : decode cJ6_stringSize_0f7a4 22 = .ok (.iload_n 0, 1) := by decide +kernel
theorem dJ6_stringSize_0f7a4_23 : decode cJ6_stringSize_0f7a4 23 = .ok (.iload_n 2, 1) := by decide +kernel
theorem dJ6_stringSize_0f7a4_24 : decode cJ6_stringSize_0f7a4 24 = .ok (.if_icmp .le 7, 3) := by decide +kernel
theorem dJ6_stringSize_0f7a4_27 : decode cJ6_stringSize_0f7a4 27 = .ok (.iload_n 3, 1) := by decide +kernel
theorem dJ6_stringSize_0f7a4_28 : decode cJ6_stringSize_0f7a4 28 = .ok (.iload_n 1, 1) := by decide +kernel
theorem dJ6_stringSize_0f7a4_29 : decode cJ6_stringSize_0f7a4 29 = .ok (.iadd, 1) := by decide +kernel
theorem dJ6_stringSize_0f7a4_30 : decode cJ6_stringSize_0f7a4 30 = .ok (.ireturn, 1) := by decide +kernel
theorem dJ6_stringSize_0f7a4_31 : decode cJ6_stringSize_0f7a4 31 = .ok (.bipush 10, 2) := by decide +kernel
theorem dJ6_stringSize_0f7a4_33 : decode cJ6_stringSize_0f7a4 33 = .ok (.iload_n 2, 1) := by decide +kernel
theorem dJ6_stringSize_0f7a4_34 : decode cJ6_stringSize_0f7a4 34 = .ok (.imul, 1) := by decide +kernel
theorem dJ6_stringSize_0f7a4_35 : decode cJ6_stringSize_0f7a4 35 = .ok (.istore_n 2, 1) := by decide +kernel
theorem dJ6_stringSize_0f7a4_36 : decode cJ6_stringSize_0f7a4 36 = .ok (.iinc 3 1, 3) := by decide +kernel
theorem dJ6_stringSize_0f7a4_39 : decode cJ6_stringSize_0f7a4 39 = .ok (.goto (-23), 3) := by decide +kernel
theorem dJ6_stringSize_0f7a4_42 : decode cJ6_stringSize_0f7a4 42 = .ok (.bipush 10, 2) := by decide +kernel
theorem dJ6_stringSize_0f7a4_44 : decode cJ6_stringSize_0f7a4 44 = .ok (.iload_n 1, 1) := by decide +kernel
theorem dJ6_stringSize_0f7a4_45 : decode cJ6_stringSize_0f7a4 45 = .ok (.iadd, 1) := by decide +kernel
theorem dJ6_stringSize_0f7a4_46 : decode cJ6_stringSize_0f7a4 46 = .ok (.ireturn, 1) := by decide +kernel
theorem dJ6_bitCount_0f7a4_0 : decode cJ6_bitCount_0f7a4 0 = .ok (.iload_n 0, 1) := by decide +kernel
theorem dJ6_bitCount_0f7a4_1 : decode cJ6_bitCount_0f7a4 1 = .ok (.iload_n 0, 1) := by decide +kernel
theorem dJ6_bitCount_0f7a4_2 : decode cJ6_bitCount_0f7a4 2 = .ok (.iconst 1, 1) := by decide +kernel
theorem dJ6_bitCount_0f7a4_3 : decode cJ6_bitCount_0f7a4 3 = .ok (.iushr, 1) := by decide +kernel
theorem dJ6_bitCount_0f7a4_4 : decode cJ6_bitCount_0f7a4 4 = .ok (.ldc_w 265, 3) := by decide +kernel
theorem dJ6_bitCount_0f7a4_7 : decode cJ6_bitCount_0f7a4 7 = .ok (.iand, 1) := by decide +kernel
theorem dJ6_bitCount_0f7a4_8 : decode cJ6_bitCount_0f7a4 8 = .ok (.isub, 1) := by decide +kernel
theorem dJ6_bitCount_0f7a4_9 : decode cJ6_bitCount_0f7a4 9 = .ok (.istore_n 0, 1) := by decide +kernel
theorem dJ6_bitCount_0f7a4_10 : decode cJ6_bitCount_0f7a4 10 = .ok (.iload_n 0, 1) := by decide +kernel
theorem dJ6_bitCount_0f7a4_11 : decode cJ6_bitCount_0f7a4 11 = .ok (.ldc_w 266, 3) := by decide +kernel
theorem dJ6_bitCount_0f7a4_14 : decode cJ6_bitCount_0f7a4 14 = .ok (.iand, 1) := by decide +kernel
theorem dJ6_bitCount_0f7a4_15 : decode cJ6_bitCount_0f7a4 15 = .ok (.iload_n 0, 1) := by decide +kernel
theorem dJ6_bitCount_0f7a4_16 : decode cJ6_bitCount_0f7a4 16 = .ok (.iconst 2, 1) := by decide +kernel
theorem dJ6_bitCount_0f7a4_17 : decode cJ6_bitCount_0f7a4 17 = .ok (.iushr, 1) := by decide +kernel
theorem dJ6_bitCount_0f7a4_18 : decode cJ6_bitCount_0f7a4 18 = .ok (.ldc_w 266, 3) := by decide +kernel
theorem dJ6_bitCount_0f7a4_21 : decode cJ6_bitCount_0f7a4 21 = .ok (.iand, 1) := by decide +kernel
theorem dJ6_bitCount_0f7a4_22 : decode cJ6_bitCount_0f7a4 22 = .ok (.iadd, 1) := by decide +kernel
theorem dJ6_bitCount_0f7a4_23 : decode cJ6_bitCount_0f7a4 23 = .ok (.istore_n 0, 1) := by decide +kernel
theorem dJ6_bitCount_0f7a4_24 : decode cJ6_bitCount_0f7a4 24 = .ok (.iload_n 0, 1) := by decide +kernel
theorem dJ6_bitCount_0f7a4_25 : decode cJ6_bitCount_0f7a4 25 = .ok (.iload_n 0, 1) := by decide +kernel
theorem dJ6_bitCount_0f7a4_26 : decode cJ6_bitCount_0f7a4 26 = .ok (.iconst 4, 1) := by decide +kernel
theorem dJ6_bitCount_0f7a4_27 : decode cJ6_bitCount_0f7a4 27 = .ok (.iushr, 1) := by decide +kernel
theorem dJ6_bitCount_0f7a4_28 : decode cJ6_bitCount_0f7a4 28 = .ok (.iadd, 1) := by decide +kernel
theorem dJ6_bitCount_0f7a4_29 : decode cJ6_bitCount_0f7a4 29 = .ok (.ldc_w 267, 3) := by decide +kernel
theorem dJ6_bitCount_0f7a4_32 : decode cJ6_bitCount_0f7a4 32 = .ok (.iand, 1) := by decide +kernel
theorem dJ6_bitCount_0f7a4_33 : decode cJ6_bitCount_0f7a4 33 = .ok (.istore_n 0, 1) := by decide +kernel
theorem dJ6_bitCount_0f7a4_34 : decode cJ6_bitCount_0f7a4 34 = .ok (.iload_n 0, 1) := by decide +kernel
theorem dJ6_bitCount_0f7a4_35 : decode cJ6_bitCount_0f7a4 35 = .ok (.iload_n 0, 1) := by decide +kernel
theorem dJ6_bitCount_0f7a4_36 : decode cJ6_bitCount_0f7a4 36 = .ok (.bipush 8, 2) := by decide +kernel
theorem dJ6_bitCount_0f7a4_38 : decode cJ6_bitCount_0f7a4 38 = .ok (.iushr, 1) := by decide +kernel
theorem dJ6_bitCount_0f7a4_39 : decode cJ6_bitCount_0f7a4 39 = .ok (.iadd, 1) := by decide +kernel
theorem dJ6_bitCount_0f7a4_40 : decode cJ6_bitCount_0f7a4 40 = .ok (.istore_n 0, 1) := by decide +kernel
theorem dJ6_bitCount_0f7a4_41 : decode cJ6_bitCount_0f7a4 41 = .ok (.iload_n 0, 1) := by decide +kernel
theorem dJ6_bitCount_0f7a4_42 : decode cJ6_bitCount_0f7a4 42 = .ok (.iload_n 0, 1) := by decide +kernel
theorem dJ6_bitCount_0f7a4_43 : decode cJ6_bitCount_0f7a4 43 = .ok (.bipush 16, 2) := by decide +kernel
theorem dJ6_bitCount_0f7a4_45 : decode cJ6_bitCount_0f7a4 45 = .ok (.iushr, 1) := by decide +kernel
theorem dJ6_bitCount_0f7a4_46 : decode cJ6_bitCount_0f7a4 46 = .ok (.iadd, 1) := by decide +kernel
theorem dJ6_bitCount_0f7a4_47 : decode cJ6_bitCount_0f7a4 47 = .ok (.istore_n 0, 1) := by decide +kernel
theorem dJ6_bitCount_0f7a4_48 : decode cJ6_bitCount_0f7a4 48 = .ok (.iload_n 0, 1) := by decide +kernel
theorem dJ6_bitCount_0f7a4_49 : decode cJ6_bitCount_0f7a4 49 = .ok (.bipush 63, 2) := by decide +kernel
theorem dJ6_bitCount_0f7a4_51 : decode cJ6_bitCount_0f7a4 51 = .ok (.iand, 1) := by decide +kernel
theorem dJ6_bitCount_0f7a4_52 : decode cJ6_bitCount_0f7a4 52 = .ok (.ireturn, 1) := by decide +kernel
theorem dJ9_floorMod_7cf53_0 : decode cJ9_floorMod_7cf53 0 = .ok (.iload_n 0, 1) := by decide +kernel
theorem dJ9_floorMod_7cf53_1 : decode cJ9_floorMod_7cf53 1 = .ok (.iload_n 1, 1) := by decide +kernel
theorem dJ9_floorMod_7cf53_2 : decode cJ9_floorMod_7cf53 2 = .ok (.irem, 1) := by decide +kernel
theorem dJ9_floorMod_7cf53_3 : decode cJ9_floorMod_7cf53 3 = .ok (.istore_n 2, 1) := by decide +kernel
theorem dJ9_floorMod_7cf53_4 : decode cJ9_floorMod_7cf53 4 = .ok (.iload_n 0, 1) := by decide +kernel
theorem dJ9_floorMod_7cf53_5 : decode cJ9_floorMod_7cf53 5 = .ok (.iload_n 1, 1) := by decide +kernel
theorem dJ9_floorMod_7cf53_6 : decode cJ9_floorMod_7cf53 6 = .ok (.ixor, 1) := by decide +kernel
theorem dJ9_floorMod_7cf53_7 : decode cJ9_floorMod_7cf53 7 = .ok (.ifCond .ge 11, 3) := by decide +kernel
theorem dJ9_floorMod_7cf53_10 : decode cJ9_floorMod_7cf53 10 = .ok (.iload_n 2, 1) := by decide +kernel
theorem dJ9_floorMod_7cf53_11 : decode cJ9_floorMod_7cf53 11 = .ok (.ifCond .eq 7, 3) := by decide +kernel
theorem dJ9_floorMod_7cf53_14 : decode cJ9_floorMod_7cf53 14 = .ok (.iload_n 2, 1) := by decide +kernel
theorem dJ9_floorMod_7cf53_15 : decode cJ9_floorMod_7cf53 15 = .ok (.iload_n 1, 1) := by decide +kernel
theorem dJ9_floorMod_7cf53_16 : decode cJ9_floorMod_7cf53 16 = .ok (.iadd, 1) := by decide +kernel
theorem dJ9_floorMod_7cf53_17 : decode cJ9_floorMod_7cf53 17 = .ok (.ireturn, 1) := by decide +kernel
theorem dJ9_floorMod_7cf53_18 : decode cJ9_floorMod_7cf53 18 = .ok (.iload_n 2, 1) := by decide +kernel
theorem dJ9_floorMod_7cf53_19 : decode cJ9_floorMod_7cf53 19 = .ok (.ireturn, 1) := by decide +kernel
theorem dJ9_abs_0f7a4_0 : decode cJ9_abs_0f7a4 0 = .ok (.iload_n 0, 1) := by decide +kernel
theorem dJ9_abs_0f7a4_1 : decode cJ9_abs_0f7a4 1 = .ok (.ifCond .ge 8, 3) := by decide +kernel
theorem dJ9_abs_0f7a4_4 : decode cJ9_abs_0f7a4 4 = .ok (.iload_n 0, 1) := by decide +kernel
theorem dJ9_abs_0f7a4_5 : decode cJ9_abs_0f7a4 5 = .ok (.ineg, 1) := by decide +kernel
theorem dJ9_abs_0f7a4_6 : decode cJ9_abs_0f7a4 6 = .ok (.goto 4, 3) := by decide +kernel
theorem dJ9_abs_0f7a4_9 : decode cJ9_abs_0f7a4 9 = .ok (.iload_n 0, 1) := by decide +kernel
theorem dJ9_abs_0f7a4_10 : decode cJ9_abs_0f7a4 10 = .ok (.ireturn, 1) := by decide +kernel
theorem dJ9_max_7cf53_0 : decode cJ9_max_7cf53 0 = .ok (.iload_n 0, 1) := by decide +kernel
theorem dJ9_max_7cf53_1 : decode cJ9_max_7cf53 1 = .ok (.iload_n 1, 1) := by decide +kernel
theorem dJ9_max_7cf53_2 : decode cJ9_max_7cf53 2 = .ok (.if_icmp .lt 7, 3) := by decide +kernel
theorem dJ9_max_7cf53_5 : decode cJ9_max_7cf53 5 = .ok (.iload_n 0, 1) := by decide +kernel
theorem dJ9_max_7cf53_6 : decode cJ9_max_7cf53 6 = .ok (.goto 4, 3) := by decide +kernel
theorem dJ9_max_7cf53_9 : decode cJ9_max_7cf53 9 = .ok (.iload_n 1, 1) := by decide +kernel
theorem dJ9_max_7cf53_10 : decode cJ9_max_7cf53 10 = .ok (.ireturn, 1) := by decide +kernel
theorem dJ9_max_f86c9_0 : decode cJ9_max_f86c9 0 = .ok (.lload_n 0, 1) := by decide +kernel
theorem dJ9_max_f86c9_1 : decode cJ9_max_f86c9 1 = .ok (.lload_n 2, 1) := by decide +kernel
theorem dJ9_max_f86c9_2 : decode cJ9_max_f86c9 2 = .ok (.lcmp, 1) := by decide +kernel
theorem dJ9_max_f86c9_3 : decode cJ9_max_f86c9 3 = .ok (.ifCond .lt 7, 3) := by decide +kernel
theorem dJ9_max_f86c9_6 : decode cJ9_max_f86c9 6 = .ok (.lload_n 0, 1) := by decide +kernel
theorem dJ9_max_f86c9_7 : decode cJ9_max_f86c9 7 = .ok (.goto 4, 3) := by decide +kernel
theorem dJ9_max_f86c9_10 : decode cJ9_max_f86c9 10 = .ok (.lload_n 2, 1) := by decide +kernel
theorem dJ9_max_f86c9_11 : decode cJ9_max_f86c9 11 = .ok (.lreturn, 1) := by decide +kernel
theorem dJ9_min_7cf53_0 : decode cJ9_min_7cf53 0 = .ok (.iload_n 0, 1) := by decide +kernel
theorem dJ9_min_7cf53_1 : decode cJ9_min_7cf53 1 = .ok (.iload_n 1, 1) := by decide +kernel
theorem dJ9_min_7cf53_2 : decode cJ9_min_7cf53 2 = .ok (.if_icmp .gt 7, 3) := by decide +kernel
theorem dJ9_min_7cf53_5 : decode cJ9_min_7cf53 5 = .ok (.iload_n 0, 1) := by decide +kernel
theorem dJ9_min_7cf53_6 : decode cJ9_min_7cf53 6 = .ok (.goto 4, 3) := by decide +kernel
theorem dJ9_min_7cf53_9 : decode cJ9_min_7cf53 9 = .ok (.iload_n 1, 1) := by decide +kernel
theorem dJ9_min_7cf53_10 : decode cJ9_min_7cf53 10 = .ok (.ireturn, 1) := by decide +kernel
theorem dJ9_min_f86c9_0 : decode cJ9_min_f86c9 0 = .ok (.lload_n 0, 1) := by decide +kernel
theorem dJ9_min_f86c9_1 : decode cJ9_min_f86c9 1 = .ok (.lload_n 2, 1) := by decide +kernel
theorem dJ9_min_f86c9_2 : decode cJ9_min_f86c9 2 = .ok (.lcmp, 1) := by decide +kernel
theorem dJ9_min_f86c9_3 : decode cJ9_min_f86c9 3 = .ok (.ifCond .gt 7, 3) := by decide +kernel
theorem dJ9_min_f86c9_6 : decode cJ9_min_f86c9 6 = .ok (.lload_n 0, 1) := by decide +kernel
theorem dJ9_min_f86c9_7 : decode cJ9_min_f86c9 7 = .ok (.goto 4, 3) := by decide +kernel
theorem dJ9_min_f86c9_10 : decode cJ9_min_f86c9 10 = .ok (.lload_n 2, 1) := by decide +kernel
theorem dJ9_min_f86c9_11 : decode cJ9_min_f86c9 11 = .ok (.lreturn, 1) := by decide +kernel
theorem dJ0_init_81219_0 : decode cJ0_init_81219 0 = .ok (.aload_n 0, 1) := by decide +kernel
theorem dJ0_init_81219_1 : decode cJ0_init_81219 1 = .ok (.aload_n 1, 1) := by decide +kernel
theorem dJ0_init_81219_2 : decode cJ0_init_81219 2 = .ok (.aconst_null, 1) := by decide +kernel
theorem dJ0_init_81219_3 : decode cJ0_init_81219 3 = .ok (.invokespecial 489, 3) := by decide +kernel
theorem dJ0_init_81219_6 : decode cJ0_init_81219 6 = .ok (.return_, 1) := by decide +kernel
theorem dJ0_length_8abf5_0 : decode cJ0_length_8abf5 0 = .ok (.aload_n 0, 1) := by decide +kernel
theorem dJ0_length_8abf5_1 : decode cJ0_length_8abf5 1 = .ok (.getfield 9, 3) := by decide +kernel
theorem dJ0_length_8abf5_4 : decode cJ0_length_8abf5 4 = .ok (.arraylength, 1) := by decide +kernel
theorem dJ0_length_8abf5_5 : decode cJ0_length_8abf5 5 = .ok (.aload_n 0, 1) := by decide +kernel
theorem dJ0_length_8abf5_6 : decode cJ0_length_8abf5 6 = .ok (.invokevirtual 335, 3) := by decide +kernel
theorem dJ0_length_8abf5_9 : decode cJ0_length_8abf5 9 = .ok (.ishr, 1) := by decide +kernel
theorem dJ0_length_8abf5_10 : decode cJ0_length_8abf5 10 = .ok (.ireturn, 1) := by decide +kernel
theorem dJ0_charAt_5068e_0 : decode cJ0_charAt_5068e 0 = .ok (.aload_n 0, 1) := by decide +kernel
theorem dJ0_charAt_5068e_1 : decode cJ0_charAt_5068e 1 = .ok (.invokevirtual 492, 3) := by decide +kernel
theorem dJ0_charAt_5068e_4 : decode cJ0_charAt_5068e 4 = .ok (.ifCond .eq 12, 3) := by decide +kernel
theorem dJ0_charAt_5068e_7 : decode cJ0_charAt_5068e 7 = .ok (.aload_n 0, 1) := by decide +kernel
theorem dJ0_charAt_5068e_8 : decode cJ0_charAt_5068e 8 = .ok (.getfield 9, 3) := by decide +kernel
theorem dJ0_charAt_5068e_11 : decode cJ0_charAt_5068e 11 = .ok (.iload_n 1, 1) := by decide +kernel
theorem dJ0_charAt_5068e_12 : decode cJ0_charAt_5068e 12 = .ok (.invokestatic 495, 3) := by decide +kernel
theorem dJ0_charAt_5068e_15 : decode cJ0_charAt_5068e 15 = .ok (.ireturn, 1) := by decide +kernel
theorem dJ0_charAt_5068e_16 : decode cJ0_charAt_5068e 16 = .ok (.aload_n 0, 1) := by decide +kernel
theorem dJ0_charAt_5068e_17 : decode cJ0_charAt_5068e 17 = .ok (.getfield 9, 3) := by decide +kernel
theorem dJ0_charAt_5068e_20 : decode cJ0_charAt_5068e 20 = .ok (.iload_n 1, 1) := by decide +kernel
theorem dJ0_charAt_5068e_21 : decode cJ0_charAt_5068e 21 = .ok (.invokestatic 498, 3) := by decide +kernel
theorem dJ0_charAt_5068e_24 : decode cJ0_charAt_5068e 24 = .ok (.ireturn, 1) := by decide +kernel
theorem dJ0_getBytes_840e7_0 : decode cJ0_getBytes_840e7 0 = .ok (.aload_n 0, 1) := by decide +kernel
theorem dJ0_getBytes_840e7_1 : decode cJ0_getBytes_840e7 1 = .ok (.invokevirtual 335, 3) := by decide +kernel
theorem dJ0_getBytes_840e7_4 : decode cJ0_getBytes_840e7 4 = .ok (.iload_n 3, 1) := by decide +kernel
theorem dJ0_getBytes_840e7_5 : decode cJ0_getBytes_840e7 5 = .ok (.if_icmp .ne 23, 3) := by decide +kernel
theorem dJ0_getBytes_840e7_8 : decode cJ0_getBytes_840e7 8 = .ok (.aload_n 0, 1) := by decide +kernel
theorem dJ0_getBytes_840e7_9 : decode cJ0_getBytes_840e7 9 = .ok (.getfield 9, 3) := by decide +kernel
theorem dJ0_getBytes_840e7_12 : decode cJ0_getBytes_840e7 12 = .ok (.iconst 0, 1) := by decide +kernel
theorem dJ0_getBytes_840e7_13 : decode cJ0_getBytes_840e7 13 = .ok (.aload_n 1, 1) := by decide +kernel
theorem dJ0_getBytes_840e7_14 : decode cJ0_getBytes_840e7 14 = .ok (.iload_n 2, 1) := by decide +kernel
theorem dJ0_getBytes_840e7_15 : decode cJ0_getBytes_840e7 15 = .ok (.iload_n 3, 1) := by decide +kernel
theorem dJ0_getBytes_840e7_16 : decode cJ0_getBytes_840e7 16 = .ok (.ishl, 1) := by decide +kernel
theorem dJ0_getBytes_840e7_17 : decode cJ0_getBytes_840e7 17 = .ok (.aload_n 0, 1) := by decide +kernel
theorem dJ0_getBytes_840e7_18 : decode cJ0_getBytes_840e7 18 = .ok (.getfield 9, 3) := by decide +kernel
theorem dJ0_getBytes_840e7_21 : decode cJ0_getBytes_840e7 21 = .ok (.arraylength, 1) := by decide +kernel
theorem dJ0_getBytes_840e7_22 : decode cJ0_getBytes_840e7 22 = .ok (.invokestatic 212, 3) := by decide +kernel
theorem dJ0_getBytes_840e7_25 : decode cJ0_getBytes_840e7 25 = .ok (.goto 18, 3) := by decide +kernel
theorem dJ0_getBytes_840e7_28 : decode cJ0_getBytes_840e7 28 = .ok (.aload_n 0, 1) := by decide +kernel
theorem dJ0_getBytes_840e7_29 : decode cJ0_getBytes_840e7 29 = .ok (.getfield 9, 3) := by decide +kernel
theorem dJ0_getBytes_840e7_32 : decode cJ0_getBytes_840e7 32 = .ok (.iconst 0, 1) := by decide +kernel
theorem dJ0_getBytes_840e7_33 : decode cJ0_getBytes_840e7 33 = .ok (.aload_n 1, 1) := by decide +kernel
theorem dJ0_getBytes_840e7_34 : decode cJ0_getBytes_840e7 34 = .ok (.iload_n 2, 1) := by decide +kernel
theorem dJ0_getBytes_840e7_35 : decode cJ0_getBytes_840e7 35 = .ok (.aload_n 0, 1) := by decide +kernel
theorem dJ0_getBytes_840e7_36 : decode cJ0_getBytes_840e7 36 = .ok (.getfield 9, 3) := by decide +kernel
theorem dJ0_getBytes_840e7_39 : decode cJ0_getBytes_840e7 39 = .ok (.arraylength, 1) := by decide +kernel
theorem dJ0_getBytes_840e7_40 : decode cJ0_getBytes_840e7 40 = .ok (.invokestatic 106, 3) := by decide +kernel
theorem dJ0_getBytes_840e7_43 : decode cJ0_getBytes_840e7 43 = .ok (.return_, 1) := by decide +kernel
theorem dJ0_init_db425_0 : decode cJ0_init_db425 0 = .ok (.aload_n 0, 1) := by decide +kernel
theorem dJ0_init_db425_1 : decode cJ0_init_db425 1 = .ok (.invokespecial 1, 3) := by decide +kernel
theorem dJ0_init_db425_4 : decode cJ0_init_db425 4 = .ok (.aload_n 1, 1) := by decide +kernel
theorem dJ0_init_db425_5 : decode cJ0_init_db425 5 = .ok (.invokevirtual 552, 3) := by decide +kernel
theorem dJ0_init_db425_8 : decode cJ0_init_db425 8 = .ok (.astore_n 3, 1) := by decide +kernel
theorem dJ0_init_db425_9 : decode cJ0_init_db425 9 = .ok (.aload_n 1, 1) := by decide +kernel
theorem dJ0_init_db425_10 : decode cJ0_init_db425 10 = .ok (.invokevirtual 549, 3) := by decide +kernel
theorem dJ0_init_db425_13 : decode cJ0_init_db425 13 = .ok (.istore 4, 2) := by decide +kernel
theorem dJ0_init_db425_15 : decode cJ0_init_db425 15 = .ok (.aload_n 1, 1) := by decide +kernel
theorem dJ0_init_db425_16 : decode cJ0_init_db425 16 = .ok (.invokevirtual 1047, 3) := by decide +kernel
theorem dJ0_init_db425_19 : decode cJ0_init_db425 19 = .ok (.ifCond .eq 22, 3) := by decide +kernel
theorem dJ0_init_db425_22 : decode cJ0_init_db425 22 = .ok (.aload_n 0, 1) := by decide +kernel
theorem dJ0_init_db425_23 : decode cJ0_init_db425 23 = .ok (.iconst 0, 1) := by decide +kernel
theorem dJ0_init_db425_24 : decode cJ0_init_db425 24 = .ok (.putfield 15, 3) := by decide +kernel
theorem dJ0_init_db425_27 : decode cJ0_init_db425 27 = .ok (.aload_n 0, 1) := by decide +kernel
theorem dJ0_init_db425_28 : decode cJ0_init_db425 28 = .ok (.aload_n 3, 1) := by decide +kernel
theorem dJ0_init_db425_29 : decode cJ0_init_db425 29 = .ok (.iconst 0, 1) := by decide +kernel
theorem dJ0_init_db425_30 : decode cJ0_init_db425 30 = .ok (.iload 4, 2) := by decide +kernel
theorem dJ0_init_db425_32 : decode cJ0_init_db425 32 = .ok (.invokestatic 54, 3) := by decide +kernel
theorem dJ0_init_db425_35 : decode cJ0_init_db425 35 = .ok (.putfield 9, 3) := by decide +kernel
theorem dJ0_init_db425_38 : decode cJ0_init_db425 38 = .ok (.goto 59, 3) := by decide +kernel
theorem dJ0_init_db425_41 : decode cJ0_init_db425 41 = .ok (.getstatic 38, 3) := by decide +kernel
theorem dJ0_init_db425_44 : decode cJ0_init_db425 44 = .ok (.ifCond .eq 35, 3) := by decide +kernel
theorem dJ0_init_db425_47 : decode cJ0_init_db425 47 = .ok (.aload_n 1, 1) := by decide +kernel
theorem dJ0_init_db425_48 : decode cJ0_init_db425 48 = .ok (.getfield 1048, 3) := by decide +kernel
theorem dJ0_init_db425_51 : decode cJ0_init_db425 51 = .ok (.ifCond .eq 28, 3) := by decide +kernel
theorem dJ0_init_db425_54 : decode cJ0_init_db425 54 = .ok (.aload_n 0, 1) := by decide +kernel
theorem dJ0_init_db425_55 : decode cJ0_init_db425 55 = .ok (.aload_n 3, 1) := by decide +kernel
theorem dJ0_init_db425_56 : decode cJ0_init_db425 56 = .ok (.iconst 0, 1) := by decide +kernel
theorem dJ0_init_db425_57 : decode cJ0_init_db425 57 = .ok (.iload 4, 2) := by decide +kernel
theorem dJ0_init_db425_59 : decode cJ0_init_db425 59 = .ok (.invokestatic 1051, 3) := by decide +kernel
theorem dJ0_init_db425_62 : decode cJ0_init_db425 62 = .ok (.putfield 9, 3) := by decide +kernel
theorem dJ0_init_db425_65 : decode cJ0_init_db425 65 = .ok (.aload_n 0, 1) := by decide +kernel
theorem dJ0_init_db425_66 : decode cJ0_init_db425 66 = .ok (.aload_n 0, 1) := by decide +kernel
theorem dJ0_init_db425_67 : decode cJ0_init_db425 67 = .ok (.getfield 9, 3) := by decide +kernel
theorem dJ0_init_db425_70 : decode cJ0_init_db425 70 = .ok (.iload 4, 2) := by decide +kernel
theorem dJ0_init_db425_72 : decode cJ0_init_db425 72 = .ok (.invokestatic 47, 3) := by decide +kernel
theorem dJ0_init_db425_75 : decode cJ0_init_db425 75 = .ok (.putfield 15, 3) := by decide +kernel
theorem dJ0_init_db425_78 : decode cJ0_init_db425 78 = .ok (.return_, 1) := by decide +kernel
theorem dJ0_init_db425_79 : decode cJ0_init_db425 79 = .ok (.aload_n 0, 1) := by decide +kernel
theorem dJ0_init_db425_80 : decode cJ0_init_db425 80 = .ok (.iconst 1, 1) := by decide +kernel
theorem dJ0_init_db425_81 : decode cJ0_init_db425 81 = .ok (.putfield 15, 3) := by decide +kernel
theorem dJ0_init_db425_84 : decode cJ0_init_db425 84 = .ok (.aload_n 0, 1) := by decide +kernel
theorem dJ0_init_db425_85 : decode cJ0_init_db425 85 = .ok (.aload_n 3, 1) := by decide +kernel
theorem dJ0_init_db425_86 : decode cJ0_init_db425 86 = .ok (.iconst 0, 1) := by decide +kernel
theorem dJ0_init_db425_87 : decode cJ0_init_db425 87 = .ok (.iload 4, 2) := by decide +kernel
theorem dJ0_init_db425_89 : decode cJ0_init_db425 89 = .ok (.iconst 1, 1) := by decide +kernel
theorem dJ0_init_db425_90 : decode cJ0_init_db425 90 = .ok (.ishl, 1) := by decide +kernel
theorem dJ0_init_db425_91 : decode cJ0_init_db425 91 = .ok (.invokestatic 54, 3) := by decide +kernel
theorem dJ0_init_db425_94 : decode cJ0_init_db425 94 = .ok (.putfield 9, 3) := by decide +kernel
theorem dJ0_init_db425_97 : decode cJ0_init_db425 97 = .ok (.return_, 1) := by decide +kernel
theorem dJ0_coder_7d493_0 : decode cJ0_coder_7d493 0 = .ok (.getstatic 38, 3) := by decide +kernel
theorem dJ0_coder_7d493_3 : decode cJ0_coder_7d493 3 = .ok (.ifCond .eq 10, 3) := by decide +kernel
theorem dJ0_coder_7d493_6 : decode cJ0_coder_7d493 6 = .ok (.aload_n 0, 1) := by decide +kernel
theorem dJ0_coder_7d493_7 : decode cJ0_coder_7d493 7 = .ok (.getfield 15, 3) := by decide +kernel
theorem dJ0_coder_7d493_10 : decode cJ0_coder_7d493 10 = .ok (.goto 4, 3) := by decide +kernel
theorem dJ0_coder_7d493_13 : decode cJ0_coder_7d493 13 = .ok (.iconst 1, 1) := by decide +kernel
theorem dJ0_coder_7d493_14 : decode cJ0_coder_7d493 14 = .ok (.ireturn, 1) := by decide +kernel
theorem dJ0_isLatin1_aae02_0 : decode cJ0_isLatin1_aae02 0 = .ok (.getstatic 38, 3) := by decide +kernel
theorem dJ0_isLatin1_aae02_3 : decode cJ0_isLatin1_aae02 3 = .ok (.ifCond .eq 14, 3) := by decide +kernel
theorem dJ0_isLatin1_aae02_6 : decode cJ0_isLatin1_aae02 6 = .ok (.aload_n 0, 1) := by decide +kernel
theorem dJ0_isLatin1_aae02_7 : decode cJ0_isLatin1_aae02 7 = .ok (.getfield 15, 3) := by decide +kernel
theorem dJ0_isLatin1_aae02_10 : decode cJ0_isLatin1_aae02 10 = .ok (.ifCond .ne 7, 3) := by decide +kernel
theorem dJ0_isLatin1_aae02_13 : decode cJ0_isLatin1_aae02 13 = .ok (.iconst 1, 1) := by decide +kernel
theorem dJ0_isLatin1_aae02_14 : decode cJ0_isLatin1_aae02 14 = .ok (.goto 4, 3) := by decide +kernel
theorem dJ0_isLatin1_aae02_17 : decode cJ0_isLatin1_aae02 17 = .ok (.iconst 0, 1) := by decide +kernel
theorem dJ0_isLatin1_aae02_18 : decode cJ0_isLatin1_aae02 18 = .ok (.ireturn, 1) := by decide +kernel
theorem dJ0_checkIndex_df160_0 : decode cJ0_checkIndex_df160 0 = .ok (.iload_n 0, 1) := by decide +kernel
theorem dJ0_checkIndex_df160_1 : decode cJ0_checkIndex_df160 1 = .ok (.iload_n 1, 1) := by decide +kernel
theorem dJ0_checkIndex_df160_2 : decode cJ0_checkIndex_df160 2 = .ok (.getstatic 1053, 3) := by decide +kernel
theorem dJ0_checkIndex_df160_5 : decode cJ0_checkIndex_df160 5 = .ok (.invokestatic 1059, 3) := by decide +kernel
theorem dJ0_checkIndex_df160_8 : decode cJ0_checkIndex_df160 8 = .ok (.pop, 1) := by decide +kernel
theorem dJ0_checkIndex_df160_9 : decode cJ0_checkIndex_df160 9 = .ok (.return_, 1) := by decide +kernel
theorem dJ0_checkBoundsOffCount_cabcc_0 : decode cJ0_checkBoundsOffCount_cabcc 0 = .ok (.iload_n 0, 1) := by decide +kernel
theorem dJ0_checkBoundsOffCount_cabcc_1 : decode cJ0_checkBoundsOffCount_cabcc 1 = .ok (.iload_n 1, 1) := by decide +kernel
theorem dJ0_checkBoundsOffCount_cabcc_2 : decode cJ0_checkBoundsOffCount_cabcc 2 = .ok (.iload_n 2, 1) := by decide +kernel
theorem dJ0_checkBoundsOffCount_cabcc_3 : decode cJ0_checkBoundsOffCount_cabcc 3 = .ok (.getstatic 1053, 3) := by decide +kernel
theorem dJ0_checkBoundsOffCount_cabcc_6 : decode cJ0_checkBoundsOffCount_cabcc 6 = .ok (.invokestatic 1065, 3) := by decide +kernel
theorem dJ0_checkBoundsOffCount_cabcc_9 : decode cJ0_checkBoundsOffCount_cabcc 9 = .ok (.ireturn, 1) := by decide +kernel
theorem dJ0_checkBoundsBeginEnd_23922_0 : decode cJ0_checkBoundsBeginEnd_23922 0 = .ok (.iload_n 0, 1) := by decide +kernel
theorem dJ0_checkBoundsBeginEnd_23922_1 : decode cJ0_checkBoundsBeginEnd_23922 1 = .ok (.iload_n 1, 1) := by decide +kernel
theorem dJ0_checkBoundsBeginEnd_23922_2 : decode cJ0_checkBoundsBeginEnd_23922 2 = .ok (.iload_n 2, 1) := by decide +kernel
theorem dJ0_checkBoundsBeginEnd_23922_3 : decode cJ0_checkBoundsBeginEnd_23922 3 = .ok (.getstatic 1053, 3) := by decide +kernel
theorem dJ0_checkBoundsBeginEnd_23922_6 : decode cJ0_checkBoundsBeginEnd_23922 6 = .ok (.invokestatic 1062, 3) := by decide +kernel
theorem dJ0_checkBoundsBeginEnd_23922_9 : decode cJ0_checkBoundsBeginEnd_23922 9 = .ok (.pop, 1) := by decide +kernel
theorem dJ0_checkBoundsBeginEnd_23922_10 : decode cJ0_checkBoundsBeginEnd_23922 10 = .ok (.return_, 1) := by decide +kernel
theorem dJ4_init_da8c8_0 : decode cJ4_init_da8c8 0 = .ok (.aload_n 0, 1) := by decide +kernel
theorem dJ4_init_da8c8_1 : decode cJ4_init_da8c8 1 = .ok (.bipush 16, 2) := by decide +kernel
theorem dJ4_init_da8c8_3 : decode cJ4_init_da8c8 3 = .ok (.invokespecial 1, 3) := by decide +kernel
theorem dJ4_init_da8c8_6 : decode cJ4_init_da8c8 6 = .ok (.return_, 1) := by decide +kernel
theorem dJ4_init_a7421_0 : decode cJ4_init_a7421 0 = .ok (.aload_n 0, 1) := by decide +kernel
theorem dJ4_init_a7421_1 : decode cJ4_init_a7421 1 = .ok (.aload_n 1, 1) := by decide +kernel
theorem dJ4_init_a7421_2 : decode cJ4_init_a7421 2 = .ok (.invokespecial 7, 3) := by decide +kernel
theorem dJ4_init_a7421_5 : decode cJ4_init_a7421 5 = .ok (.return_, 1) := by decide +kernel
theorem dJ4_append_15ec4_0 : decode cJ4_append_15ec4 0 = .ok (.aload_n 0, 1) := by decide +kernel
theorem dJ4_append_15ec4_1 : decode cJ4_append_15ec4 1 = .ok (.aload_n 1, 1) := by decide +kernel
theorem dJ4_append_15ec4_2 : decode cJ4_append_15ec4 2 = .ok (.invokespecial 29, 3) := by decide +kernel
theorem dJ4_append_15ec4_5 : decode cJ4_append_15ec4 5 = .ok (.pop, 1) := by decide +kernel
theorem dJ4_append_15ec4_6 : decode cJ4_append_15ec4 6 = .ok (.aload_n 0, 1) := by decide +kernel
theorem dJ4_append_15ec4_7 : decode cJ4_append_15ec4 7 = .ok (.areturn, 1) := by decide +kernel
theorem dJ4_append_cf468_0 : decode cJ4_append_cf468 0 = .ok (.aload_n 0, 1) := by decide +kernel
theorem dJ4_append_cf468_1 : decode cJ4_append_cf468 1 = .ok (.iload_n 1, 1) := by decide +kernel
theorem dJ4_append_cf468_2 : decode cJ4_append_cf468 2 = .ok (.invokespecial 50, 3) := by decide +kernel
theorem dJ4_append_cf468_5 : decode cJ4_append_cf468 5 = .ok (.pop, 1) := by decide +kernel
theorem dJ4_append_cf468_6 : decode cJ4_append_cf468 6 = .ok (.aload_n 0, 1) := by decide +kernel
theorem dJ4_append_cf468_7 : decode cJ4_append_cf468 7 = .ok (.areturn, 1) := by decide +kernel
theorem dJ4_append_bf812_0 : decode cJ4_append_bf812 0 = .ok (.aload_n 0, 1) := by decide +kernel
theorem dJ4_append_bf812_1 : decode cJ4_append_bf812 1 = .ok (.iload_n 1, 1) := by decide +kernel
theorem dJ4_append_bf812_2 : decode cJ4_append_bf812 2 = .ok (.invokespecial 53, 3) := by decide +kernel
theorem dJ4_append_bf812_5 : decode cJ4_append_bf812 5 = .ok (.pop, 1) := by decide +kernel
theorem dJ4_append_bf812_6 : decode cJ4_append_bf812 6 = .ok (.aload_n 0, 1) := by decide +kernel
theorem dJ4_append_bf812_7 : decode cJ4_append_bf812 7 = .ok (.areturn, 1) := by decide +kernel
theorem dJ4_toString_0e30d_0 : decode cJ4_toString_0e30d 0 = .ok (.new 18, 3) := by decide +kernel
theorem dJ4_toString_0e30d_3 : decode cJ4_toString_0e30d 3 = .ok (.dup, 1) := by decide +kernel
theorem dJ4_toString_0e30d_4 : decode cJ4_toString_0e30d 4 = .ok (.aload_n 0, 1) := by decide +kernel
theorem dJ4_toString_0e30d_5 : decode cJ4_toString_0e30d 5 = .ok (.invokespecial 137, 3) := by decide +kernel
theorem dJ4_toString_0e30d_8 : decode cJ4_toString_0e30d 8 = .ok (.areturn, 1) := by decide +kernel
theorem dJ4_append_cf1ce_0 : decode cJ4_append_cf1ce 0 = .ok (.aload_n 0, 1) := by decide +kernel
theorem dJ4_append_cf1ce_1 : decode cJ4_append_cf1ce 1 = .ok (.aload_n 1, 1) := by decide +kernel
theorem dJ4_append_cf1ce_2 : decode cJ4_append_cf1ce 2 = .ok (.invokevirtual 23, 3) := by decide +kernel
theorem dJ4_append_cf1ce_5 : decode cJ4_append_cf1ce 5 = .ok (.areturn, 1) := by decide +kernel
theorem dJ4_length_8abf5_0 : decode cJ4_length_8abf5 0 = .ok (.aload_n 0, 1) := by decide +kernel
theorem dJ4_length_8abf5_1 : decode cJ4_length_8abf5 1 = .ok (.invokespecial 343, 3) := by decide +kernel
theorem dJ4_length_8abf5_4 : decode cJ4_length_8abf5 4 = .ok (.ireturn, 1) := by decide +kernel
theorem dJ1_charAt_3b067_0 : decode cJ1_charAt_3b067 0 = .ok (.iload_n 1, 1) := by decide +kernel
theorem dJ1_charAt_3b067_1 : decode cJ1_charAt_3b067 1 = .ok (.aload_n 0, 1) := by decide +kernel
theorem dJ1_charAt_3b067_2 : decode cJ1_charAt_3b067 2 = .ok (.arraylength, 1) := by decide +kernel
theorem dJ1_charAt_3b067_3 : decode cJ1_charAt_3b067 3 = .ok (.invokestatic 9, 3) := by decide +kernel
theorem dJ1_charAt_3b067_6 : decode cJ1_charAt_3b067 6 = .ok (.aload_n 0, 1) := by decide +kernel
theorem dJ1_charAt_3b067_7 : decode cJ1_charAt_3b067 7 = .ok (.iload_n 1, 1) := by decide +kernel
theorem dJ1_charAt_3b067_8 : decode cJ1_charAt_3b067 8 = .ok (.baload, 1) := by decide +kernel
theorem dJ1_charAt_3b067_9 : decode cJ1_charAt_3b067 9 = .ok (.sipush 255, 3) := by decide +kernel
theorem dJ1_charAt_3b067_12 : decode cJ1_charAt_3b067 12 = .ok (.iand, 1) := by decide +kernel
theorem dJ1_charAt_3b067_13 : decode cJ1_charAt_3b067 13 = .ok (.i2c, 1) := by decide +kernel
theorem dJ1_charAt_3b067_14 : decode cJ1_charAt_3b067 14 = .ok (.ireturn, 1) := by decide +kernel
theorem dJ1_canEncode_fc78d_0 : decode cJ1_canEncode_fc78d 0 = .ok (.iload_n 0, 1) := by decide +kernel
theorem dJ1_canEncode_fc78d_1 : decode cJ1_canEncode_fc78d 1 = .ok (.sipush 255, 3) := by decide +kernel
theorem dJ1_canEncode_fc78d_4 : decode cJ1_canEncode_fc78d 4 = .ok (.if_icmp .gt 7, 3) := by decide +kernel
theorem dJ1_canEncode_fc78d_7 : decode cJ1_canEncode_fc78d 7 = .ok (.iconst 1, 1) := by decide +kernel
theorem dJ1_canEncode_fc78d_8 : decode cJ1_canEncode_fc78d 8 = .ok (.goto 4, 3) := by decide +kernel
theorem dJ1_canEncode_fc78d_11 : decode cJ1_canEncode_fc78d 11 = .ok (.iconst 0, 1) := by decide +kernel
theorem dJ1_canEncode_fc78d_12 : decode cJ1_canEncode_fc78d 12 = .ok (.ireturn, 1) := by decide +kernel
theorem dJ1_inflate_0e8fd_0 : decode cJ1_inflate_0e8fd 0 = .ok (.aload_n 0, 1) := by decide +kernel
theorem dJ1_inflate_0e8fd_1 : decode cJ1_inflate_0e8fd 1 = .ok (.iload_n 1, 1) := by decide +kernel
theorem dJ1_inflate_0e8fd_2 : decode cJ1_inflate_0e8fd 2 = .ok (.aload_n 2, 1) := by decide +kernel
theorem dJ1_inflate_0e8fd_3 : decode cJ1_inflate_0e8fd 3 = .ok (.iload_n 3, 1) := by decide +kernel
theorem dJ1_inflate_0e8fd_4 : decode cJ1_inflate_0e8fd 4 = .ok (.iload 4, 2) := by decide +kernel
theorem dJ1_inflate_0e8fd_6 : decode cJ1_inflate_0e8fd 6 = .ok (.invokestatic 240, 3) := by decide +kernel
theorem dJ1_inflate_0e8fd_9 : decode cJ1_inflate_0e8fd 9 = .ok (.return_, 1) := by decide +kernel
theorem dJ2_newBytesFor_77867_0 : decode cJ2_newBytesFor_77867 0 = .ok (.iload_n 0, 1) := by decide +kernel
theorem dJ2_newBytesFor_77867_1 : decode cJ2_newBytesFor_77867 1 = .ok (.invokestatic 11, 3) := by decide +kernel
theorem dJ2_newBytesFor_77867_4 : decode cJ2_newBytesFor_77867 4 = .ok (.newarray .byte, 2) := by decide +kernel
theorem dJ2_newBytesFor_77867_6 : decode cJ2_newBytesFor_77867 6 = .ok (.areturn, 1) := by decide +kernel
theorem dJ2_newBytesLength_0f7a4_0 : decode cJ2_newBytesLength_0f7a4 0 = .ok (.iload_n 0, 1) := by decide +kernel
theorem dJ2_newBytesLength_0f7a4_1 : decode cJ2_newBytesLength_0f7a4 1 = .ok (.ifCond .ge 11, 3) := by decide +kernel
theorem dJ2_newBytesLength_0f7a4_4 : decode cJ2_newBytesLength_0f7a4 4 = .ok (.new 17, 3) := by decide +kernel
theorem dJ2_newBytesLength_0f7a4_7 : decode cJ2_newBytesLength_0f7a4 7 = .ok (.dup, 1) := by decide +kernel
theorem dJ2_newBytesLength_0f7a4_8 : decode cJ2_newBytesLength_0f7a4 8 = .ok (.invokespecial 19, 3) := by decide +kernel
theorem dJ2_newBytesLength_0f7a4_11 : decode cJ2_newBytesLength_0f7a4 11 = .ok (.athrow, 1) := by decide +kernel
theorem dJ2_newBytesLength_0f7a4_12 : decode cJ2_newBytesLength_0f7a4 12 = .ok (.iload_n 0, 1) := by decide +kernel
theorem dJ2_newBytesLength_0f7a4_13 : decode cJ2_newBytesLength_0f7a4 13 = .ok (.ldc 20, 2) := by decide +kernel
theorem dJ2_newBytesLength_0f7a4_15 : decode cJ2_newBytesLength_0f7a4 15 = .ok (.if_icmp .lt 40, 3) := by decide +kernel
theorem dJ2_newBytesLength_0f7a4_18 : decode cJ2_newBytesLength_0f7a4 18 = .ok (.new 21, 3) := by decide +kernel
theorem dJ2_newBytesLength_0f7a4_21 : decode cJ2_newBytesLength_0f7a4 21 = .ok (.dup, 1) := by decide +kernel
theorem dJ2_newBytesLength_0f7a4_22 : decode cJ2_newBytesLength_0f7a4 22 = .ok (.new 23, 3) := by decide +kernel
theorem dJ2_newBytesLength_0f7a4_25 : decode cJ2_newBytesLength_0f7a4 25 = .ok (.dup, 1) := by decide +kernel
theorem dJ2_newBytesLength_0f7a4_26 : decode cJ2_newBytesLength_0f7a4 26 = .ok (.invokespecial 25, 3) := by decide +kernel
theorem dJ2_newBytesLength_0f7a4_29 : decode cJ2_newBytesLength_0f7a4 29 = .ok (.ldc 26, 2) := by decide +kernel
theorem dJ2_newBytesLength_0f7a4_31 : decode cJ2_newBytesLength_0f7a4 31 = .ok (.invokevirtual 28, 3) := by decide +kernel
theorem dJ2_newBytesLength_0f7a4_34 : decode cJ2_newBytesLength_0f7a4 34 = .ok (.iload_n 0, 1) := by decide +kernel
theorem dJ2_newBytesLength_0f7a4_35 : decode cJ2_newBytesLength_0f7a4 35 = .ok (.invokevirtual 32, 3) := by decide +kernel
theorem dJ2_newBytesLength_0f7a4_38 : decode cJ2_newBytesLength_0f7a4 38 = .ok (.ldc 35, 2) := by decide +kernel
theorem dJ2_newBytesLength_0f7a4_40 : decode cJ2_newBytesLength_0f7a4 40 = .ok (.invokevirtual 28, 3) := by decide +kernel
theorem dJ2_newBytesLength_0f7a4_43 : decode cJ2_newBytesLength_0f7a4 43 = .ok (.ldc 20, 2) := by decide +kernel
theorem dJ2_newBytesLength_0f7a4_45 : decode cJ2_newBytesLength_0f7a4 45 = .ok (.invokevirtual 32, 3) := by decide +kernel
theorem dJ2_newBytesLength_0f7a4_48 : decode cJ2_newBytesLength_0f7a4 48 = .ok (.invokevirtual 37, 3) := by decide +kernel
theorem dJ2_newBytesLength_0f7a4_51 : decode cJ2_newBytesLength_0f7a4 51 = .ok (.invokespecial 41, 3) := by decide +kernel
theorem dJ2_newBytesLength_0f7a4_54 : decode cJ2_newBytesLength_0f7a4 54 = .ok (.athrow, 1) := by decide +kernel
theorem dJ2_newBytesLength_0f7a4_55 : decode cJ2_newBytesLength_0f7a4 55 = .ok (.iload_n 0, 1) := by decide +kernel
theorem dJ2_newBytesLength_0f7a4_56 : decode cJ2_newBytesLength_0f7a4 56 = .ok (.iconst 1, 1) := by decide +kernel
theorem dJ2_newBytesLength_0f7a4_57 : decode cJ2_newBytesLength_0f7a4 57 = .ok (.ishl, 1) := by decide +kernel
theorem dJ2_newBytesLength_0f7a4_58 : decode cJ2_newBytesLength_0f7a4 58 = .ok (.ireturn, 1) := by decide +kernel
theorem dJ2_putChar_b72d1_0 : decode cJ2_putChar_b72d1 0 = .ok (.getstatic 44, 3) := by decide +kernel
theorem dJ2_putChar_b72d1_3 : decode cJ2_putChar_b72d1 3 = .ok (.ifCond .ne 25, 3) := by decide +kernel
theorem dJ2_putChar_b72d1_6 : decode cJ2_putChar_b72d1 6 = .ok (.iload_n 1, 1) := by decide +kernel
theorem dJ2_putChar_b72d1_7 : decode cJ2_putChar_b72d1 7 = .ok (.ifCond .lt 11, 3) := by decide +kernel
theorem dJ2_putChar_b72d1_10 : decode cJ2_putChar_b72d1 10 = .ok (.iload_n 1, 1) := by decide +kernel
theorem dJ2_putChar_b72d1_11 : decode cJ2_putChar_b72d1 11 = .ok (.aload_n 0, 1) := by decide +kernel
theorem dJ2_putChar_b72d1_12 : decode cJ2_putChar_b72d1 12 = .ok (.invokestatic 48, 3) := by decide +kernel
theorem dJ2_putChar_b72d1_15 : decode cJ2_putChar_b72d1 15 = .ok (.if_icmp .lt 13, 3) := by decide +kernel
theorem dJ2_putChar_b72d1_18 : decode cJ2_putChar_b72d1 18 = .ok (.new 52, 3) := by decide +kernel
theorem dJ2_putChar_b72d1_21 : decode cJ2_putChar_b72d1 21 = .ok (.dup, 1) := by decide +kernel
theorem dJ2_putChar_b72d1_22 : decode cJ2_putChar_b72d1 22 = .ok (.ldc 54, 2) := by decide +kernel
theorem dJ2_putChar_b72d1_24 : decode cJ2_putChar_b72d1 24 = .ok (.invokespecial 56, 3) := by decide +kernel
theorem dJ2_putChar_b72d1_27 : decode cJ2_putChar_b72d1 27 = .ok (.athrow, 1) := by decide +kernel
theorem dJ2_putChar_b72d1_28 : decode cJ2_putChar_b72d1 28 = .ok (.iload_n 1, 1) := by decide +kernel
theorem dJ2_putChar_b72d1_29 : decode cJ2_putChar_b72d1 29 = .ok (.iconst 1, 1) := by decide +kernel
theorem dJ2_putChar_b72d1_30 : decode cJ2_putChar_b72d1 30 = .ok (.ishl, 1) := by decide +kernel
theorem dJ2_putChar_b72d1_31 : decode cJ2_putChar_b72d1 31 = .ok (.istore_n 1, 1) := by decide +kernel
theorem dJ2_putChar_b72d1_32 : decode cJ2_putChar_b72d1 32 = .ok (.aload_n 0, 1) := by decide +kernel
theorem dJ2_putChar_b72d1_33 : decode cJ2_putChar_b72d1 33 = .ok (.iload_n 1, 1) := by decide +kernel
theorem dJ2_putChar_b72d1_34 : decode cJ2_putChar_b72d1 34 = .ok (.iinc 1 1, 3) := by decide +kernel
theorem dJ2_putChar_b72d1_37 : decode cJ2_putChar_b72d1 37 = .ok (.iload_n 2, 1) := by decide +kernel
theorem dJ2_putChar_b72d1_38 : decode cJ2_putChar_b72d1 38 = .ok (.getstatic 59, 3) := by decide +kernel
theorem dJ2_putChar_b72d1_41 : decode cJ2_putChar_b72d1 41 = .ok (.ishr, 1) := by decide +kernel
theorem dJ2_putChar_b72d1_42 : decode cJ2_putChar_b72d1 42 = .ok (.i2b, 1) := by decide +kernel
theorem dJ2_putChar_b72d1_43 : decode cJ2_putChar_b72d1 43 = .ok (.bastore, 1) := by decide +kernel
theorem dJ2_putChar_b72d1_44 : decode cJ2_putChar_b72d1 44 = .ok (.aload_n 0, 1) := by decide +kernel
theorem dJ2_putChar_b72d1_45 : decode cJ2_putChar_b72d1 45 = .ok (.iload_n 1, 1) := by decide +kernel
theorem dJ2_putChar_b72d1_46 : decode cJ2_putChar_b72d1 46 = .ok (.iload_n 2, 1) := by decide +kernel
theorem dJ2_putChar_b72d1_47 : decode cJ2_putChar_b72d1 47 = .ok (.getstatic 63, 3) := by decide +kernel
theorem dJ2_putChar_b72d1_50 : decode cJ2_putChar_b72d1 50 = .ok (.ishr, 1) := by decide +kernel
theorem dJ2_putChar_b72d1_51 : decode cJ2_putChar_b72d1 51 = .ok (.i2b, 1) := by decide +kernel
theorem dJ2_putChar_b72d1_52 : decode cJ2_putChar_b72d1 52 = .ok (.bastore, 1) := by decide +kernel
theorem dJ2_putChar_b72d1_53 : decode cJ2_putChar_b72d1 53 = .ok (.return_, 1) := by decide +kernel
theorem dJ2_getChar_3b067_0 : decode cJ2_getChar_3b067 0 = .ok (.getstatic 44, 3) := by decide +kernel
theorem dJ2_getChar_3b067_3 : decode cJ2_getChar_3b067 3 = .ok (.ifCond .ne 25, 3) := by decide +kernel
theorem dJ2_getChar_3b067_6 : decode cJ2_getChar_3b067 6 = .ok (.iload_n 1, 1) := by decide +kernel
theorem dJ2_getChar_3b067_7 : decode cJ2_getChar_3b067 7 = .ok (.ifCond .lt 11, 3) := by decide +kernel
theorem dJ2_getChar_3b067_10 : decode cJ2_getChar_3b067 10 = .ok (.iload_n 1, 1) := by decide +kernel
theorem dJ2_getChar_3b067_11 : decode cJ2_getChar_3b067 11 = .ok (.aload_n 0, 1) := by decide +kernel
theorem dJ2_getChar_3b067_12 : decode cJ2_getChar_3b067 12 = .ok (.invokestatic 48, 3) := by decide +kernel
theorem dJ2_getChar_3b067_15 : decode cJ2_getChar_3b067 15 = .ok (.if_icmp .lt 13, 3) := by decide +kernel
theorem dJ2_getChar_3b067_18 : decode cJ2_getChar_3b067 18 = .ok (.new 52, 3) := by decide +kernel
theorem dJ2_getChar_3b067_21 : decode cJ2_getChar_3b067 21 = .ok (.dup, 1) := by decide +kernel
theorem dJ2_getChar_3b067_22 : decode cJ2_getChar_3b067 22 = .ok (.ldc 54, 2) := by decide +kernel
theorem dJ2_getChar_3b067_24 : decode cJ2_getChar_3b067 24 = .ok (.invokespecial 56, 3) := by decide +kernel
theorem dJ2_getChar_3b067_27 : decode cJ2_getChar_3b067 27 = .ok (.athrow, 1) := by decide +kernel
theorem dJ2_getChar_3b067_28 : decode cJ2_getChar_3b067 28 = .ok (.iload_n 1, 1) := by decide +kernel
theorem dJ2_getChar_3b067_29 : decode cJ2_getChar_3b067 29 = .ok (.iconst 1, 1) := by decide +kernel
theorem dJ2_getChar_3b067_30 : decode cJ2_getChar_3b067 30 = .ok (.ishl, 1) := by decide +kernel
theorem dJ2_getChar_3b067_31 : decode cJ2_getChar_3b067 31 = .ok (.istore_n 1, 1) := by decide +kernel
theorem dJ2_getChar_3b067_32 : decode cJ2_getChar_3b067 32 = .ok (.aload_n 0, 1) := by decide +kernel
theorem dJ2_getChar_3b067_33 : decode cJ2_getChar_3b067 33 = .ok (.iload_n 1, 1) := by decide +kernel
theorem dJ2_getChar_3b067_34 : decode cJ2_getChar_3b067 34 = .ok (.iinc 1 1, 3) := by decide +kernel
theorem dJ2_getChar_3b067_37 : decode cJ2_getChar_3b067 37 = .ok (.baload, 1) := by decide +kernel
theorem dJ2_getChar_3b067_38 : decode cJ2_getChar_3b067 38 = .ok (.sipush 255, 3) := by decide +kernel
theorem dJ2_getChar_3b067_41 : decode cJ2_getChar_3b067 41 = .ok (.iand, 1) := by decide +kernel
theorem dJ2_getChar_3b067_42 : decode cJ2_getChar_3b067 42 = .ok (.getstatic 59, 3) := by decide +kernel
theorem dJ2_getChar_3b067_45 : decode cJ2_getChar_3b067 45 = .ok (.ishl, 1) := by decide +kernel
theorem dJ2_getChar_3b067_46 : decode cJ2_getChar_3b067 46 = .ok (.aload_n 0, 1) := by decide +kernel
theorem dJ2_getChar_3b067_47 : decode cJ2_getChar_3b067 47 = .ok (.iload_n 1, 1) := by decide +kernel
theorem dJ2_getChar_3b067_48 : decode cJ2_getChar_3b067 48 = .ok (.baload, 1) := by decide +kernel
theorem dJ2_getChar_3b067_49 : decode cJ2_getChar_3b067 49 = .ok (.sipush 255, 3) := by decide +kernel
theorem dJ2_getChar_3b067_52 : decode cJ2_getChar_3b067 52 = .ok (.iand, 1) := by decide +kernel
theorem dJ2_getChar_3b067_53 : decode cJ2_getChar_3b067 53 = .ok (.getstatic 63, 3) := by decide +kernel
theorem dJ2_getChar_3b067_56 : decode cJ2_getChar_3b067 56 = .ok (.ishl, 1) := by decide +kernel
theorem dJ2_getChar_3b067_57 : decode cJ2_getChar_3b067 57 = .ok (.ior, 1) := by decide +kernel
theorem dJ2_getChar_3b067_58 : decode cJ2_getChar_3b067 58 = .ok (.i2c, 1) := by decide +kernel
theorem dJ2_getChar_3b067_59 : decode cJ2_getChar_3b067 59 = .ok (.ireturn, 1) := by decide +kernel
theorem dJ2_length_9d52b_0 : decode cJ2_length_9d52b 0 = .ok (.aload_n 0, 1) := by decide +kernel
theorem dJ2_length_9d52b_1 : decode cJ2_length_9d52b 1 = .ok (.arraylength, 1) := by decide +kernel
theorem dJ2_length_9d52b_2 : decode cJ2_length_9d52b 2 = .ok (.iconst 1, 1) := by decide +kernel
theorem dJ2_length_9d52b_3 : decode cJ2_length_9d52b 3 = .ok (.ishr, 1) := by decide +kernel
theorem dJ2_length_9d52b_4 : decode cJ2_length_9d52b 4 = .ok (.ireturn, 1) := by decide +kernel
theorem dJ2_coderFromArrayLen_85cad_0 : decode cJ2_coderFromArrayLen_85cad 0 = .ok (.iload_n 1, 1) := by decide +kernel
theorem dJ2_coderFromArrayLen_85cad_1 : decode cJ2_coderFromArrayLen_85cad 1 = .ok (.aload_n 0, 1) := by decide +kernel
theorem dJ2_coderFromArrayLen_85cad_2 : decode cJ2_coderFromArrayLen_85cad 2 = .ok (.arraylength, 1) := by decide +kernel
theorem dJ2_coderFromArrayLen_85cad_3 : decode cJ2_coderFromArrayLen_85cad 3 = .ok (.isub, 1) := by decide +kernel
theorem dJ2_coderFromArrayLen_85cad_4 : decode cJ2_coderFromArrayLen_85cad 4 = .ok (.bipush 31, 2) := by decide +kernel
theorem dJ2_coderFromArrayLen_85cad_6 : decode cJ2_coderFromArrayLen_85cad 6 = .ok (.iushr, 1) := by decide +kernel
theorem dJ2_coderFromArrayLen_85cad_7 : decode cJ2_coderFromArrayLen_85cad 7 = .ok (.i2b, 1) := by decide +kernel
theorem dJ2_coderFromArrayLen_85cad_8 : decode cJ2_coderFromArrayLen_85cad 8 = .ok (.ireturn, 1) := by decide +kernel
theorem dJ2_compress_39247_0 : decode cJ2_compress_39247 0 = .ok (.iload_n 2, 1) := by decide +kernel
theorem dJ2_compress_39247_1 : decode cJ2_compress_39247 1 = .ok (.newarray .byte, 2) := by decide +kernel
theorem dJ2_compress_39247_3 : decode cJ2_compress_39247 3 = .ok (.astore_n 3, 1) := by decide +kernel
theorem dJ2_compress_39247_4 : decode cJ2_compress_39247 4 = .ok (.aload_n 0, 1) := by decide +kernel
theorem dJ2_compress_39247_5 : decode cJ2_compress_39247 5 = .ok (.iload_n 1, 1) := by decide +kernel
theorem dJ2_compress_39247_6 : decode cJ2_compress_39247 6 = .ok (.aload_n 3, 1) := by decide +kernel
theorem dJ2_compress_39247_7 : decode cJ2_compress_39247 7 = .ok (.iconst 0, 1) := by decide +kernel
theorem dJ2_compress_39247_8 : decode cJ2_compress_39247 8 = .ok (.iload_n 2, 1) := by decide +kernel
theorem dJ2_compress_39247_9 : decode cJ2_compress_39247 9 = .ok (.invokestatic 123, 3) := by decide +kernel
theorem dJ2_compress_39247_12 : decode cJ2_compress_39247 12 = .ok (.istore 4, 2) := by decide +kernel
theorem dJ2_compress_39247_14 : decode cJ2_compress_39247 14 = .ok (.iload 4, 2) := by decide +kernel
theorem dJ2_compress_39247_16 : decode cJ2_compress_39247 16 = .ok (.iload_n 2, 1) := by decide +kernel
theorem dJ2_compress_39247_17 : decode cJ2_compress_39247 17 = .ok (.if_icmp .eq 47, 3) := by decide +kernel
theorem dJ2_compress_39247_20 : decode cJ2_compress_39247 20 = .ok (.aload_n 0, 1) := by decide +kernel
theorem dJ2_compress_39247_21 : decode cJ2_compress_39247 21 = .ok (.iload_n 1, 1) := by decide +kernel
theorem dJ2_compress_39247_22 : decode cJ2_compress_39247 22 = .ok (.iconst 1, 1) := by decide +kernel
theorem dJ2_compress_39247_23 : decode cJ2_compress_39247 23 = .ok (.ishl, 1) := by decide +kernel
theorem dJ2_compress_39247_24 : decode cJ2_compress_39247 24 = .ok (.iload_n 1, 1) := by decide +kernel
theorem dJ2_compress_39247_25 : decode cJ2_compress_39247 25 = .ok (.iload_n 2, 1) := by decide +kernel
theorem dJ2_compress_39247_26 : decode cJ2_compress_39247 26 = .ok (.iadd, 1) := by decide +kernel
theorem dJ2_compress_39247_27 : decode cJ2_compress_39247 27 = .ok (.invokestatic 11, 3) := by decide +kernel
theorem dJ2_compress_39247_30 : decode cJ2_compress_39247 30 = .ok (.invokestatic 126, 3) := by decide +kernel
theorem dJ2_compress_39247_33 : decode cJ2_compress_39247 33 = .ok (.astore 5, 2) := by decide +kernel
theorem dJ2_compress_39247_35 : decode cJ2_compress_39247 35 = .ok (.aload 5, 2) := by decide +kernel
theorem dJ2_compress_39247_37 : decode cJ2_compress_39247 37 = .ok (.iload 4, 2) := by decide +kernel
theorem dJ2_compress_39247_39 : decode cJ2_compress_39247 39 = .ok (.invokestatic 71, 3) := by decide +kernel
theorem dJ2_compress_39247_42 : decode cJ2_compress_39247 42 = .ok (.sipush 255, 3) := by decide +kernel
theorem dJ2_compress_39247_45 : decode cJ2_compress_39247 45 = .ok (.if_icmp .gt 16, 3) := by decide +kernel
theorem dJ2_compress_39247_48 : decode cJ2_compress_39247 48 = .ok (.aload 5, 2) := by decide +kernel
theorem dJ2_compress_39247_50 : decode cJ2_compress_39247 50 = .ok (.iconst 0, 1) := by decide +kernel
theorem dJ2_compress_39247_51 : decode cJ2_compress_39247 51 = .ok (.aload_n 3, 1) := by decide +kernel
theorem dJ2_compress_39247_52 : decode cJ2_compress_39247 52 = .ok (.iconst 0, 1) := by decide +kernel
theorem dJ2_compress_39247_53 : decode cJ2_compress_39247 53 = .ok (.iload_n 2, 1) := by decide +kernel
theorem dJ2_compress_39247_54 : decode cJ2_compress_39247 54 = .ok (.invokestatic 123, 3) := by decide +kernel
theorem dJ2_compress_39247_57 : decode cJ2_compress_39247 57 = .ok (.iload_n 2, 1) := by decide +kernel
theorem dJ2_compress_39247_58 : decode cJ2_compress_39247 58 = .ok (.if_icmp .eq 6, 3) := by decide +kernel
theorem dJ2_compress_39247_61 : decode cJ2_compress_39247 61 = .ok (.aload 5, 2) := by decide +kernel
theorem dJ2_compress_39247_63 : decode cJ2_compress_39247 63 = .ok (.areturn, 1) := by decide +kernel
theorem dJ2_compress_39247_64 : decode cJ2_compress_39247 64 = .ok (.aload_n 3, 1) := by decide +kernel
theorem dJ2_compress_39247_65 : decode cJ2_compress_39247 65 = .ok (.areturn, 1) := by decide +kernel
theorem dJ2_compress_5af95_0 : decode cJ2_compress_5af95 0 = .ok (.iload_n 1, 1) := by decide +kernel
theorem dJ2_compress_5af95_1 : decode cJ2_compress_5af95 1 = .ok (.iload 4, 2) := by decide +kernel
theorem dJ2_compress_5af95_3 : decode cJ2_compress_5af95 3 = .ok (.aload_n 0, 1) := by decide +kernel
theorem dJ2_compress_5af95_4 : decode cJ2_compress_5af95 4 = .ok (.invokestatic 173, 3) := by decide +kernel
theorem dJ2_compress_5af95_7 : decode cJ2_compress_5af95 7 = .ok (.iconst 0, 1) := by decide +kernel
theorem dJ2_compress_5af95_8 : decode cJ2_compress_5af95 8 = .ok (.istore 5, 2) := by decide +kernel
theorem dJ2_compress_5af95_10 : decode cJ2_compress_5af95 10 = .ok (.iload 5, 2) := by decide +kernel
theorem dJ2_compress_5af95_12 : decode cJ2_compress_5af95 12 = .ok (.iload 4, 2) := by decide +kernel
theorem dJ2_compress_5af95_14 : decode cJ2_compress_5af95 14 = .ok (.if_icmp .ge 39, 3) := by decide +kernel
theorem dJ2_compress_5af95_17 : decode cJ2_compress_5af95 17 = .ok (.aload_n 0, 1) := by decide +kernel
theorem dJ2_compress_5af95_18 : decode cJ2_compress_5af95 18 = .ok (.iload_n 1, 1) := by decide +kernel
theorem dJ2_compress_5af95_19 : decode cJ2_compress_5af95 19 = .ok (.invokestatic 71, 3) := by decide +kernel
theorem dJ2_compress_5af95_22 : decode cJ2_compress_5af95 22 = .ok (.istore 6, 2) := by decide +kernel
theorem dJ2_compress_5af95_24 : decode cJ2_compress_5af95 24 = .ok (.iload 6, 2) := by decide +kernel
theorem dJ2_compress_5af95_26 : decode cJ2_compress_5af95 26 = .ok (.sipush 255, 3) := by decide +kernel
theorem dJ2_compress_5af95_29 : decode cJ2_compress_5af95 29 = .ok (.if_icmp .le 6, 3) := by decide +kernel
theorem dJ2_compress_5af95_32 : decode cJ2_compress_5af95 32 = .ok (.iload 5, 2) := by decide +kernel
theorem dJ2_compress_5af95_34 : decode cJ2_compress_5af95 34 = .ok (.ireturn, 1) := by decide +kernel
theorem dJ2_compress_5af95_35 : decode cJ2_compress_5af95 35 = .ok (.aload_n 2, 1) := by decide +kernel
theorem dJ2_compress_5af95_36 : decode cJ2_compress_5af95 36 = .ok (.iload_n 3, 1) := by decide +kernel
theorem dJ2_compress_5af95_37 : decode cJ2_compress_5af95 37 = .ok (.iload 6, 2) := by decide +kernel
theorem dJ2_compress_5af95_39 : decode cJ2_compress_5af95 39 = .ok (.i2b, 1) := by decide +kernel
theorem dJ2_compress_5af95_40 : decode cJ2_compress_5af95 40 = .ok (.bastore, 1) := by decide +kernel
theorem dJ2_compress_5af95_41 : decode cJ2_compress_5af95 41 = .ok (.iinc 1 1, 3) := by decide +kernel
theorem dJ2_compress_5af95_44 : decode cJ2_compress_5af95 44 = .ok (.iinc 3 1, 3) := by decide +kernel
theorem dJ2_compress_5af95_47 : decode cJ2_compress_5af95 47 = .ok (.iinc 5 1, 3) := by decide +kernel
theorem dJ2_compress_5af95_50 : decode cJ2_compress_5af95 50 = .ok (.goto (-40), 3) := by decide +kernel
theorem dJ2_compress_5af95_53 : decode cJ2_compress_5af95 53 = .ok (.iload 4, 2) := by decide +kernel
theorem dJ2_compress_5af95_55 : decode cJ2_compress_5af95 55 = .ok (.ireturn, 1) := by decide +kernel
theorem dJ2_putCharSB_b72d1_0 : decode cJ2_putCharSB_b72d1 0 = .ok (.iload_n 1, 1) := by decide +kernel
theorem dJ2_putCharSB_b72d1_1 : decode cJ2_putCharSB_b72d1 1 = .ok (.aload_n 0, 1) := by decide +kernel
theorem dJ2_putCharSB_b72d1_2 : decode cJ2_putCharSB_b72d1 2 = .ok (.invokestatic 67, 3) := by decide +kernel
theorem dJ2_putCharSB_b72d1_5 : decode cJ2_putCharSB_b72d1 5 = .ok (.aload_n 0, 1) := by decide +kernel
theorem dJ2_putCharSB_b72d1_6 : decode cJ2_putCharSB_b72d1 6 = .ok (.iload_n 1, 1) := by decide +kernel
theorem dJ2_putCharSB_b72d1_7 : decode cJ2_putCharSB_b72d1 7 = .ok (.iload_n 2, 1) := by decide +kernel
theorem dJ2_putCharSB_b72d1_8 : decode cJ2_putCharSB_b72d1 8 = .ok (.invokestatic 111, 3) := by decide +kernel
theorem dJ2_putCharSB_b72d1_11 : decode cJ2_putCharSB_b72d1 11 = .ok (.return_, 1) := by decide +kernel
theorem dJ2_getChars_46870_0 : decode cJ2_getChars_46870 0 = .ok (.iload_n 1, 1) := by decide +kernel
theorem dJ2_getChars_46870_1 : decode cJ2_getChars_46870 1 = .ok (.iload_n 2, 1) := by decide +kernel
theorem dJ2_getChars_46870_2 : decode cJ2_getChars_46870 2 = .ok (.aload_n 3, 1) := by decide +kernel
theorem dJ2_getChars_46870_3 : decode cJ2_getChars_46870 3 = .ok (.invokestatic 96, 3) := by decide +kernel
theorem dJ2_getChars_46870_6 : decode cJ2_getChars_46870 6 = .ok (.iload_n 0, 1) := by decide +kernel
theorem dJ2_getChars_46870_7 : decode cJ2_getChars_46870 7 = .ok (.iload_n 2, 1) := by decide +kernel
theorem dJ2_getChars_46870_8 : decode cJ2_getChars_46870 8 = .ok (.aload_n 3, 1) := by decide +kernel
theorem dJ2_getChars_46870_9 : decode cJ2_getChars_46870 9 = .ok (.invokestatic 393, 3) := by decide +kernel
theorem dJ2_getChars_46870_12 : decode cJ2_getChars_46870 12 = .ok (.istore 4, 2) := by decide +kernel
theorem dJ2_getChars_46870_14 : decode cJ2_getChars_46870 14 = .ok (.getstatic 44, 3) := by decide +kernel
theorem dJ2_getChars_46870_17 : decode cJ2_getChars_46870 17 = .ok (.ifCond .ne 17, 3) := by decide +kernel
theorem dJ2_getChars_46870_20 : decode cJ2_getChars_46870 20 = .ok (.iload_n 1, 1) := by decide +kernel
theorem dJ2_getChars_46870_21 : decode cJ2_getChars_46870 21 = .ok (.iload 4, 2) := by decide +kernel
theorem dJ2_getChars_46870_23 : decode cJ2_getChars_46870 23 = .ok (.if_icmp .eq 11, 3) := by decide +kernel
theorem dJ2_getChars_46870_26 : decode cJ2_getChars_46870 26 = .ok (.new 52, 3) := by decide +kernel
theorem dJ2_getChars_46870_29 : decode cJ2_getChars_46870 29 = .ok (.dup, 1) := by decide +kernel
theorem dJ2_getChars_46870_30 : decode cJ2_getChars_46870 30 = .ok (.invokespecial 66, 3) := by decide +kernel
theorem dJ2_getChars_46870_33 : decode cJ2_getChars_46870 33 = .ok (.athrow, 1) := by decide +kernel
theorem dJ2_getChars_46870_34 : decode cJ2_getChars_46870 34 = .ok (.iload 4, 2) := by decide +kernel
theorem dJ2_getChars_46870_36 : decode cJ2_getChars_46870 36 = .ok (.ireturn, 1) := by decide +kernel
theorem dJ2_putCharsAt_cd4e5_0 : decode cJ2_putCharsAt_cd4e5 0 = .ok (.iload_n 1, 1) := by decide +kernel
theorem dJ2_putCharsAt_cd4e5_1 : decode cJ2_putCharsAt_cd4e5 1 = .ok (.iconst 4, 1) := by decide +kernel
theorem dJ2_putCharsAt_cd4e5_2 : decode cJ2_putCharsAt_cd4e5 2 = .ok (.iadd, 1) := by decide +kernel
theorem dJ2_putCharsAt_cd4e5_3 : decode cJ2_putCharsAt_cd4e5 3 = .ok (.istore 6, 2) := by decide +kernel
theorem dJ2_putCharsAt_cd4e5_5 : decode cJ2_putCharsAt_cd4e5 5 = .ok (.iload_n 1, 1) := by decide +kernel
theorem dJ2_putCharsAt_cd4e5_6 : decode cJ2_putCharsAt_cd4e5 6 = .ok (.iload 6, 2) := by decide +kernel
theorem dJ2_putCharsAt_cd4e5_8 : decode cJ2_putCharsAt_cd4e5 8 = .ok (.aload_n 0, 1) := by decide +kernel
theorem dJ2_putCharsAt_cd4e5_9 : decode cJ2_putCharsAt_cd4e5 9 = .ok (.invokestatic 96, 3) := by decide +kernel
theorem dJ2_putCharsAt_cd4e5_12 : decode cJ2_putCharsAt_cd4e5 12 = .ok (.aload_n 0, 1) := by decide +kernel
theorem dJ2_putCharsAt_cd4e5_13 : decode cJ2_putCharsAt_cd4e5 13 = .ok (.iload_n 1, 1) := by decide +kernel
theorem dJ2_putCharsAt_cd4e5_14 : decode cJ2_putCharsAt_cd4e5 14 = .ok (.iinc 1 1, 3) := by decide +kernel
theorem dJ2_putCharsAt_cd4e5_17 : decode cJ2_putCharsAt_cd4e5 17 = .ok (.iload_n 2, 1) := by decide +kernel
theorem dJ2_putCharsAt_cd4e5_18 : decode cJ2_putCharsAt_cd4e5 18 = .ok (.invokestatic 111, 3) := by decide +kernel
theorem dJ2_putCharsAt_cd4e5_21 : decode cJ2_putCharsAt_cd4e5 21 = .ok (.aload_n 0, 1) := by decide +kernel
theorem dJ2_putCharsAt_cd4e5_22 : decode cJ2_putCharsAt_cd4e5 22 = .ok (.iload_n 1, 1) := by decide +kernel
theorem dJ2_putCharsAt_cd4e5_23 : decode cJ2_putCharsAt_cd4e5 23 = .ok (.iinc 1 1, 3) := by decide +kernel
theorem dJ2_putCharsAt_cd4e5_26 : decode cJ2_putCharsAt_cd4e5 26 = .ok (.iload_n 3, 1) := by decide +kernel
theorem dJ2_putCharsAt_cd4e5_27 : decode cJ2_putCharsAt_cd4e5 27 = .ok (.invokestatic 111, 3) := by decide +kernel
theorem dJ2_putCharsAt_cd4e5_30 : decode cJ2_putCharsAt_cd4e5 30 = .ok (.aload_n 0, 1) := by decide +kernel
theorem dJ2_putCharsAt_cd4e5_31 : decode cJ2_putCharsAt_cd4e5 31 = .ok (.iload_n 1, 1) := by decide +kernel
theorem dJ2_putCharsAt_cd4e5_32 : decode cJ2_putCharsAt_cd4e5 32 = .ok (.iinc 1 1, 3) := by decide +kernel
theorem dJ2_putCharsAt_cd4e5_35 : decode cJ2_putCharsAt_cd4e5 35 = .ok (.iload 4, 2) := by decide +kernel
theorem dJ2_putCharsAt_cd4e5_37 : decode cJ2_putCharsAt_cd4e5 37 = .ok (.invokestatic 111, 3) := by decide +kernel
theorem dJ2_putCharsAt_cd4e5_40 : decode cJ2_putCharsAt_cd4e5 40 = .ok (.aload_n 0, 1) := by decide +kernel
theorem dJ2_putCharsAt_cd4e5_41 : decode cJ2_putCharsAt_cd4e5 41 = .ok (.iload_n 1, 1) := by decide +kernel
theorem dJ2_putCharsAt_cd4e5_42 : decode cJ2_putCharsAt_cd4e5 42 = .ok (.iinc 1 1, 3) := by decide +kernel
theorem dJ2_putCharsAt_cd4e5_45 : decode cJ2_putCharsAt_cd4e5 45 = .ok (.iload 5, 2) := by decide +kernel
theorem dJ2_putCharsAt_cd4e5_47 : decode cJ2_putCharsAt_cd4e5 47 = .ok (.invokestatic 111, 3) := by decide +kernel
theorem dJ2_putCharsAt_cd4e5_50 : decode cJ2_putCharsAt_cd4e5 50 = .ok (.getstatic 44, 3) := by decide +kernel
theorem dJ2_putCharsAt_cd4e5_53 : decode cJ2_putCharsAt_cd4e5 53 = .ok (.ifCond .ne 17, 3) := by decide +kernel
theorem dJ2_putCharsAt_cd4e5_56 : decode cJ2_putCharsAt_cd4e5 56 = .ok (.iload_n 1, 1) := by decide +kernel
theorem dJ2_putCharsAt_cd4e5_57 : decode cJ2_putCharsAt_cd4e5 57 = .ok (.iload 6, 2) := by decide +kernel
theorem dJ2_putCharsAt_cd4e5_59 : decode cJ2_putCharsAt_cd4e5 59 = .ok (.if_icmp .eq 11, 3) := by decide +kernel
theorem dJ2_putCharsAt_cd4e5_62 : decode cJ2_putCharsAt_cd4e5 62 = .ok (.new 52, 3) := by decide +kernel
theorem dJ2_putCharsAt_cd4e5_65 : decode cJ2_putCharsAt_cd4e5 65 = .ok (.dup, 1) := by decide +kernel
theorem dJ2_putCharsAt_cd4e5_66 : decode cJ2_putCharsAt_cd4e5 66 = .ok (.invokespecial 66, 3) := by decide +kernel
theorem dJ2_putCharsAt_cd4e5_69 : decode cJ2_putCharsAt_cd4e5 69 = .ok (.athrow, 1) := by decide +kernel
theorem dJ2_putCharsAt_cd4e5_70 : decode cJ2_putCharsAt_cd4e5 70 = .ok (.iload 6, 2) := by decide +kernel
theorem dJ2_putCharsAt_cd4e5_72 : decode cJ2_putCharsAt_cd4e5 72 = .ok (.ireturn, 1) := by decide +kernel
theorem dJ2_charAt_3b067_0 : decode cJ2_charAt_3b067 0 = .ok (.iload_n 1, 1) := by decide +kernel
theorem dJ2_charAt_3b067_1 : decode cJ2_charAt_3b067 1 = .ok (.aload_n 0, 1) := by decide +kernel
theorem dJ2_charAt_3b067_2 : decode cJ2_charAt_3b067 2 = .ok (.invokestatic 67, 3) := by decide +kernel
theorem dJ2_charAt_3b067_5 : decode cJ2_charAt_3b067 5 = .ok (.aload_n 0, 1) := by decide +kernel
theorem dJ2_charAt_3b067_6 : decode cJ2_charAt_3b067 6 = .ok (.iload_n 1, 1) := by decide +kernel
theorem dJ2_charAt_3b067_7 : decode cJ2_charAt_3b067 7 = .ok (.invokestatic 71, 3) := by decide +kernel
theorem dJ2_charAt_3b067_10 : decode cJ2_charAt_3b067 10 = .ok (.ireturn, 1) := by decide +kernel
theorem dJ2_inflate_0e8fd_0 : decode cJ2_inflate_0e8fd 0 = .ok (.iload_n 3, 1) := by decide +kernel
theorem dJ2_inflate_0e8fd_1 : decode cJ2_inflate_0e8fd 1 = .ok (.iload 4, 2) := by decide +kernel
theorem dJ2_inflate_0e8fd_3 : decode cJ2_inflate_0e8fd 3 = .ok (.aload_n 2, 1) := by decide +kernel
theorem dJ2_inflate_0e8fd_4 : decode cJ2_inflate_0e8fd 4 = .ok (.invokestatic 173, 3) := by decide +kernel
theorem dJ2_inflate_0e8fd_7 : decode cJ2_inflate_0e8fd 7 = .ok (.iconst 0, 1) := by decide +kernel
theorem dJ2_inflate_0e8fd_8 : decode cJ2_inflate_0e8fd 8 = .ok (.istore 5, 2) := by decide +kernel
theorem dJ2_inflate_0e8fd_10 : decode cJ2_inflate_0e8fd 10 = .ok (.iload 5, 2) := by decide +kernel
theorem dJ2_inflate_0e8fd_12 : decode cJ2_inflate_0e8fd 12 = .ok (.iload 4, 2) := by decide +kernel
theorem dJ2_inflate_0e8fd_14 : decode cJ2_inflate_0e8fd 14 = .ok (.if_icmp .ge 27, 3) := by decide +kernel
theorem dJ2_inflate_0e8fd_17 : decode cJ2_inflate_0e8fd 17 = .ok (.aload_n 2, 1) := by decide +kernel
theorem dJ2_inflate_0e8fd_18 : decode cJ2_inflate_0e8fd 18 = .ok (.iload_n 3, 1) := by decide +kernel
theorem dJ2_inflate_0e8fd_19 : decode cJ2_inflate_0e8fd 19 = .ok (.iinc 3 1, 3) := by decide +kernel
theorem dJ2_inflate_0e8fd_22 : decode cJ2_inflate_0e8fd 22 = .ok (.aload_n 0, 1) := by decide +kernel
theorem dJ2_inflate_0e8fd_23 : decode cJ2_inflate_0e8fd 23 = .ok (.iload_n 1, 1) := by decide +kernel
theorem dJ2_inflate_0e8fd_24 : decode cJ2_inflate_0e8fd 24 = .ok (.iinc 1 1, 3) := by decide +kernel
theorem dJ2_inflate_0e8fd_27 : decode cJ2_inflate_0e8fd 27 = .ok (.baload, 1) := by decide +kernel
theorem dJ2_inflate_0e8fd_28 : decode cJ2_inflate_0e8fd 28 = .ok (.sipush 255, 3) := by decide +kernel
theorem dJ2_inflate_0e8fd_31 : decode cJ2_inflate_0e8fd 31 = .ok (.iand, 1) := by decide +kernel
theorem dJ2_inflate_0e8fd_32 : decode cJ2_inflate_0e8fd 32 = .ok (.invokestatic 111, 3) := by decide +kernel
theorem dJ2_inflate_0e8fd_35 : decode cJ2_inflate_0e8fd 35 = .ok (.iinc 5 1, 3) := by decide +kernel
theorem dJ2_inflate_0e8fd_38 : decode cJ2_inflate_0e8fd 38 = .ok (.goto (-28), 3) := by decide +kernel
theorem dJ2_inflate_0e8fd_41 : decode cJ2_inflate_0e8fd 41 = .ok (.return_, 1) := by decide +kernel
theorem dJ2_getChars_ba4f3_0 : decode cJ2_getChars_ba4f3 0 = .ok (.iload_n 1, 1) := by decide +kernel
theorem dJ2_getChars_ba4f3_1 : decode cJ2_getChars_ba4f3 1 = .ok (.istore 5, 2) := by decide +kernel
theorem dJ2_getChars_ba4f3_3 : decode cJ2_getChars_ba4f3 3 = .ok (.iload_n 0, 1) := by decide +kernel
theorem dJ2_getChars_ba4f3_4 : decode cJ2_getChars_ba4f3 4 = .ok (.ifCond .ge 7, 3) := by decide +kernel
theorem dJ2_getChars_ba4f3_7 : decode cJ2_getChars_ba4f3 7 = .ok (.iconst 1, 1) := by decide +kernel
theorem dJ2_getChars_ba4f3_8 : decode cJ2_getChars_ba4f3 8 = .ok (.goto 4, 3) := by decide +kernel
theorem dJ2_getChars_ba4f3_11 : decode cJ2_getChars_ba4f3 11 = .ok (.iconst 0, 1) := by decide +kernel
theorem dJ2_getChars_ba4f3_12 : decode cJ2_getChars_ba4f3 12 = .ok (.istore 6, 2) := by decide +kernel
theorem dJ2_getChars_ba4f3_14 : decode cJ2_getChars_ba4f3 14 = .ok (.iload 6, 2) := by decide +kernel
theorem dJ2_getChars_ba4f3_16 : decode cJ2_getChars_ba4f3 16 = .ok (.ifCond .ne 6, 3) := by decide +kernel
theorem dJ2_getChars_ba4f3_19 : decode cJ2_getChars_ba4f3 19 = .ok (.iload_n 0, 1) := by decide +kernel
theorem dJ2_getChars_ba4f3_20 : decode cJ2_getChars_ba4f3 20 = .ok (.ineg, 1) := by decide +kernel
theorem dJ2_getChars_ba4f3_21 : decode cJ2_getChars_ba4f3 21 = .ok (.istore_n 0, 1) := by decide +kernel
theorem dJ2_getChars_ba4f3_22 : decode cJ2_getChars_ba4f3 22 = .ok (.iload_n 0, 1) := by decide +kernel
theorem dJ2_getChars_ba4f3_23 : decode cJ2_getChars_ba4f3 23 = .ok (.bipush (-100), 2) := by decide +kernel
theorem dJ2_getChars_ba4f3_25 : decode cJ2_getChars_ba4f3 25 = .ok (.if_icmp .gt 51, 3) := by decide +kernel
theorem dJ2_getChars_ba4f3_28 : decode cJ2_getChars_ba4f3 28 = .ok (.iload_n 0, 1) := by decide +kernel
theorem dJ2_getChars_ba4f3_29 : decode cJ2_getChars_ba4f3 29 = .ok (.bipush 100, 2) := by decide +kernel
theorem dJ2_getChars_ba4f3_31 : decode cJ2_getChars_ba4f3 31 = .ok (.idiv, 1) := by decide +kernel
theorem dJ2_getChars_ba4f3_32 : decode cJ2_getChars_ba4f3 32 = .ok (.istore_n 3, 1) := by decide +kernel
theorem dJ2_getChars_ba4f3_33 : decode cJ2_getChars_ba4f3 33 = .ok (.iload_n 3, 1) := by decide +kernel
theorem dJ2_getChars_ba4f3_34 : decode cJ2_getChars_ba4f3 34 = .ok (.bipush 100, 2) := by decide +kernel
theorem dJ2_getChars_ba4f3_36 : decode cJ2_getChars_ba4f3 36 = .ok (.imul, 1) := by decide +kernel
theorem dJ2_getChars_ba4f3_37 : decode cJ2_getChars_ba4f3 37 = .ok (.iload_n 0, 1) := by decide +kernel
theorem dJ2_getChars_ba4f3_38 : decode cJ2_getChars_ba4f3 38 = .ok (.isub, 1) := by decide +kernel
theorem dJ2_getChars_ba4f3_39 : decode cJ2_getChars_ba4f3 39 = .ok (.istore 4, 2) := by decide +kernel
theorem dJ2_getChars_ba4f3_41 : decode cJ2_getChars_ba4f3 41 = .ok (.iload_n 3, 1) := by decide +kernel
theorem dJ2_getChars_ba4f3_42 : decode cJ2_getChars_ba4f3 42 = .ok (.istore_n 0, 1) := by decide +kernel
theorem dJ2_getChars_ba4f3_43 : decode cJ2_getChars_ba4f3 43 = .ok (.aload_n 2, 1) := by decide +kernel
theorem dJ2_getChars_ba4f3_44 : decode cJ2_getChars_ba4f3 44 = .ok (.iinc 5 (-1), 3) := by decide +kernel
theorem dJ2_getChars_ba4f3_47 : decode cJ2_getChars_ba4f3 47 = .ok (.iload 5, 2) := by decide +kernel
theorem dJ2_getChars_ba4f3_49 : decode cJ2_getChars_ba4f3 49 = .ok (.getstatic 403, 3) := by decide +kernel
theorem dJ2_getChars_ba4f3_52 : decode cJ2_getChars_ba4f3 52 = .ok (.iload 4, 2) := by decide +kernel
theorem dJ2_getChars_ba4f3_54 : decode cJ2_getChars_ba4f3 54 = .ok (.baload, 1) := by decide +kernel
theorem dJ2_getChars_ba4f3_55 : decode cJ2_getChars_ba4f3 55 = .ok (.invokestatic 111, 3) := by decide +kernel
theorem dJ2_getChars_ba4f3_58 : decode cJ2_getChars_ba4f3 58 = .ok (.aload_n 2, 1) := by decide +kernel
theorem dJ2_getChars_ba4f3_59 : decode cJ2_getChars_ba4f3 59 = .ok (.iinc 5 (-1), 3) := by decide +kernel
theorem dJ2_getChars_ba4f3_62 : decode cJ2_getChars_ba4f3 62 = .ok (.iload 5, 2) := by decide +kernel
theorem dJ2_getChars_ba4f3_64 : decode cJ2_getChars_ba4f3 64 = .ok (.getstatic 407, 3) := by decide +kernel
theorem dJ2_getChars_ba4f3_67 : decode cJ2_getChars_ba4f3 67 = .ok (.iload 4, 2) := by decide +kernel
theorem dJ2_getChars_ba4f3_69 : decode cJ2_getChars_ba4f3 69 = .ok (.baload, 1) := by decide +kernel
theorem dJ2_getChars_ba4f3_70 : decode cJ2_getChars_ba4f3 70 = .ok (.invokestatic 111, 3) := by decide +kernel
theorem dJ2_getChars_ba4f3_73 : decode cJ2_getChars_ba4f3 73 = .ok (.goto (-51), 3) := by decide +kernel
theorem dJ2_getChars_ba4f3_76 : decode cJ2_getChars_ba4f3 76 = .ok (.aload_n 2, 1) := by decide +kernel
theorem dJ2_getChars_ba4f3_77 : decode cJ2_getChars_ba4f3 77 = .ok (.iinc 5 (-1), 3) := by decide +kernel
theorem dJ2_getChars_ba4f3_80 : decode cJ2_getChars_ba4f3 80 = .ok (.iload 5, 2) := by decide +kernel
theorem dJ2_getChars_ba4f3_82 : decode cJ2_getChars_ba4f3 82 = .ok (.getstatic 403, 3) := by decide +kernel
theorem dJ2_getChars_ba4f3_85 : decode cJ2_getChars_ba4f3 85 = .ok (.iload_n 0, 1) := by decide +kernel
theorem dJ2_getChars_ba4f3_86 : decode cJ2_getChars_ba4f3 86 = .ok (.ineg, 1) := by decide +kernel
theorem dJ2_getChars_ba4f3_87 : decode cJ2_getChars_ba4f3 87 = .ok (.baload, 1) := by decide +kernel
theorem dJ2_getChars_ba4f3_88 : decode cJ2_getChars_ba4f3 88 = .ok (.invokestatic 111, 3) := by decide +kernel
theorem dJ2_getChars_ba4f3_91 : decode cJ2_getChars_ba4f3 91 = .ok (.iload_n 0, 1) := by decide +kernel
theorem dJ2_getChars_ba4f3_92 : decode cJ2_getChars_ba4f3 92 = .ok (.bipush (-9), 2) := by decide +kernel
theorem dJ2_getChars_ba4f3_94 : decode cJ2_getChars_ba4f3 94 = .ok (.if_icmp .ge 18, 3) := by decide +kernel
theorem dJ2_getChars_ba4f3_97 : decode cJ2_getChars_ba4f3 97 = .ok (.aload_n 2, 1) := by decide +kernel
theorem dJ2_getChars_ba4f3_98 : decode cJ2_getChars_ba4f3 98 = .ok (.iinc 5 (-1), 3) := by decide +kernel
theorem dJ2_getChars_ba4f3_101 : decode cJ2_getChars_ba4f3 101 = .ok (.iload 5, 2) := by decide +kernel
theorem dJ2_getChars_ba4f3_103 : decode cJ2_getChars_ba4f3 103 = .ok (.getstatic 407, 3) := by decide +kernel
theorem dJ2_getChars_ba4f3_106 : decode cJ2_getChars_ba4f3 106 = .ok (.iload_n 0, 1) := by decide +kernel
theorem dJ2_getChars_ba4f3_107 : decode cJ2_getChars_ba4f3 107 = .ok (.ineg, 1) := by decide +kernel
theorem dJ2_getChars_ba4f3_108 : decode cJ2_getChars_ba4f3 108 = .ok (.baload, 1) := by decide +kernel
theorem dJ2_getChars_ba4f3_109 : decode cJ2_getChars_ba4f3 109 = .ok (.invokestatic 111, 3) := by decide +kernel
theorem dJ2_getChars_ba4f3_112 : decode cJ2_getChars_ba4f3 112 = .ok (.iload 6, 2) := by decide +kernel
theorem dJ2_getChars_ba4f3_114 : decode cJ2_getChars_ba4f3 114 = .ok (.ifCond .eq 14, 3) := by decide +kernel
theorem dJ2_getChars_ba4f3_117 : decode cJ2_getChars_ba4f3 117 = .ok (.aload_n 2, 1) := by decide +kernel
theorem dJ2_getChars_ba4f3_118 : decode cJ2_getChars_ba4f3 118 = .ok (.iinc 5 (-1), 3) := by decide +kernel
theorem dJ2_getChars_ba4f3_121 : decode cJ2_getChars_ba4f3 121 = .ok (.iload 5, 2) := by decide +kernel
theorem dJ2_getChars_ba4f3_123 : decode cJ2_getChars_ba4f3 123 = .ok (.bipush 45, 2) := by decide +kernel
theorem dJ2_getChars_ba4f3_125 : decode cJ2_getChars_ba4f3 125 = .ok (.invokestatic 111, 3) := by decide +kernel
theorem dJ2_getChars_ba4f3_128 : decode cJ2_getChars_ba4f3 128 = .ok (.iload 5, 2) := by decide +kernel
theorem dJ2_getChars_ba4f3_130 : decode cJ2_getChars_ba4f3 130 = .ok (.ireturn, 1) := by decide +kernel
theorem dJ2_checkIndex_2214a_0 : decode cJ2_checkIndex_2214a 0 = .ok (.iload_n 0, 1) := by decide +kernel
theorem dJ2_checkIndex_2214a_1 : decode cJ2_checkIndex_2214a 1 = .ok (.aload_n 1, 1) := by decide +kernel
theorem dJ2_checkIndex_2214a_2 : decode cJ2_checkIndex_2214a 2 = .ok (.invokestatic 48, 3) := by decide +kernel
theorem dJ2_checkIndex_2214a_5 : decode cJ2_checkIndex_2214a 5 = .ok (.invokestatic 414, 3) := by decide +kernel
theorem dJ2_checkIndex_2214a_8 : decode cJ2_checkIndex_2214a 8 = .ok (.return_, 1) := by decide +kernel
theorem dJ2_checkBoundsBeginEnd_d044e_0 : decode cJ2_checkBoundsBeginEnd_d044e 0 = .ok (.iload_n 0, 1) := by decide +kernel
theorem dJ2_checkBoundsBeginEnd_d044e_1 : decode cJ2_checkBoundsBeginEnd_d044e 1 = .ok (.iload_n 1, 1) := by decide +kernel
theorem dJ2_checkBoundsBeginEnd_d044e_2 : decode cJ2_checkBoundsBeginEnd_d044e 2 = .ok (.aload_n 2, 1) := by decide +kernel
theorem dJ2_checkBoundsBeginEnd_d044e_3 : decode cJ2_checkBoundsBeginEnd_d044e 3 = .ok (.invokestatic 48, 3) := by decide +kernel
theorem dJ2_checkBoundsBeginEnd_d044e_6 : decode cJ2_checkBoundsBeginEnd_d044e 6 = .ok (.invokestatic 241, 3) := by decide +kernel
theorem dJ2_checkBoundsBeginEnd_d044e_9 : decode cJ2_checkBoundsBeginEnd_d044e 9 = .ok (.return_, 1) := by decide +kernel
theorem dJ2_checkBoundsOffCount_d044e_0 : decode cJ2_checkBoundsOffCount_d044e 0 = .ok (.iload_n 0, 1) := by decide +kernel
theorem dJ2_checkBoundsOffCount_d044e_1 : decode cJ2_checkBoundsOffCount_d044e 1 = .ok (.iload_n 1, 1) := by decide +kernel
theorem dJ2_checkBoundsOffCount_d044e_2 : decode cJ2_checkBoundsOffCount_d044e 2 = .ok (.aload_n 2, 1) := by decide +kernel
theorem dJ2_checkBoundsOffCount_d044e_3 : decode cJ2_checkBoundsOffCount_d044e 3 = .ok (.invokestatic 48, 3) := by decide +kernel
theorem dJ2_checkBoundsOffCount_d044e_6 : decode cJ2_checkBoundsOffCount_d044e 6 = .ok (.invokestatic 419, 3) := by decide +kernel
theorem dJ2_checkBoundsOffCount_d044e_9 : decode cJ2_checkBoundsOffCount_d044e 9 = .ok (.pop, 1) := by decide +kernel
theorem dJ2_checkBoundsOffCount_d044e_10 : decode cJ2_checkBoundsOffCount_d044e 10 = .ok (.return_, 1) := by decide +kernel
theorem dJxa1e45_init_da8c8_0 : decode cJxa1e45_init_da8c8 0 = .ok (.aload_n 0, 1) := by decide +kernel
theorem dJxa1e45_init_da8c8_1 : decode cJxa1e45_init_da8c8 1 = .ok (.invokespecial 1, 3) := by decide +kernel
theorem dJxa1e45_init_da8c8_4 : decode cJxa1e45_init_da8c8 4 = .ok (.return_, 1) := by decide +kernel
theorem dJxc12de_init_da8c8_0 : decode cJxc12de_init_da8c8 0 = .ok (.aload_n 0, 1) := by decide +kernel
theorem dJxc12de_init_da8c8_1 : decode cJxc12de_init_da8c8 1 = .ok (.invokespecial 1, 3) := by decide +kernel
theorem dJxc12de_init_da8c8_4 : decode cJxc12de_init_da8c8 4 = .ok (.aload_n 0, 1) := by decide +kernel
theorem dJxc12de_init_da8c8_5 : decode cJxc12de_init_da8c8 5 = .ok (.iconst 0, 1) := by decide +kernel
theorem dJxc12de_init_da8c8_6 : decode cJxc12de_init_da8c8 6 = .ok (.putfield 7, 3) := by decide +kernel
theorem dJxc12de_init_da8c8_9 : decode cJxc12de_init_da8c8 9 = .ok (.return_, 1) := by decide +kernel
theorem dJx4a65c_init_da8c8_0 : decode cJx4a65c_init_da8c8 0 = .ok (.aload_n 0, 1) := by decide +kernel
theorem dJx4a65c_init_da8c8_1 : decode cJx4a65c_init_da8c8 1 = .ok (.invokespecial 1, 3) := by decide +kernel
theorem dJx4a65c_init_da8c8_4 : decode cJx4a65c_init_da8c8 4 = .ok (.aload_n 0, 1) := by decide +kernel
theorem dJx4a65c_init_da8c8_5 : decode cJx4a65c_init_da8c8 5 = .ok (.getstatic 39, 3) := by decide +kernel
theorem dJx4a65c_init_da8c8_8 : decode cJx4a65c_init_da8c8 8 = .ok (.putfield 9, 3) := by decide +kernel
theorem dJx4a65c_init_da8c8_11 : decode cJx4a65c_init_da8c8 11 = .ok (.return_, 1) := by decide +kernel
theorem dJx4a65c_grow_92f84_0 : decode cJx4a65c_grow_92f84 0 = .ok (.aload_n 0, 1) := by decide +kernel
theorem dJx4a65c_grow_92f84_1 : decode cJx4a65c_grow_92f84 1 = .ok (.getfield 9, 3) := by decide +kernel
theorem dJx4a65c_grow_92f84_4 : decode cJx4a65c_grow_92f84 4 = .ok (.arraylength, 1) := by decide +kernel
theorem dJx4a65c_grow_92f84_5 : decode cJx4a65c_grow_92f84 5 = .ok (.istore_n 2, 1) := by decide +kernel
theorem dJx4a65c_grow_92f84_6 : decode cJx4a65c_grow_92f84 6 = .ok (.iload_n 2, 1) := by decide +kernel
theorem dJx4a65c_grow_92f84_7 : decode cJx4a65c_grow_92f84 7 = .ok (.ifCond .gt 13, 3) := by decide +kernel
theorem dJx4a65c_grow_92f84_10 : decode cJx4a65c_grow_92f84 10 = .ok (.aload_n 0, 1) := by decide +kernel
theorem dJx4a65c_grow_92f84_11 : decode cJx4a65c_grow_92f84 11 = .ok (.getfield 9, 3) := by decide +kernel
theorem dJx4a65c_grow_92f84_14 : decode cJx4a65c_grow_92f84 14 = .ok (.getstatic 39, 3) := by decide +kernel
theorem dJx4a65c_grow_92f84_17 : decode cJx4a65c_grow_92f84 17 = .ok (.if_acmp .eq 28, 3) := by decide +kernel
theorem dJx4a65c_grow_92f84_20 : decode cJx4a65c_grow_92f84 20 = .ok (.iload_n 2, 1) := by decide +kernel
theorem dJx4a65c_grow_92f84_21 : decode cJx4a65c_grow_92f84 21 = .ok (.iload_n 1, 1) := by decide +kernel
theorem dJx4a65c_grow_92f84_22 : decode cJx4a65c_grow_92f84 22 = .ok (.iload_n 2, 1) := by decide +kernel
theorem dJx4a65c_grow_92f84_23 : decode cJx4a65c_grow_92f84 23 = .ok (.isub, 1) := by decide +kernel
theorem dJx4a65c_grow_92f84_24 : decode cJx4a65c_grow_92f84 24 = .ok (.iload_n 2, 1) := by decide +kernel
theorem dJx4a65c_grow_92f84_25 : decode cJx4a65c_grow_92f84 25 = .ok (.iconst 1, 1) := by decide +kernel
theorem dJx4a65c_grow_92f84_26 : decode cJx4a65c_grow_92f84 26 = .ok (.ishr, 1) := by decide +kernel
theorem dJx4a65c_grow_92f84_27 : decode cJx4a65c_grow_92f84 27 = .ok (.invokestatic 73, 3) := by decide +kernel
theorem dJx4a65c_grow_92f84_30 : decode cJx4a65c_grow_92f84 30 = .ok (.istore_n 3, 1) := by decide +kernel
theorem dJx4a65c_grow_92f84_31 : decode cJx4a65c_grow_92f84 31 = .ok (.aload_n 0, 1) := by decide +kernel
theorem dJx4a65c_grow_92f84_32 : decode cJx4a65c_grow_92f84 32 = .ok (.aload_n 0, 1) := by decide +kernel
theorem dJx4a65c_grow_92f84_33 : decode cJx4a65c_grow_92f84 33 = .ok (.getfield 9, 3) := by decide +kernel
theorem dJx4a65c_grow_92f84_36 : decode cJx4a65c_grow_92f84 36 = .ok (.iload_n 3, 1) := by decide +kernel
theorem dJx4a65c_grow_92f84_37 : decode cJx4a65c_grow_92f84 37 = .ok (.invokestatic 66, 3) := by decide +kernel
theorem dJx4a65c_grow_92f84_40 : decode cJx4a65c_grow_92f84 40 = .ok (.dup_x1, 1) := by decide +kernel
theorem dJx4a65c_grow_92f84_41 : decode cJx4a65c_grow_92f84 41 = .ok (.putfield 9, 3) := by decide +kernel
theorem dJx4a65c_grow_92f84_44 : decode cJx4a65c_grow_92f84 44 = .ok (.areturn, 1) := by decide +kernel
theorem dJx4a65c_grow_92f84_45 : decode cJx4a65c_grow_92f84 45 = .ok (.aload_n 0, 1) := by decide +kernel
theorem dJx4a65c_grow_92f84_46 : decode cJx4a65c_grow_92f84 46 = .ok (.bipush 10, 2) := by decide +kernel
theorem dJx4a65c_grow_92f84_48 : decode cJx4a65c_grow_92f84 48 = .ok (.iload_n 1, 1) := by decide +kernel
theorem dJx4a65c_grow_92f84_49 : decode cJx4a65c_grow_92f84 49 = .ok (.invokestatic 79, 3) := by decide +kernel
theorem dJx4a65c_grow_92f84_52 : decode cJx4a65c_grow_92f84 52 = .ok (.anewarray 7, 3) := by decide +kernel
theorem dJx4a65c_grow_92f84_55 : decode cJx4a65c_grow_92f84 55 = .ok (.dup_x1, 1) := by decide +kernel
theorem dJx4a65c_grow_92f84_56 : decode cJx4a65c_grow_92f84 56 = .ok (.putfield 9, 3) := by decide +kernel
theorem dJx4a65c_grow_92f84_59 : decode cJx4a65c_grow_92f84 59 = .ok (.areturn, 1) := by decide +kernel
theorem dJx4a65c_grow_d5877_0 : decode cJx4a65c_grow_d5877 0 = .ok (.aload_n 0, 1) := by decide +kernel
theorem dJx4a65c_grow_d5877_1 : decode cJx4a65c_grow_d5877 1 = .ok (.aload_n 0, 1) := by decide +kernel
theorem dJx4a65c_grow_d5877_2 : decode cJx4a65c_grow_d5877 2 = .ok (.getfield 48, 3) := by decide +kernel
theorem dJx4a65c_grow_d5877_5 : decode cJx4a65c_grow_d5877 5 = .ok (.iconst 1, 1) := by decide +kernel
theorem dJx4a65c_grow_d5877_6 : decode cJx4a65c_grow_d5877 6 = .ok (.iadd, 1) := by decide +kernel
theorem dJx4a65c_grow_d5877_7 : decode cJx4a65c_grow_d5877 7 = .ok (.invokevirtual 69, 3) := by decide +kernel
theorem dJx4a65c_grow_d5877_10 : decode cJx4a65c_grow_d5877 10 = .ok (.areturn, 1) := by decide +kernel
theorem dJx4a65c_size_8abf5_0 : decode cJx4a65c_size_8abf5 0 = .ok (.aload_n 0, 1) := by decide +kernel
theorem dJx4a65c_size_8abf5_1 : decode cJx4a65c_size_8abf5 1 = .ok (.getfield 48, 3) := by decide +kernel
theorem dJx4a65c_size_8abf5_4 : decode cJx4a65c_size_8abf5 4 = .ok (.ireturn, 1) := by decide +kernel
theorem dJx4a65c_elementData_915e3_0 : decode cJx4a65c_elementData_915e3 0 = .ok (.aload_n 0, 1) := by decide +kernel
theorem dJx4a65c_elementData_915e3_1 : decode cJx4a65c_elementData_915e3 1 = .ok (.getfield 9, 3) := by decide +kernel
theorem dJx4a65c_elementData_915e3_4 : decode cJx4a65c_elementData_915e3 4 = .ok (.iload_n 1, 1) := by decide +kernel
theorem dJx4a65c_elementData_915e3_5 : decode cJx4a65c_elementData_915e3 5 = .ok (.aaload, 1) := by decide +kernel
theorem dJx4a65c_elementData_915e3_6 : decode cJx4a65c_elementData_915e3 6 = .ok (.areturn, 1) := by decide +kernel
theorem dJx4a65c_get_915e3_0 : decode cJx4a65c_get_915e3 0 = .ok (.iload_n 1, 1) := by decide +kernel
theorem dJx4a65c_get_915e3_1 : decode cJx4a65c_get_915e3 1 = .ok (.aload_n 0, 1) := by decide +kernel
theorem dJx4a65c_get_915e3_2 : decode cJx4a65c_get_915e3 2 = .ok (.getfield 48, 3) := by decide +kernel
theorem dJx4a65c_get_915e3_5 : decode cJx4a65c_get_915e3 5 = .ok (.invokestatic 118, 3) := by decide +kernel
theorem dJx4a65c_get_915e3_8 : decode cJx4a65c_get_915e3 8 = .ok (.pop, 1) := by decide +kernel
theorem dJx4a65c_get_915e3_9 : decode cJx4a65c_get_915e3 9 = .ok (.aload_n 0, 1) := by decide +kernel
theorem dJx4a65c_get_915e3_10 : decode cJx4a65c_get_915e3 10 = .ok (.iload_n 1, 1) := by decide +kernel
theorem dJx4a65c_get_915e3_11 : decode cJx4a65c_get_915e3 11 = .ok (.invokevirtual 123, 3) := by decide +kernel
theorem dJx4a65c_get_915e3_14 : decode cJx4a65c_get_915e3 14 = .ok (.areturn, 1) := by decide +kernel
theorem dJx4a65c_set_bcc79_0 : decode cJx4a65c_set_bcc79 0 = .ok (.iload_n 1, 1) := by decide +kernel
theorem dJx4a65c_set_bcc79_1 : decode cJx4a65c_set_bcc79 1 = .ok (.aload_n 0, 1) := by decide +kernel
theorem dJx4a65c_set_bcc79_2 : decode cJx4a65c_set_bcc79 2 = .ok (.getfield 48, 3) := by decide +kernel
theorem dJx4a65c_set_bcc79_5 : decode cJx4a65c_set_bcc79 5 = .ok (.invokestatic 118, 3) := by decide +kernel
theorem dJx4a65c_set_bcc79_8 : decode cJx4a65c_set_bcc79 8 = .ok (.pop, 1) := by decide +kernel
theorem dJx4a65c_set_bcc79_9 : decode cJx4a65c_set_bcc79 9 = .ok (.aload_n 0, 1) := by decide +kernel
theorem dJx4a65c_set_bcc79_10 : decode cJx4a65c_set_bcc79 10 = .ok (.iload_n 1, 1) := by decide +kernel
theorem dJx4a65c_set_bcc79_11 : decode cJx4a65c_set_bcc79 11 = .ok (.invokevirtual 123, 3) := by decide +kernel
theorem dJx4a65c_set_bcc79_14 : decode cJx4a65c_set_bcc79 14 = .ok (.astore_n 3, 1) := by decide +kernel
theorem dJx4a65c_set_bcc79_15 : decode cJx4a65c_set_bcc79 15 = .ok (.aload_n 0, 1) := by decide +kernel
theorem dJx4a65c_set_bcc79_16 : decode cJx4a65c_set_bcc79 16 = .ok (.getfield 9, 3) := by decide +kernel
theorem dJx4a65c_set_bcc79_19 : decode cJx4a65c_set_bcc79 19 = .ok (.iload_n 1, 1) := by decide +kernel
theorem dJx4a65c_set_bcc79_20 : decode cJx4a65c_set_bcc79 20 = .ok (.aload_n 2, 1) := by decide +kernel
theorem dJx4a65c_set_bcc79_21 : decode cJx4a65c_set_bcc79 21 = .ok (.aastore, 1) := by decide +kernel
theorem dJx4a65c_set_bcc79_22 : decode cJx4a65c_set_bcc79 22 = .ok (.aload_n 3, 1) := by decide +kernel
theorem dJx4a65c_set_bcc79_23 : decode cJx4a65c_set_bcc79 23 = .ok (.areturn, 1) := by decide +kernel
theorem dJx4a65c_add_72be8_0 : decode cJx4a65c_add_72be8 0 = .ok (.iload_n 3, 1) := by decide +kernel
theorem dJx4a65c_add_72be8_1 : decode cJx4a65c_add_72be8 1 = .ok (.aload_n 2, 1) := by decide +kernel
theorem dJx4a65c_add_72be8_2 : decode cJx4a65c_add_72be8 2 = .ok (.arraylength, 1) := by decide +kernel
theorem dJx4a65c_add_72be8_3 : decode cJx4a65c_add_72be8 3 = .ok (.if_icmp .ne 8, 3) := by decide +kernel
theorem dJx4a65c_add_72be8_6 : decode cJx4a65c_add_72be8 6 = .ok (.aload_n 0, 1) := by decide +kernel
theorem dJx4a65c_add_72be8_7 : decode cJx4a65c_add_72be8 7 = .ok (.invokevirtual 129, 3) := by decide +kernel
theorem dJx4a65c_add_72be8_10 : decode cJx4a65c_add_72be8 10 = .ok (.astore_n 2, 1) := by decide +kernel
theorem dJx4a65c_add_72be8_11 : decode cJx4a65c_add_72be8 11 = .ok (.aload_n 2, 1) := by decide +kernel
theorem dJx4a65c_add_72be8_12 : decode cJx4a65c_add_72be8 12 = .ok (.iload_n 3, 1) := by decide +kernel
theorem dJx4a65c_add_72be8_13 : decode cJx4a65c_add_72be8 13 = .ok (.aload_n 1, 1) := by decide +kernel
theorem dJx4a65c_add_72be8_14 : decode cJx4a65c_add_72be8 14 = .ok (.aastore, 1) := by decide +kernel
theorem dJx4a65c_add_72be8_15 : decode cJx4a65c_add_72be8 15 = .ok (.aload_n 0, 1) := by decide +kernel
theorem dJx4a65c_add_72be8_16 : decode cJx4a65c_add_72be8 16 = .ok (.iload_n 3, 1) := by decide +kernel
theorem dJx4a65c_add_72be8_17 : decode cJx4a65c_add_72be8 17 = .ok (.iconst 1, 1) := by decide +kernel
theorem dJx4a65c_add_72be8_18 : decode cJx4a65c_add_72be8 18 = .ok (.iadd, 1) := by decide +kernel
theorem dJx4a65c_add_72be8_19 : decode cJx4a65c_add_72be8 19 = .ok (.putfield 48, 3) := by decide +kernel
theorem dJx4a65c_add_72be8_22 : decode cJx4a65c_add_72be8 22 = .ok (.return_, 1) := by decide +kernel
theorem dJx4a65c_add_9ea2d_0 : decode cJx4a65c_add_9ea2d 0 = .ok (.aload_n 0, 1) := by decide +kernel
theorem dJx4a65c_add_9ea2d_1 : decode cJx4a65c_add_9ea2d 1 = .ok (.dup, 1) := by decide +kernel
theorem dJx4a65c_add_9ea2d_2 : decode cJx4a65c_add_9ea2d 2 = .ok (.getfield 63, 3) := by decide +kernel
theorem dJx4a65c_add_9ea2d_5 : decode cJx4a65c_add_9ea2d 5 = .ok (.iconst 1, 1) := by decide +kernel
theorem dJx4a65c_add_9ea2d_6 : decode cJx4a65c_add_9ea2d 6 = .ok (.iadd, 1) := by decide +kernel
theorem dJx4a65c_add_9ea2d_7 : decode cJx4a65c_add_9ea2d 7 = .ok (.putfield 63, 3) := by decide +kernel
theorem dJx4a65c_add_9ea2d_10 : decode cJx4a65c_add_9ea2d 10 = .ok (.aload_n 0, 1) := by decide +kernel
theorem dJx4a65c_add_9ea2d_11 : decode cJx4a65c_add_9ea2d 11 = .ok (.aload_n 1, 1) := by decide +kernel
theorem dJx4a65c_add_9ea2d_12 : decode cJx4a65c_add_9ea2d 12 = .ok (.aload_n 0, 1) := by decide +kernel
theorem dJx4a65c_add_9ea2d_13 : decode cJx4a65c_add_9ea2d 13 = .ok (.getfield 9, 3) := by decide +kernel
theorem dJx4a65c_add_9ea2d_16 : decode cJx4a65c_add_9ea2d 16 = .ok (.aload_n 0, 1) := by decide +kernel
theorem dJx4a65c_add_9ea2d_17 : decode cJx4a65c_add_9ea2d 17 = .ok (.getfield 48, 3) := by decide +kernel
theorem dJx4a65c_add_9ea2d_20 : decode cJx4a65c_add_9ea2d 20 = .ok (.invokevirtual 131, 3) := by decide +kernel
theorem dJx4a65c_add_9ea2d_23 : decode cJx4a65c_add_9ea2d 23 = .ok (.iconst 1, 1) := by decide +kernel
theorem dJx4a65c_add_9ea2d_24 : decode cJx4a65c_add_9ea2d 24 = .ok (.ireturn, 1) := by decide +kernel
theorem dJx4a65c_add_7a177_0 : decode cJx4a65c_add_7a177 0 = .ok (.aload_n 0, 1) := by decide +kernel
theorem dJx4a65c_add_7a177_1 : decode cJx4a65c_add_7a177 1 = .ok (.iload_n 1, 1) := by decide +kernel
theorem dJx4a65c_add_7a177_2 : decode cJx4a65c_add_7a177 2 = .ok (.invokevirtual 135, 3) := by decide +kernel
theorem dJx4a65c_add_7a177_5 : decode cJx4a65c_add_7a177 5 = .ok (.aload_n 0, 1) := by decide +kernel
theorem dJx4a65c_add_7a177_6 : decode cJx4a65c_add_7a177 6 = .ok (.dup, 1) := by decide +kernel
theorem dJx4a65c_add_7a177_7 : decode cJx4a65c_add_7a177 7 = .ok (.getfield 63, 3) := by decide +kernel
theorem dJx4a65c_add_7a177_10 : decode cJx4a65c_add_7a177 10 = .ok (.iconst 1, 1) := by decide +kernel
theorem dJx4a65c_add_7a177_11 : decode cJx4a65c_add_7a177 11 = .ok (.iadd, 1) := by decide +kernel
theorem dJx4a65c_add_7a177_12 : decode cJx4a65c_add_7a177 12 = .ok (.putfield 63, 3) := by decide +kernel
theorem dJx4a65c_add_7a177_15 : decode cJx4a65c_add_7a177 15 = .ok (.aload_n 0, 1) := by decide +kernel
theorem dJx4a65c_add_7a177_16 : decode cJx4a65c_add_7a177 16 = .ok (.getfield 48, 3) := by decide +kernel
theorem dJx4a65c_add_7a177_19 : decode cJx4a65c_add_7a177 19 = .ok (.dup, 1) := by decide +kernel
theorem dJx4a65c_add_7a177_20 : decode cJx4a65c_add_7a177 20 = .ok (.istore_n 3, 1) := by decide +kernel
theorem dJx4a65c_add_7a177_21 : decode cJx4a65c_add_7a177 21 = .ok (.aload_n 0, 1) := by decide +kernel
theorem dJx4a65c_add_7a177_22 : decode cJx4a65c_add_7a177 22 = .ok (.getfield 9, 3) := by decide +kernel
theorem dJx4a65c_add_7a177_25 : decode cJx4a65c_add_7a177 25 = .ok (.dup, 1) := by decide +kernel
theorem dJx4a65c_add_7a177_26 : decode cJx4a65c_add_7a177 26 = .ok (.astore 4, 2) := by decide +kernel
theorem dJx4a65c_add_7a177_28 : decode cJx4a65c_add_7a177 28 = .ok (.arraylength, 1) := by decide +kernel
theorem dJx4a65c_add_7a177_29 : decode cJx4a65c_add_7a177 29 = .ok (.if_icmp .ne 9, 3) := by decide +kernel
theorem dJx4a65c_add_7a177_32 : decode cJx4a65c_add_7a177 32 = .ok (.aload_n 0, 1) := by decide +kernel
theorem dJx4a65c_add_7a177_33 : decode cJx4a65c_add_7a177 33 = .ok (.invokevirtual 129, 3) := by decide +kernel
theorem dJx4a65c_add_7a177_36 : decode cJx4a65c_add_7a177 36 = .ok (.astore 4, 2) := by decide +kernel
theorem dJx4a65c_add_7a177_38 : decode cJx4a65c_add_7a177 38 = .ok (.aload 4, 2) := by decide +kernel
theorem dJx4a65c_add_7a177_40 : decode cJx4a65c_add_7a177 40 = .ok (.iload_n 1, 1) := by decide +kernel
theorem dJx4a65c_add_7a177_41 : decode cJx4a65c_add_7a177 41 = .ok (.aload 4, 2) := by decide +kernel
theorem dJx4a65c_add_7a177_43 : decode cJx4a65c_add_7a177 43 = .ok (.iload_n 1, 1) := by decide +kernel
theorem dJx4a65c_add_7a177_44 : decode cJx4a65c_add_7a177 44 = .ok (.iconst 1, 1) := by decide +kernel
theorem dJx4a65c_add_7a177_45 : decode cJx4a65c_add_7a177 45 = .ok (.iadd, 1) := by decide +kernel
theorem dJx4a65c_add_7a177_46 : decode cJx4a65c_add_7a177 46 = .ok (.iload_n 3, 1) := by decide +kernel
theorem dJx4a65c_add_7a177_47 : decode cJx4a65c_add_7a177 47 = .ok (.iload_n 1, 1) := by decide +kernel
theorem dJx4a65c_add_7a177_48 : decode cJx4a65c_add_7a177 48 = .ok (.isub, 1) := by decide +kernel
theorem dJx4a65c_add_7a177_49 : decode cJx4a65c_add_7a177 49 = .ok (.invokestatic 112, 3) := by decide +kernel
theorem dJx4a65c_add_7a177_52 : decode cJx4a65c_add_7a177 52 = .ok (.aload 4, 2) := by decide +kernel
theorem dJx4a65c_add_7a177_54 : decode cJx4a65c_add_7a177 54 = .ok (.iload_n 1, 1) := by decide +kernel
theorem dJx4a65c_add_7a177_55 : decode cJx4a65c_add_7a177 55 = .ok (.aload_n 2, 1) := by decide +kernel
theorem dJx4a65c_add_7a177_56 : decode cJx4a65c_add_7a177 56 = .ok (.aastore, 1) := by decide +kernel
theorem dJx4a65c_add_7a177_57 : decode cJx4a65c_add_7a177 57 = .ok (.aload_n 0, 1) := by decide +kernel
theorem dJx4a65c_add_7a177_58 : decode cJx4a65c_add_7a177 58 = .ok (.iload_n 3, 1) := by decide +kernel
theorem dJx4a65c_add_7a177_59 : decode cJx4a65c_add_7a177 59 = .ok (.iconst 1, 1) := by decide +kernel
theorem dJx4a65c_add_7a177_60 : decode cJx4a65c_add_7a177 60 = .ok (.iadd, 1) := by decide +kernel
theorem dJx4a65c_add_7a177_61 : decode cJx4a65c_add_7a177 61 = .ok (.putfield 48, 3) := by decide +kernel
theorem dJx4a65c_add_7a177_64 : decode cJx4a65c_add_7a177 64 = .ok (.return_, 1) := by decide +kernel
theorem dJx4a65c_rangeCheckForAdd_d00df_0 : decode cJx4a65c_rangeCheckForAdd_d00df 0 = .ok (.iload_n 1, 1) := by decide +kernel
theorem dJx4a65c_rangeCheckForAdd_d00df_1 : decode cJx4a65c_rangeCheckForAdd_d00df 1 = .ok (.aload_n 0, 1) := by decide +kernel
theorem dJx4a65c_rangeCheckForAdd_d00df_2 : decode cJx4a65c_rangeCheckForAdd_d00df 2 = .ok (.getfield 48, 3) := by decide +kernel
theorem dJx4a65c_rangeCheckForAdd_d00df_5 : decode cJx4a65c_rangeCheckForAdd_d00df 5 = .ok (.if_icmp .gt 7, 3) := by decide +kernel
theorem dJx4a65c_rangeCheckForAdd_d00df_8 : decode cJx4a65c_rangeCheckForAdd_d00df 8 = .ok (.iload_n 1, 1) := by decide +kernel
theorem dJx4a65c_rangeCheckForAdd_d00df_9 : decode cJx4a65c_rangeCheckForAdd_d00df 9 = .ok (.ifCond .ge 16, 3) := by decide +kernel
theorem dJx4a65c_rangeCheckForAdd_d00df_12 : decode cJx4a65c_rangeCheckForAdd_d00df 12 = .ok (.new 187, 3) := by decide +kernel
theorem dJx4a65c_rangeCheckForAdd_d00df_15 : decode cJx4a65c_rangeCheckForAdd_d00df 15 = .ok (.dup, 1) := by decide +kernel
theorem dJx4a65c_rangeCheckForAdd_d00df_16 : decode cJx4a65c_rangeCheckForAdd_d00df 16 = .ok (.aload_n 0, 1) := by decide +kernel
theorem dJx4a65c_rangeCheckForAdd_d00df_17 : decode cJx4a65c_rangeCheckForAdd_d00df 17 = .ok (.iload_n 1, 1) := by decide +kernel
theorem dJx4a65c_rangeCheckForAdd_d00df_18 : decode cJx4a65c_rangeCheckForAdd_d00df 18 = .ok (.invokevirtual 198, 3) := by decide +kernel
theorem dJx4a65c_rangeCheckForAdd_d00df_21 : decode cJx4a65c_rangeCheckForAdd_d00df 21 = .ok (.invokespecial 193, 3) := by decide +kernel
theorem dJx4a65c_rangeCheckForAdd_d00df_24 : decode cJx4a65c_rangeCheckForAdd_d00df 24 = .ok (.athrow, 1) := by decide +kernel
theorem dJx4a65c_rangeCheckForAdd_d00df_25 : decode cJx4a65c_rangeCheckForAdd_d00df 25 = .ok (.return_, 1) := by decide +kernel
theorem dJ7_fill_53178_0 : decode cJ7_fill_53178 0 = .ok (.iconst 0, 1) := by decide +kernel
theorem dJ7_fill_53178_1 : decode cJ7_fill_53178 1 = .ok (.istore_n 2, 1) := by decide +kernel
theorem dJ7_fill_53178_2 : decode cJ7_fill_53178 2 = .ok (.aload_n 0, 1) := by decide +kernel
theorem dJ7_fill_53178_3 : decode cJ7_fill_53178 3 = .ok (.arraylength, 1) := by decide +kernel
theorem dJ7_fill_53178_4 : decode cJ7_fill_53178 4 = .ok (.istore_n 3, 1) := by decide +kernel
theorem dJ7_fill_53178_5 : decode cJ7_fill_53178 5 = .ok (.iload_n 2, 1) := by decide +kernel
theorem dJ7_fill_53178_6 : decode cJ7_fill_53178 6 = .ok (.iload_n 3, 1) := by decide +kernel
theorem dJ7_fill_53178_7 : decode cJ7_fill_53178 7 = .ok (.if_icmp .ge 13, 3) := by decide +kernel
theorem dJ7_fill_53178_10 : decode cJ7_fill_53178 10 = .ok (.aload_n 0, 1) := by decide +kernel
theorem dJ7_fill_53178_11 : decode cJ7_fill_53178 11 = .ok (.iload_n 2, 1) := by decide +kernel
theorem dJ7_fill_53178_12 : decode cJ7_fill_53178 12 = .ok (.iload_n 1, 1) := by decide +kernel
theorem dJ7_fill_53178_13 : decode cJ7_fill_53178 13 = .ok (.iastore, 1) := by decide +kernel
theorem dJ7_fill_53178_14 : decode cJ7_fill_53178 14 = .ok (.iinc 2 1, 3) := by decide +kernel
theorem dJ7_fill_53178_17 : decode cJ7_fill_53178 17 = .ok (.goto (-12), 3) := by decide +kernel
theorem dJ7_fill_53178_20 : decode cJ7_fill_53178 20 = .ok (.return_, 1) := by decide +kernel
theorem dJ7_copyOf_1904c_0 : decode cJ7_copyOf_1904c 0 = .ok (.aload_n 0, 1) := by decide +kernel
theorem dJ7_copyOf_1904c_1 : decode cJ7_copyOf_1904c 1 = .ok (.iload_n 1, 1) := by decide +kernel
theorem dJ7_copyOf_1904c_2 : decode cJ7_copyOf_1904c 2 = .ok (.aload_n 0, 1) := by decide +kernel
theorem dJ7_copyOf_1904c_3 : decode cJ7_copyOf_1904c 3 = .ok (.invokevirtual 86, 3) := by decide +kernel
theorem dJ7_copyOf_1904c_6 : decode cJ7_copyOf_1904c 6 = .ok (.invokestatic 300, 3) := by decide +kernel
theorem dJ7_copyOf_1904c_9 : decode cJ7_copyOf_1904c 9 = .ok (.areturn, 1) := by decide +kernel
theorem dJ7_copyOf_6403c_0 : decode cJ7_copyOf_6403c 0 = .ok (.aload_n 2, 1) := by decide +kernel
theorem dJ7_copyOf_6403c_1 : decode cJ7_copyOf_6403c 1 = .ok (.ldc 110, 2) := by decide +kernel
theorem dJ7_copyOf_6403c_3 : decode cJ7_copyOf_6403c 3 = .ok (.if_acmp .ne 10, 3) := by decide +kernel
theorem dJ7_copyOf_6403c_6 : decode cJ7_copyOf_6403c 6 = .ok (.iload_n 1, 1) := by decide +kernel
theorem dJ7_copyOf_6403c_7 : decode cJ7_copyOf_6403c 7 = .ok (.anewarray 2, 3) := by decide +kernel
theorem dJ7_copyOf_6403c_10 : decode cJ7_copyOf_6403c 10 = .ok (.goto 14, 3) := by decide +kernel
theorem dJ7_copyOf_6403c_13 : decode cJ7_copyOf_6403c 13 = .ok (.aload_n 2, 1) := by decide +kernel
theorem dJ7_copyOf_6403c_14 : decode cJ7_copyOf_6403c 14 = .ok (.invokevirtual 90, 3) := by decide +kernel
theorem dJ7_copyOf_6403c_17 : decode cJ7_copyOf_6403c 17 = .ok (.iload_n 1, 1) := by decide +kernel
theorem dJ7_copyOf_6403c_18 : decode cJ7_copyOf_6403c 18 = .ok (.invokestatic 95, 3) := by decide +kernel
theorem dJ7_copyOf_6403c_21 : decode cJ7_copyOf_6403c 21 = .ok (.checkcast 110, 3) := by decide +kernel
theorem dJ7_copyOf_6403c_24 : decode cJ7_copyOf_6403c 24 = .ok (.astore_n 3, 1) := by decide +kernel
theorem dJ7_copyOf_6403c_25 : decode cJ7_copyOf_6403c 25 = .ok (.aload_n 0, 1) := by decide +kernel
theorem dJ7_copyOf_6403c_26 : decode cJ7_copyOf_6403c 26 = .ok (.iconst 0, 1) := by decide +kernel
theorem dJ7_copyOf_6403c_27 : decode cJ7_copyOf_6403c 27 = .ok (.aload_n 3, 1) := by decide +kernel
theorem dJ7_copyOf_6403c_28 : decode cJ7_copyOf_6403c 28 = .ok (.iconst 0, 1) := by decide +kernel
theorem dJ7_copyOf_6403c_29 : decode cJ7_copyOf_6403c 29 = .ok (.aload_n 0, 1) := by decide +kernel
theorem dJ7_copyOf_6403c_30 : decode cJ7_copyOf_6403c 30 = .ok (.arraylength, 1) := by decide +kernel
theorem dJ7_copyOf_6403c_31 : decode cJ7_copyOf_6403c 31 = .ok (.iload_n 1, 1) := by decide +kernel
theorem dJ7_copyOf_6403c_32 : decode cJ7_copyOf_6403c 32 = .ok (.invokestatic 304, 3) := by decide +kernel
theorem dJ7_copyOf_6403c_35 : decode cJ7_copyOf_6403c 35 = .ok (.invokestatic 150, 3) := by decide +kernel
theorem dJ7_copyOf_6403c_38 : decode cJ7_copyOf_6403c 38 = .ok (.aload_n 3, 1) := by decide +kernel
theorem dJ7_copyOf_6403c_39 : decode cJ7_copyOf_6403c 39 = .ok (.areturn, 1) := by decide +kernel
theorem dJ7_copyOf_9075b_0 : decode cJ7_copyOf_9075b 0 = .ok (.iload_n 1, 1) := by decide +kernel
theorem dJ7_copyOf_9075b_1 : decode cJ7_copyOf_9075b 1 = .ok (.aload_n 0, 1) := by decide +kernel
theorem dJ7_copyOf_9075b_2 : decode cJ7_copyOf_9075b 2 = .ok (.arraylength, 1) := by decide +kernel
theorem dJ7_copyOf_9075b_3 : decode cJ7_copyOf_9075b 3 = .ok (.if_icmp .ne 11, 3) := by decide +kernel
theorem dJ7_copyOf_9075b_6 : decode cJ7_copyOf_9075b 6 = .ok (.aload_n 0, 1) := by decide +kernel
theorem dJ7_copyOf_9075b_7 : decode cJ7_copyOf_9075b 7 = .ok (.invokevirtual 310, 3) := by decide +kernel
theorem dJ7_copyOf_9075b_10 : decode cJ7_copyOf_9075b 10 = .ok (.checkcast 311, 3) := by decide +kernel
theorem dJ7_copyOf_9075b_13 : decode cJ7_copyOf_9075b 13 = .ok (.areturn, 1) := by decide +kernel
theorem dJ7_copyOf_9075b_14 : decode cJ7_copyOf_9075b 14 = .ok (.iload_n 1, 1) := by decide +kernel
theorem dJ7_copyOf_9075b_15 : decode cJ7_copyOf_9075b 15 = .ok (.newarray .byte, 2) := by decide +kernel
theorem dJ7_copyOf_9075b_17 : decode cJ7_copyOf_9075b 17 = .ok (.astore_n 2, 1) := by decide +kernel
theorem dJ7_copyOf_9075b_18 : decode cJ7_copyOf_9075b 18 = .ok (.aload_n 0, 1) := by decide +kernel
theorem dJ7_copyOf_9075b_19 : decode cJ7_copyOf_9075b 19 = .ok (.iconst 0, 1) := by decide +kernel
theorem dJ7_copyOf_9075b_20 : decode cJ7_copyOf_9075b 20 = .ok (.aload_n 2, 1) := by decide +kernel
theorem dJ7_copyOf_9075b_21 : decode cJ7_copyOf_9075b 21 = .ok (.iconst 0, 1) := by decide +kernel
theorem dJ7_copyOf_9075b_22 : decode cJ7_copyOf_9075b 22 = .ok (.aload_n 0, 1) := by decide +kernel
theorem dJ7_copyOf_9075b_23 : decode cJ7_copyOf_9075b 23 = .ok (.arraylength, 1) := by decide +kernel
theorem dJ7_copyOf_9075b_24 : decode cJ7_copyOf_9075b 24 = .ok (.iload_n 1, 1) := by decide +kernel
theorem dJ7_copyOf_9075b_25 : decode cJ7_copyOf_9075b 25 = .ok (.invokestatic 304, 3) := by decide +kernel
theorem dJ7_copyOf_9075b_28 : decode cJ7_copyOf_9075b 28 = .ok (.invokestatic 150, 3) := by decide +kernel
theorem dJ7_copyOf_9075b_31 : decode cJ7_copyOf_9075b 31 = .ok (.aload_n 2, 1) := by decide +kernel
theorem dJ7_copyOf_9075b_32 : decode cJ7_copyOf_9075b 32 = .ok (.areturn, 1) := by decide +kernel
theorem dJ7_copyOf_59c91_0 : decode cJ7_copyOf_59c91 0 = .ok (.iload_n 1, 1) := by decide +kernel
theorem dJ7_copyOf_59c91_1 : decode cJ7_copyOf_59c91 1 = .ok (.aload_n 0, 1) := by decide +kernel
theorem dJ7_copyOf_59c91_2 : decode cJ7_copyOf_59c91 2 = .ok (.arraylength, 1) := by decide +kernel
theorem dJ7_copyOf_59c91_3 : decode cJ7_copyOf_59c91 3 = .ok (.if_icmp .ne 11, 3) := by decide +kernel
theorem dJ7_copyOf_59c91_6 : decode cJ7_copyOf_59c91 6 = .ok (.aload_n 0, 1) := by decide +kernel
theorem dJ7_copyOf_59c91_7 : decode cJ7_copyOf_59c91 7 = .ok (.invokevirtual 316, 3) := by decide +kernel
theorem dJ7_copyOf_59c91_10 : decode cJ7_copyOf_59c91 10 = .ok (.checkcast 317, 3) := by decide +kernel
theorem dJ7_copyOf_59c91_13 : decode cJ7_copyOf_59c91 13 = .ok (.areturn, 1) := by decide +kernel
theorem dJ7_copyOf_59c91_14 : decode cJ7_copyOf_59c91 14 = .ok (.iload_n 1, 1) := by decide +kernel
theorem dJ7_copyOf_59c91_15 : decode cJ7_copyOf_59c91 15 = .ok (.newarray .int, 2) := by decide +kernel
theorem dJ7_copyOf_59c91_17 : decode cJ7_copyOf_59c91 17 = .ok (.astore_n 2, 1) := by decide +kernel
theorem dJ7_copyOf_59c91_18 : decode cJ7_copyOf_59c91 18 = .ok (.aload_n 0, 1) := by decide +kernel
theorem dJ7_copyOf_59c91_19 : decode cJ7_copyOf_59c91 19 = .ok (.iconst 0, 1) := by decide +kernel
theorem dJ7_copyOf_59c91_20 : decode cJ7_copyOf_59c91 20 = .ok (.aload_n 2, 1) := by decide +kernel
theorem dJ7_copyOf_59c91_21 : decode cJ7_copyOf_59c91 21 = .ok (.iconst 0, 1) := by decide +kernel
theorem dJ7_copyOf_59c91_22 : decode cJ7_copyOf_59c91 22 = .ok (.aload_n 0, 1) := by decide +kernel
theorem dJ7_copyOf_59c91_23 : decode cJ7_copyOf_59c91 23 = .ok (.arraylength, 1) := by decide +kernel
theorem dJ7_copyOf_59c91_24 : decode cJ7_copyOf_59c91 24 = .ok (.iload_n 1, 1) := by decide +kernel
theorem dJ7_copyOf_59c91_25 : decode cJ7_copyOf_59c91 25 = .ok (.invokestatic 304, 3) := by decide +kernel
theorem dJ7_copyOf_59c91_28 : decode cJ7_copyOf_59c91 28 = .ok (.invokestatic 150, 3) := by decide +kernel
theorem dJ7_copyOf_59c91_31 : decode cJ7_copyOf_59c91 31 = .ok (.aload_n 2, 1) := by decide +kernel
theorem dJ7_copyOf_59c91_32 : decode cJ7_copyOf_59c91 32 = .ok (.areturn, 1) := by decide +kernel
theorem dJ7_checkLength_df160_0 : decode cJ7_checkLength_df160 0 = .ok (.iload_n 1, 1) := by decide +kernel
theorem dJ7_checkLength_df160_1 : decode cJ7_checkLength_df160 1 = .ok (.iload_n 0, 1) := by decide +kernel
theorem dJ7_checkLength_df160_2 : decode cJ7_checkLength_df160 2 = .ok (.if_icmp .ge 35, 3) := by decide +kernel
theorem dJ7_checkLength_df160_5 : decode cJ7_checkLength_df160 5 = .ok (.new 43, 3) := by decide +kernel
theorem dJ7_checkLength_df160_8 : decode cJ7_checkLength_df160 8 = .ok (.dup, 1) := by decide +kernel
theorem dJ7_checkLength_df160_9 : decode cJ7_checkLength_df160 9 = .ok (.new 45, 3) := by decide +kernel
theorem dJ7_checkLength_df160_12 : decode cJ7_checkLength_df160 12 = .ok (.dup, 1) := by decide +kernel
theorem dJ7_checkLength_df160_13 : decode cJ7_checkLength_df160 13 = .ok (.invokespecial 47, 3) := by decide +kernel
theorem dJ7_checkLength_df160_16 : decode cJ7_checkLength_df160 16 = .ok (.iload_n 0, 1) := by decide +kernel
theorem dJ7_checkLength_df160_17 : decode cJ7_checkLength_df160 17 = .ok (.invokevirtual 54, 3) := by decide +kernel
theorem dJ7_checkLength_df160_20 : decode cJ7_checkLength_df160 20 = .ok (.ldc_w 337, 3) := by decide +kernel
theorem dJ7_checkLength_df160_23 : decode cJ7_checkLength_df160 23 = .ok (.invokevirtual 50, 3) := by decide +kernel
theorem dJ7_checkLength_df160_26 : decode cJ7_checkLength_df160 26 = .ok (.iload_n 1, 1) := by decide +kernel
theorem dJ7_checkLength_df160_27 : decode cJ7_checkLength_df160 27 = .ok (.invokevirtual 54, 3) := by decide +kernel
theorem dJ7_checkLength_df160_30 : decode cJ7_checkLength_df160 30 = .ok (.invokevirtual 61, 3) := by decide +kernel
theorem dJ7_checkLength_df160_33 : decode cJ7_checkLength_df160 33 = .ok (.invokespecial 65, 3) := by decide +kernel
theorem dJ7_checkLength_df160_36 : decode cJ7_checkLength_df160 36 = .ok (.athrow, 1) := by decide +kernel
theorem dJ7_checkLength_df160_37 : decode cJ7_checkLength_df160 37 = .ok (.return_, 1) := by decide +kernel
theorem dJ7_copyOfRange_39247_0 : decode cJ7_copyOfRange_39247 0 = .ok (.iload_n 1, 1) := by decide +kernel
theorem dJ7_copyOfRange_39247_1 : decode cJ7_copyOfRange_39247 1 = .ok (.ifCond .ne 9, 3) := by decide +kernel
theorem dJ7_copyOfRange_39247_4 : decode cJ7_copyOfRange_39247 4 = .ok (.iload_n 2, 1) := by decide +kernel
theorem dJ7_copyOfRange_39247_5 : decode cJ7_copyOfRange_39247 5 = .ok (.aload_n 0, 1) := by decide +kernel
theorem dJ7_copyOfRange_39247_6 : decode cJ7_copyOfRange_39247 6 = .ok (.arraylength, 1) := by decide +kernel
theorem dJ7_copyOfRange_39247_7 : decode cJ7_copyOfRange_39247 7 = .ok (.if_icmp .eq 10, 3) := by decide +kernel
theorem dJ7_copyOfRange_39247_10 : decode cJ7_copyOfRange_39247 10 = .ok (.aload_n 0, 1) := by decide +kernel
theorem dJ7_copyOfRange_39247_11 : decode cJ7_copyOfRange_39247 11 = .ok (.iload_n 1, 1) := by decide +kernel
theorem dJ7_copyOfRange_39247_12 : decode cJ7_copyOfRange_39247 12 = .ok (.iload_n 2, 1) := by decide +kernel
theorem dJ7_copyOfRange_39247_13 : decode cJ7_copyOfRange_39247 13 = .ok (.invokestatic 339, 3) := by decide +kernel
theorem dJ7_copyOfRange_39247_16 : decode cJ7_copyOfRange_39247 16 = .ok (.areturn, 1) := by decide +kernel
theorem dJ7_copyOfRange_39247_17 : decode cJ7_copyOfRange_39247 17 = .ok (.aload_n 0, 1) := by decide +kernel
theorem dJ7_copyOfRange_39247_18 : decode cJ7_copyOfRange_39247 18 = .ok (.invokevirtual 310, 3) := by decide +kernel
theorem dJ7_copyOfRange_39247_21 : decode cJ7_copyOfRange_39247 21 = .ok (.checkcast 311, 3) := by decide +kernel
theorem dJ7_copyOfRange_39247_24 : decode cJ7_copyOfRange_39247 24 = .ok (.areturn, 1) := by decide +kernel
theorem dJ7_copyOfRangeByte_39247_0 : decode cJ7_copyOfRangeByte_39247 0 = .ok (.iload_n 1, 1) := by decide +kernel
theorem dJ7_copyOfRangeByte_39247_1 : decode cJ7_copyOfRangeByte_39247 1 = .ok (.iload_n 2, 1) := by decide +kernel
theorem dJ7_copyOfRangeByte_39247_2 : decode cJ7_copyOfRangeByte_39247 2 = .ok (.invokestatic 343, 3) := by decide +kernel
theorem dJ7_copyOfRangeByte_39247_5 : decode cJ7_copyOfRangeByte_39247 5 = .ok (.iload_n 2, 1) := by decide +kernel
theorem dJ7_copyOfRangeByte_39247_6 : decode cJ7_copyOfRangeByte_39247 6 = .ok (.iload_n 1, 1) := by decide +kernel
theorem dJ7_copyOfRangeByte_39247_7 : decode cJ7_copyOfRangeByte_39247 7 = .ok (.isub, 1) := by decide +kernel
theorem dJ7_copyOfRangeByte_39247_8 : decode cJ7_copyOfRangeByte_39247 8 = .ok (.istore_n 3, 1) := by decide +kernel
theorem dJ7_copyOfRangeByte_39247_9 : decode cJ7_copyOfRangeByte_39247 9 = .ok (.iload_n 3, 1) := by decide +kernel
theorem dJ7_copyOfRangeByte_39247_10 : decode cJ7_copyOfRangeByte_39247 10 = .ok (.newarray .byte, 2) := by decide +kernel
theorem dJ7_copyOfRangeByte_39247_12 : decode cJ7_copyOfRangeByte_39247 12 = .ok (.astore 4, 2) := by decide +kernel
theorem dJ7_copyOfRangeByte_39247_14 : decode cJ7_copyOfRangeByte_39247 14 = .ok (.aload_n 0, 1) := by decide +kernel
theorem dJ7_copyOfRangeByte_39247_15 : decode cJ7_copyOfRangeByte_39247 15 = .ok (.iload_n 1, 1) := by decide +kernel
theorem dJ7_copyOfRangeByte_39247_16 : decode cJ7_copyOfRangeByte_39247 16 = .ok (.aload 4, 2) := by decide +kernel
theorem dJ7_copyOfRangeByte_39247_18 : decode cJ7_copyOfRangeByte_39247 18 = .ok (.iconst 0, 1) := by decide +kernel
theorem dJ7_copyOfRangeByte_39247_19 : decode cJ7_copyOfRangeByte_39247 19 = .ok (.aload_n 0, 1) := by decide +kernel
theorem dJ7_copyOfRangeByte_39247_20 : decode cJ7_copyOfRangeByte_39247 20 = .ok (.arraylength, 1) := by decide +kernel
theorem dJ7_copyOfRangeByte_39247_21 : decode cJ7_copyOfRangeByte_39247 21 = .ok (.iload_n 1, 1) := by decide +kernel
theorem dJ7_copyOfRangeByte_39247_22 : decode cJ7_copyOfRangeByte_39247 22 = .ok (.isub, 1) := by decide +kernel
theorem dJ7_copyOfRangeByte_39247_23 : decode cJ7_copyOfRangeByte_39247 23 = .ok (.iload_n 3, 1) := by decide +kernel
theorem dJ7_copyOfRangeByte_39247_24 : decode cJ7_copyOfRangeByte_39247 24 = .ok (.invokestatic 304, 3) := by decide +kernel
theorem dJ7_copyOfRangeByte_39247_27 : decode cJ7_copyOfRangeByte_39247 27 = .ok (.invokestatic 150, 3) := by decide +kernel
theorem dJ7_copyOfRangeByte_39247_30 : decode cJ7_copyOfRangeByte_39247 30 = .ok (.aload 4, 2) := by decide +kernel
theorem dJ7_copyOfRangeByte_39247_32 : decode cJ7_copyOfRangeByte_39247 32 = .ok (.areturn, 1) := by decide +kernel
theorem dJ15_checkIndex_7cf53_0 : decode cJ15_checkIndex_7cf53 0 = .ok (.iload_n 0, 1) := by decide +kernel
theorem dJ15_checkIndex_7cf53_1 : decode cJ15_checkIndex_7cf53 1 = .ok (.iload_n 1, 1) := by decide +kernel
theorem dJ15_checkIndex_7cf53_2 : decode cJ15_checkIndex_7cf53 2 = .ok (.aconst_null, 1) := by decide +kernel
theorem dJ15_checkIndex_7cf53_3 : decode cJ15_checkIndex_7cf53 3 = .ok (.invokestatic 105, 3) := by decide +kernel
theorem dJ15_checkIndex_7cf53_6 : decode cJ15_checkIndex_7cf53 6 = .ok (.ireturn, 1) := by decide +kernel
theorem dJ8_newLength_cabcc_0 : decode cJ8_newLength_cabcc 0 = .ok (.iload_n 0, 1) := by decide +kernel
theorem dJ8_newLength_cabcc_1 : decode cJ8_newLength_cabcc 1 = .ok (.iload_n 1, 1) := by decide +kernel
theorem dJ8_newLength_cabcc_2 : decode cJ8_newLength_cabcc 2 = .ok (.iload_n 2, 1) := by decide +kernel
theorem dJ8_newLength_cabcc_3 : decode cJ8_newLength_cabcc 3 = .ok (.invokestatic 194, 3) := by decide +kernel
theorem dJ8_newLength_cabcc_6 : decode cJ8_newLength_cabcc 6 = .ok (.iadd, 1) := by decide +kernel
theorem dJ8_newLength_cabcc_7 : decode cJ8_newLength_cabcc 7 = .ok (.istore_n 3, 1) := by decide +kernel
theorem dJ8_newLength_cabcc_8 : decode cJ8_newLength_cabcc 8 = .ok (.iconst 0, 1) := by decide +kernel
theorem dJ8_newLength_cabcc_9 : decode cJ8_newLength_cabcc 9 = .ok (.iload_n 3, 1) := by decide +kernel
theorem dJ8_newLength_cabcc_10 : decode cJ8_newLength_cabcc 10 = .ok (.if_icmp .ge 11, 3) := by decide +kernel
theorem dJ8_newLength_cabcc_13 : decode cJ8_newLength_cabcc 13 = .ok (.iload_n 3, 1) := by decide +kernel
theorem dJ8_newLength_cabcc_14 : decode cJ8_newLength_cabcc 14 = .ok (.ldc 200, 2) := by decide +kernel
theorem dJ8_newLength_cabcc_16 : decode cJ8_newLength_cabcc 16 = .ok (.if_icmp .gt 5, 3) := by decide +kernel
theorem dJ8_newLength_cabcc_19 : decode cJ8_newLength_cabcc 19 = .ok (.iload_n 3, 1) := by decide +kernel
theorem dJ8_newLength_cabcc_20 : decode cJ8_newLength_cabcc 20 = .ok (.ireturn, 1) := by decide +kernel
theorem dJ8_newLength_cabcc_21 : decode cJ8_newLength_cabcc 21 = .ok (.iload_n 0, 1) := by decide +kernel
theorem dJ8_newLength_cabcc_22 : decode cJ8_newLength_cabcc 22 = .ok (.iload_n 1, 1) := by decide +kernel
theorem dJ8_newLength_cabcc_23 : decode cJ8_newLength_cabcc 23 = .ok (.invokestatic 201, 3) := by decide +kernel
theorem dJ8_newLength_cabcc_26 : decode cJ8_newLength_cabcc 26 = .ok (.ireturn, 1) := by decide +kernel
theorem dJ8_hugeLength_7cf53_0 : decode cJ8_hugeLength_7cf53 0 = .ok (.iload_n 0, 1) := by decide +kernel
theorem dJ8_hugeLength_7cf53_1 : decode cJ8_hugeLength_7cf53 1 = .ok (.iload_n 1, 1) := by decide +kernel
theorem dJ8_hugeLength_7cf53_2 : decode cJ8_hugeLength_7cf53 2 = .ok (.iadd, 1) := by decide +kernel
theorem dJ8_hugeLength_7cf53_3 : decode cJ8_hugeLength_7cf53 3 = .ok (.istore_n 2, 1) := by decide +kernel
theorem dJ8_hugeLength_7cf53_4 : decode cJ8_hugeLength_7cf53 4 = .ok (.iload_n 2, 1) := by decide +kernel
theorem dJ8_hugeLength_7cf53_5 : decode cJ8_hugeLength_7cf53 5 = .ok (.ifCond .ge 44, 3) := by decide +kernel
theorem dJ8_hugeLength_7cf53_8 : decode cJ8_hugeLength_7cf53 8 = .ok (.new 204, 3) := by decide +kernel
theorem dJ8_hugeLength_7cf53_11 : decode cJ8_hugeLength_7cf53 11 = .ok (.dup, 1) := by decide +kernel
theorem dJ8_hugeLength_7cf53_12 : decode cJ8_hugeLength_7cf53 12 = .ok (.new 89, 3) := by decide +kernel
theorem dJ8_hugeLength_7cf53_15 : decode cJ8_hugeLength_7cf53 15 = .ok (.dup, 1) := by decide +kernel
theorem dJ8_hugeLength_7cf53_16 : decode cJ8_hugeLength_7cf53 16 = .ok (.invokespecial 91, 3) := by decide +kernel
theorem dJ8_hugeLength_7cf53_19 : decode cJ8_hugeLength_7cf53 19 = .ok (.ldc 206, 2) := by decide +kernel
theorem dJ8_hugeLength_7cf53_21 : decode cJ8_hugeLength_7cf53 21 = .ok (.invokevirtual 94, 3) := by decide +kernel
theorem dJ8_hugeLength_7cf53_24 : decode cJ8_hugeLength_7cf53 24 = .ok (.iload_n 0, 1) := by decide +kernel
theorem dJ8_hugeLength_7cf53_25 : decode cJ8_hugeLength_7cf53 25 = .ok (.invokevirtual 98, 3) := by decide +kernel
theorem dJ8_hugeLength_7cf53_28 : decode cJ8_hugeLength_7cf53 28 = .ok (.ldc 208, 2) := by decide +kernel
theorem dJ8_hugeLength_7cf53_30 : decode cJ8_hugeLength_7cf53 30 = .ok (.invokevirtual 94, 3) := by decide +kernel
theorem dJ8_hugeLength_7cf53_33 : decode cJ8_hugeLength_7cf53 33 = .ok (.iload_n 1, 1) := by decide +kernel
theorem dJ8_hugeLength_7cf53_34 : decode cJ8_hugeLength_7cf53 34 = .ok (.invokevirtual 98, 3) := by decide +kernel
theorem dJ8_hugeLength_7cf53_37 : decode cJ8_hugeLength_7cf53 37 = .ok (.ldc 210, 2) := by decide +kernel
theorem dJ8_hugeLength_7cf53_39 : decode cJ8_hugeLength_7cf53 39 = .ok (.invokevirtual 94, 3) := by decide +kernel
theorem dJ8_hugeLength_7cf53_42 : decode cJ8_hugeLength_7cf53 42 = .ok (.invokevirtual 101, 3) := by decide +kernel
theorem dJ8_hugeLength_7cf53_45 : decode cJ8_hugeLength_7cf53 45 = .ok (.invokespecial 212, 3) := by decide +kernel
theorem dJ8_hugeLength_7cf53_48 : decode cJ8_hugeLength_7cf53 48 = .ok (.athrow, 1) := by decide +kernel
theorem dJ8_hugeLength_7cf53_49 : decode cJ8_hugeLength_7cf53 49 = .ok (.iload_n 2, 1) := by decide +kernel
theorem dJ8_hugeLength_7cf53_50 : decode cJ8_hugeLength_7cf53 50 = .ok (.ldc 200, 2) := by decide +kernel
theorem dJ8_hugeLength_7cf53_52 : decode cJ8_hugeLength_7cf53 52 = .ok (.if_icmp .gt 6, 3) := by decide +kernel
theorem dJ8_hugeLength_7cf53_55 : decode cJ8_hugeLength_7cf53 55 = .ok (.ldc 200, 2) := by decide +kernel
theorem dJ8_hugeLength_7cf53_57 : decode cJ8_hugeLength_7cf53 57 = .ok (.ireturn, 1) := by decide +kernel
theorem dJ8_hugeLength_7cf53_58 : decode cJ8_hugeLength_7cf53 58 = .ok (.iload_n 2, 1) := by decide +kernel
theorem dJ8_hugeLength_7cf53_59 : decode cJ8_hugeLength_7cf53 59 = .ok (.ireturn, 1) := by decide +kernel
theorem dJ3_checkIndex_8e157_0 : decode cJ3_checkIndex_8e157 0 = .ok (.iload_n 0, 1) := by decide +kernel
theorem dJ3_checkIndex_8e157_1 : decode cJ3_checkIndex_8e157 1 = .ok (.ifCond .lt 8, 3) := by decide +kernel
theorem dJ3_checkIndex_8e157_4 : decode cJ3_checkIndex_8e157 4 = .ok (.iload_n 0, 1) := by decide +kernel
theorem dJ3_checkIndex_8e157_5 : decode cJ3_checkIndex_8e157 5 = .ok (.iload_n 1, 1) := by decide +kernel
theorem dJ3_checkIndex_8e157_6 : decode cJ3_checkIndex_8e157 6 = .ok (.if_icmp .lt 10, 3) := by decide +kernel
theorem dJ3_checkIndex_8e157_9 : decode cJ3_checkIndex_8e157 9 = .ok (.aload_n 2, 1) := by decide +kernel
theorem dJ3_checkIndex_8e157_10 : decode cJ3_checkIndex_8e157 10 = .ok (.iload_n 0, 1) := by decide +kernel
theorem dJ3_checkIndex_8e157_11 : decode cJ3_checkIndex_8e157 11 = .ok (.iload_n 1, 1) := by decide +kernel
theorem dJ3_checkIndex_8e157_12 : decode cJ3_checkIndex_8e157 12 = .ok (.invokestatic 95, 3) := by decide +kernel
theorem dJ3_checkIndex_8e157_15 : decode cJ3_checkIndex_8e157 15 = .ok (.athrow, 1) := by decide +kernel
theorem dJ3_checkIndex_8e157_16 : decode cJ3_checkIndex_8e157 16 = .ok (.iload_n 0, 1) := by decide +kernel
theorem dJ3_checkIndex_8e157_17 : decode cJ3_checkIndex_8e157 17 = .ok (.ireturn, 1) := by decide +kernel
theorem dJ3_checkFromToIndex_8c36e_0 : decode cJ3_checkFromToIndex_8c36e 0 = .ok (.iload_n 0, 1) := by decide +kernel
theorem dJ3_checkFromToIndex_8c36e_1 : decode cJ3_checkFromToIndex_8c36e 1 = .ok (.ifCond .lt 13, 3) := by decide +kernel
theorem dJ3_checkFromToIndex_8c36e_4 : decode cJ3_checkFromToIndex_8c36e 4 = .ok (.iload_n 0, 1) := by decide +kernel
theorem dJ3_checkFromToIndex_8c36e_5 : decode cJ3_checkFromToIndex_8c36e 5 = .ok (.iload_n 1, 1) := by decide +kernel
theorem dJ3_checkFromToIndex_8c36e_6 : decode cJ3_checkFromToIndex_8c36e 6 = .ok (.if_icmp .gt 8, 3) := by decide +kernel
theorem dJ3_checkFromToIndex_8c36e_9 : decode cJ3_checkFromToIndex_8c36e 9 = .ok (.iload_n 1, 1) := by decide +kernel
theorem dJ3_checkFromToIndex_8c36e_10 : decode cJ3_checkFromToIndex_8c36e 10 = .ok (.iload_n 2, 1) := by decide +kernel
theorem dJ3_checkFromToIndex_8c36e_11 : decode cJ3_checkFromToIndex_8c36e 11 = .ok (.if_icmp .le 11, 3) := by decide +kernel
theorem dJ3_checkFromToIndex_8c36e_14 : decode cJ3_checkFromToIndex_8c36e 14 = .ok (.aload_n 3, 1) := by decide +kernel
theorem dJ3_checkFromToIndex_8c36e_15 : decode cJ3_checkFromToIndex_8c36e 15 = .ok (.iload_n 0, 1) := by decide +kernel
theorem dJ3_checkFromToIndex_8c36e_16 : decode cJ3_checkFromToIndex_8c36e 16 = .ok (.iload_n 1, 1) := by decide +kernel
theorem dJ3_checkFromToIndex_8c36e_17 : decode cJ3_checkFromToIndex_8c36e 17 = .ok (.iload_n 2, 1) := by decide +kernel
theorem dJ3_checkFromToIndex_8c36e_18 : decode cJ3_checkFromToIndex_8c36e 18 = .ok (.invokestatic 99, 3) := by decide +kernel
theorem dJ3_checkFromToIndex_8c36e_21 : decode cJ3_checkFromToIndex_8c36e 21 = .ok (.athrow, 1) := by decide +kernel
theorem dJ3_checkFromToIndex_8c36e_22 : decode cJ3_checkFromToIndex_8c36e 22 = .ok (.iload_n 0, 1) := by decide +kernel
theorem dJ3_checkFromToIndex_8c36e_23 : decode cJ3_checkFromToIndex_8c36e 23 = .ok (.ireturn, 1) := by decide +kernel
theorem dJ3_checkFromIndexSize_8c36e_0 : decode cJ3_checkFromIndexSize_8c36e 0 = .ok (.iload_n 2, 1) := by decide +kernel
theorem dJ3_checkFromIndexSize_8c36e_1 : decode cJ3_checkFromIndexSize_8c36e 1 = .ok (.iload_n 0, 1) := by decide +kernel
theorem dJ3_checkFromIndexSize_8c36e_2 : decode cJ3_checkFromIndexSize_8c36e 2 = .ok (.ior, 1) := by decide +kernel
theorem dJ3_checkFromIndexSize_8c36e_3 : decode cJ3_checkFromIndexSize_8c36e 3 = .ok (.iload_n 1, 1) := by decide +kernel
theorem dJ3_checkFromIndexSize_8c36e_4 : decode cJ3_checkFromIndexSize_8c36e 4 = .ok (.ior, 1) := by decide +kernel
theorem dJ3_checkFromIndexSize_8c36e_5 : decode cJ3_checkFromIndexSize_8c36e 5 = .ok (.ifCond .lt 10, 3) := by decide +kernel
theorem dJ3_checkFromIndexSize_8c36e_8 : decode cJ3_checkFromIndexSize_8c36e 8 = .ok (.iload_n 1, 1) := by decide +kernel
theorem dJ3_checkFromIndexSize_8c36e_9 : decode cJ3_checkFromIndexSize_8c36e 9 = .ok (.iload_n 2, 1) := by decide +kernel
theorem dJ3_checkFromIndexSize_8c36e_10 : decode cJ3_checkFromIndexSize_8c36e 10 = .ok (.iload_n 0, 1) := by decide +kernel
theorem dJ3_checkFromIndexSize_8c36e_11 : decode cJ3_checkFromIndexSize_8c36e 11 = .ok (.isub, 1) := by decide +kernel
theorem dJ3_checkFromIndexSize_8c36e_12 : decode cJ3_checkFromIndexSize_8c36e 12 = .ok (.if_icmp .le 11, 3) := by decide +kernel
theorem dJ3_checkFromIndexSize_8c36e_15 : decode cJ3_checkFromIndexSize_8c36e 15 = .ok (.aload_n 3, 1) := by decide +kernel
theorem dJ3_checkFromIndexSize_8c36e_16 : decode cJ3_checkFromIndexSize_8c36e 16 = .ok (.iload_n 0, 1) := by decide +kernel
theorem dJ3_checkFromIndexSize_8c36e_17 : decode cJ3_checkFromIndexSize_8c36e 17 = .ok (.iload_n 1, 1) := by decide +kernel
theorem dJ3_checkFromIndexSize_8c36e_18 : decode cJ3_checkFromIndexSize_8c36e 18 = .ok (.iload_n 2, 1) := by decide +kernel
theorem dJ3_checkFromIndexSize_8c36e_19 : decode cJ3_checkFromIndexSize_8c36e 19 = .ok (.invokestatic 103, 3) := by decide +kernel
theorem dJ3_checkFromIndexSize_8c36e_22 : decode cJ3_checkFromIndexSize_8c36e 22 = .ok (.athrow, 1) := by decide +kernel
theorem dJ3_checkFromIndexSize_8c36e_23 : decode cJ3_checkFromIndexSize_8c36e 23 = .ok (.iload_n 0, 1) := by decide +kernel
theorem dJ3_checkFromIndexSize_8c36e_24 : decode cJ3_checkFromIndexSize_8c36e 24 = .ok (.ireturn, 1) := by decide +kernel
theorem dL_cell_0 : decode cL_cell 0 = .ok (.iload_n 1, 1) := by decide +kernel
theorem dL_cell_1 : decode cL_cell 1 = .ok (.aload_n 0, 1) := by decide +kernel
theorem dL_cell_2 : decode cL_cell 2 = .ok (.arraylength, 1) := by decide +kernel
theorem dL_cell_3 : decode cL_cell 3 = .ok (.if_icmp .ge 9, 3) := by decide +kernel
theorem dL_cell_6 : decode cL_cell 6 = .ok (.aload_n 0, 1) := by decide +kernel
theorem dL_cell_7 : decode cL_cell 7 = .ok (.iload_n 1, 1) := by decide +kernel
theorem dL_cell_8 : decode cL_cell 8 = .ok (.iaload, 1) := by decide +kernel
theorem dL_cell_9 : decode cL_cell 9 = .ok (.goto 4, 3) := by decide +kernel
theorem dL_cell_12 : decode cL_cell 12 = .ok (.iconst 0, 1) := by decide +kernel
theorem dL_cell_13 : decode cL_cell 13 = .ok (.ireturn, 1) := by decide +kernel
theorem dL_bound_0 : decode cL_bound 0 = .ok (.iload_n 0, 1) := by decide +kernel
theorem dL_bound_1 : decode cL_bound 1 = .ok (.ldc 7, 2) := by decide +kernel
theorem dL_bound_3 : decode cL_bound 3 = .ok (.iand, 1) := by decide +kernel
theorem dL_bound_4 : decode cL_bound 4 = .ok (.iload_n 1, 1) := by decide +kernel
theorem dL_bound_5 : decode cL_bound 5 = .ok (.irem, 1) := by decide +kernel
theorem dL_bound_6 : decode cL_bound 6 = .ok (.ireturn, 1) := by decide +kernel
theorem dL_feeds_0 : decode cL_feeds 0 = .ok (.iconst 0, 1) := by decide +kernel
theorem dL_feeds_1 : decode cL_feeds 1 = .ok (.istore_n 2, 1) := by decide +kernel
theorem dL_feeds_2 : decode cL_feeds 2 = .ok (.iconst 0, 1) := by decide +kernel
theorem dL_feeds_3 : decode cL_feeds 3 = .ok (.istore_n 3, 1) := by decide +kernel
theorem dL_feeds_4 : decode cL_feeds 4 = .ok (.iload_n 3, 1) := by decide +kernel
theorem dL_feeds_5 : decode cL_feeds 5 = .ok (.aload_n 1, 1) := by decide +kernel
theorem dL_feeds_6 : decode cL_feeds 6 = .ok (.invokevirtual 8, 3) := by decide +kernel
theorem dL_feeds_9 : decode cL_feeds 9 = .ok (.if_icmp .ge 97, 3) := by decide +kernel
theorem dL_feeds_12 : decode cL_feeds 12 = .ok (.iconst 5, 1) := by decide +kernel
theorem dL_feeds_13 : decode cL_feeds 13 = .ok (.newarray .int, 2) := by decide +kernel
theorem dL_feeds_15 : decode cL_feeds 15 = .ok (.astore 4, 2) := by decide +kernel
theorem dL_feeds_17 : decode cL_feeds 17 = .ok (.iconst 0, 1) := by decide +kernel
theorem dL_feeds_18 : decode cL_feeds 18 = .ok (.istore 5, 2) := by decide +kernel
theorem dL_feeds_20 : decode cL_feeds 20 = .ok (.iload 5, 2) := by decide +kernel
theorem dL_feeds_22 : decode cL_feeds 22 = .ok (.bipush 20, 2) := by decide +kernel
theorem dL_feeds_24 : decode cL_feeds 24 = .ok (.if_icmp .ge 51, 3) := by decide +kernel
theorem dL_feeds_27 : decode cL_feeds 27 = .ok (.aload 4, 2) := by decide +kernel
theorem dL_feeds_29 : decode cL_feeds 29 = .ok (.iload 5, 2) := by decide +kernel
theorem dL_feeds_31 : decode cL_feeds 31 = .ok (.iconst 4, 1) := by decide +kernel
theorem dL_feeds_32 : decode cL_feeds 32 = .ok (.idiv, 1) := by decide +kernel
theorem dL_feeds_33 : decode cL_feeds 33 = .ok (.aload 4, 2) := by decide +kernel
theorem dL_feeds_35 : decode cL_feeds 35 = .ok (.iload 5, 2) := by decide +kernel
theorem dL_feeds_37 : decode cL_feeds 37 = .ok (.iconst 4, 1) := by decide +kernel
theorem dL_feeds_38 : decode cL_feeds 38 = .ok (.idiv, 1) := by decide +kernel
theorem dL_feeds_39 : decode cL_feeds 39 = .ok (.iaload, 1) := by decide +kernel
theorem dL_feeds_40 : decode cL_feeds 40 = .ok (.bipush 8, 2) := by decide +kernel
theorem dL_feeds_42 : decode cL_feeds 42 = .ok (.ishl, 1) := by decide +kernel
theorem dL_feeds_43 : decode cL_feeds 43 = .ok (.iload_n 3, 1) := by decide +kernel
theorem dL_feeds_44 : decode cL_feeds 44 = .ok (.iload 5, 2) := by decide +kernel
theorem dL_feeds_46 : decode cL_feeds 46 = .ok (.iadd, 1) := by decide +kernel
theorem dL_feeds_47 : decode cL_feeds 47 = .ok (.aload_n 1, 1) := by decide +kernel
theorem dL_feeds_48 : decode cL_feeds 48 = .ok (.invokevirtual 8, 3) := by decide +kernel
theorem dL_feeds_51 : decode cL_feeds 51 = .ok (.if_icmp .ge 14, 3) := by decide +kernel
theorem dL_feeds_54 : decode cL_feeds 54 = .ok (.aload_n 1, 1) := by decide +kernel
theorem dL_feeds_55 : decode cL_feeds 55 = .ok (.iload_n 3, 1) := by decide +kernel
theorem dL_feeds_56 : decode cL_feeds 56 = .ok (.iload 5, 2) := by decide +kernel
theorem dL_feeds_58 : decode cL_feeds 58 = .ok (.iadd, 1) := by decide +kernel
theorem dL_feeds_59 : decode cL_feeds 59 = .ok (.invokevirtual 14, 3) := by decide +kernel
theorem dL_feeds_62 : decode cL_feeds 62 = .ok (.goto 5, 3) := by decide +kernel
theorem dL_feeds_65 : decode cL_feeds 65 = .ok (.bipush 32, 2) := by decide +kernel
theorem dL_feeds_67 : decode cL_feeds 67 = .ok (.ior, 1) := by decide +kernel
theorem dL_feeds_68 : decode cL_feeds 68 = .ok (.iastore, 1) := by decide +kernel
theorem dL_feeds_69 : decode cL_feeds 69 = .ok (.iinc 5 1, 3) := by decide +kernel
theorem dL_feeds_72 : decode cL_feeds 72 = .ok (.goto (-52), 3) := by decide +kernel
theorem dL_feeds_75 : decode cL_feeds 75 = .ok (.aload_n 0, 1) := by decide +kernel
theorem dL_feeds_76 : decode cL_feeds 76 = .ok (.aload 4, 2) := by decide +kernel
theorem dL_feeds_78 : decode cL_feeds 78 = .ok (.iconst 0, 1) := by decide +kernel
theorem dL_feeds_79 : decode cL_feeds 79 = .ok (.iaload, 1) := by decide +kernel
theorem dL_feeds_80 : decode cL_feeds 80 = .ok (.aload 4, 2) := by decide +kernel
theorem dL_feeds_82 : decode cL_feeds 82 = .ok (.iconst 1, 1) := by decide +kernel
theorem dL_feeds_83 : decode cL_feeds 83 = .ok (.iaload, 1) := by decide +kernel
theorem dL_feeds_84 : decode cL_feeds 84 = .ok (.aload 4, 2) := by decide +kernel
theorem dL_feeds_86 : decode cL_feeds 86 = .ok (.iconst 2, 1) := by decide +kernel
theorem dL_feeds_87 : decode cL_feeds 87 = .ok (.iaload, 1) := by decide +kernel
theorem dL_feeds_88 : decode cL_feeds 88 = .ok (.aload 4, 2) := by decide +kernel
theorem dL_feeds_90 : decode cL_feeds 90 = .ok (.iconst 3, 1) := by decide +kernel
theorem dL_feeds_91 : decode cL_feeds 91 = .ok (.iaload, 1) := by decide +kernel
theorem dL_feeds_92 : decode cL_feeds 92 = .ok (.aload 4, 2) := by decide +kernel
theorem dL_feeds_94 : decode cL_feeds 94 = .ok (.iconst 4, 1) := by decide +kernel
theorem dL_feeds_95 : decode cL_feeds 95 = .ok (.iaload, 1) := by decide +kernel
theorem dL_feeds_96 : decode cL_feeds 96 = .ok (.invokevirtual 18, 3) := by decide +kernel
theorem dL_feeds_99 : decode cL_feeds 99 = .ok (.istore_n 2, 1) := by decide +kernel
theorem dL_feeds_100 : decode cL_feeds 100 = .ok (.iinc 3 20, 3) := by decide +kernel
theorem dL_feeds_103 : decode cL_feeds 103 = .ok (.goto (-99), 3) := by decide +kernel
theorem dL_feeds_106 : decode cL_feeds 106 = .ok (.iload_n 2, 1) := by decide +kernel
theorem dL_feeds_107 : decode cL_feeds 107 = .ok (.ireturn, 1) := by decide +kernel
theorem dL_read_0 : decode cL_read 0 = .ok (.aload_n 0, 1) := by decide +kernel
theorem dL_read_1 : decode cL_read 1 = .ok (.aload_n 1, 1) := by decide +kernel
theorem dL_read_2 : decode cL_read 2 = .ok (.invokestatic 24, 3) := by decide +kernel
theorem dL_read_5 : decode cL_read 5 = .ok (.ifCond .ge 8, 3) := by decide +kernel
theorem dL_read_8 : decode cL_read 8 = .ok (.bipush (-99), 2) := by decide +kernel
theorem dL_read_10 : decode cL_read 10 = .ok (.goto 11, 3) := by decide +kernel
theorem dL_read_13 : decode cL_read 13 = .ok (.aload_n 0, 1) := by decide +kernel
theorem dL_read_14 : decode cL_read 14 = .ok (.aload_n 1, 1) := by decide +kernel
theorem dL_read_15 : decode cL_read 15 = .ok (.invokevirtual 8, 3) := by decide +kernel
theorem dL_read_18 : decode cL_read 18 = .ok (.invokevirtual 30, 3) := by decide +kernel
theorem dL_read_21 : decode cL_read 21 = .ok (.ireturn, 1) := by decide +kernel
theorem dL_shapeOf_0 : decode cL_shapeOf 0 = .ok (.iload_n 0, 1) := by decide +kernel
theorem dL_shapeOf_1 : decode cL_shapeOf 1 = .ok (.ifCond .ne 8, 3) := by decide +kernel
theorem dL_shapeOf_4 : decode cL_shapeOf 4 = .ok (.ldc 34, 2) := by decide +kernel
theorem dL_shapeOf_6 : decode cL_shapeOf 6 = .ok (.goto 25, 3) := by decide +kernel
theorem dL_shapeOf_9 : decode cL_shapeOf 9 = .ok (.iload_n 0, 1) := by decide +kernel
theorem dL_shapeOf_10 : decode cL_shapeOf 10 = .ok (.iconst 1, 1) := by decide +kernel
theorem dL_shapeOf_11 : decode cL_shapeOf 11 = .ok (.if_icmp .ne 8, 3) := by decide +kernel
theorem dL_shapeOf_14 : decode cL_shapeOf 14 = .ok (.ldc 36, 2) := by decide +kernel
theorem dL_shapeOf_16 : decode cL_shapeOf 16 = .ok (.goto 15, 3) := by decide +kernel
theorem dL_shapeOf_19 : decode cL_shapeOf 19 = .ok (.iload_n 0, 1) := by decide +kernel
theorem dL_shapeOf_20 : decode cL_shapeOf 20 = .ok (.iconst 2, 1) := by decide +kernel
theorem dL_shapeOf_21 : decode cL_shapeOf 21 = .ok (.if_icmp .ne 8, 3) := by decide +kernel
theorem dL_shapeOf_24 : decode cL_shapeOf 24 = .ok (.ldc 38, 2) := by decide +kernel
theorem dL_shapeOf_26 : decode cL_shapeOf 26 = .ok (.goto 5, 3) := by decide +kernel
theorem dL_shapeOf_29 : decode cL_shapeOf 29 = .ok (.ldc 40, 2) := by decide +kernel
theorem dL_shapeOf_31 : decode cL_shapeOf 31 = .ok (.areturn, 1) := by decide +kernel
theorem dL_toneOf_0 : decode cL_toneOf 0 = .ok (.iload_n 0, 1) := by decide +kernel
theorem dL_toneOf_1 : decode cL_toneOf 1 = .ok (.iload_n 1, 1) := by decide +kernel
theorem dL_toneOf_2 : decode cL_toneOf 2 = .ok (.iconst 3, 1) := by decide +kernel
theorem dL_toneOf_3 : decode cL_toneOf 3 = .ok (.iload_n 2, 1) := by decide +kernel
theorem dL_toneOf_4 : decode cL_toneOf 4 = .ok (.imul, 1) := by decide +kernel
theorem dL_toneOf_5 : decode cL_toneOf 5 = .ok (.iadd, 1) := by decide +kernel
theorem dL_toneOf_6 : decode cL_toneOf 6 = .ok (.bipush 17, 2) := by decide +kernel
theorem dL_toneOf_8 : decode cL_toneOf 8 = .ok (.irem, 1) := by decide +kernel
theorem dL_toneOf_9 : decode cL_toneOf 9 = .ok (.ishr, 1) := by decide +kernel
theorem dL_toneOf_10 : decode cL_toneOf 10 = .ok (.bipush 7, 2) := by decide +kernel
theorem dL_toneOf_12 : decode cL_toneOf 12 = .ok (.iload_n 1, 1) := by decide +kernel
theorem dL_toneOf_13 : decode cL_toneOf 13 = .ok (.imul, 1) := by decide +kernel
theorem dL_toneOf_14 : decode cL_toneOf 14 = .ok (.iadd, 1) := by decide +kernel
theorem dL_toneOf_15 : decode cL_toneOf 15 = .ok (.iconst 5, 1) := by decide +kernel
theorem dL_toneOf_16 : decode cL_toneOf 16 = .ok (.iload_n 2, 1) := by decide +kernel
theorem dL_toneOf_17 : decode cL_toneOf 17 = .ok (.imul, 1) := by decide +kernel
theorem dL_toneOf_18 : decode cL_toneOf 18 = .ok (.iadd, 1) := by decide +kernel
theorem dL_toneOf_19 : decode cL_toneOf 19 = .ok (.bipush 10, 2) := by decide +kernel
theorem dL_toneOf_21 : decode cL_toneOf 21 = .ok (.invokestatic 42, 3) := by decide +kernel
theorem dL_toneOf_24 : decode cL_toneOf 24 = .ok (.ireturn, 1) := by decide +kernel
theorem dL_isPrinted_0 : decode cL_isPrinted 0 = .ok (.iconst 0, 1) := by decide +kernel
theorem dL_isPrinted_1 : decode cL_isPrinted 1 = .ok (.istore 4, 2) := by decide +kernel
theorem dL_isPrinted_3 : decode cL_isPrinted 3 = .ok (.iconst 0, 1) := by decide +kernel
theorem dL_isPrinted_4 : decode cL_isPrinted 4 = .ok (.istore 5, 2) := by decide +kernel
theorem dL_isPrinted_6 : decode cL_isPrinted 6 = .ok (.iload 5, 2) := by decide +kernel
theorem dL_isPrinted_8 : decode cL_isPrinted 8 = .ok (.aload_n 2, 1) := by decide +kernel
theorem dL_isPrinted_9 : decode cL_isPrinted 9 = .ok (.arraylength, 1) := by decide +kernel
theorem dL_isPrinted_10 : decode cL_isPrinted 10 = .ok (.if_icmp .ge 283, 3) := by decide +kernel
theorem dL_isPrinted_13 : decode cL_isPrinted 13 = .ok (.iconst 0, 1) := by decide +kernel
theorem dL_isPrinted_14 : decode cL_isPrinted 14 = .ok (.istore 6, 2) := by decide +kernel
theorem dL_isPrinted_16 : decode cL_isPrinted 16 = .ok (.iload 6, 2) := by decide +kernel
theorem dL_isPrinted_18 : decode cL_isPrinted 18 = .ok (.aload_n 2, 1) := by decide +kernel
theorem dL_isPrinted_19 : decode cL_isPrinted 19 = .ok (.iload 5, 2) := by decide +kernel
theorem dL_isPrinted_21 : decode cL_isPrinted 21 = .ok (.aaload, 1) := by decide +kernel
theorem dL_isPrinted_22 : decode cL_isPrinted 22 = .ok (.arraylength, 1) := by decide +kernel
theorem dL_isPrinted_23 : decode cL_isPrinted 23 = .ok (.if_icmp .ge 264, 3) := by decide +kernel
theorem dL_isPrinted_26 : decode cL_isPrinted 26 = .ok (.iconst 0, 1) := by decide +kernel
theorem dL_isPrinted_27 : decode cL_isPrinted 27 = .ok (.istore 7, 2) := by decide +kernel
theorem dL_isPrinted_29 : decode cL_isPrinted 29 = .ok (.iconst 0, 1) := by decide +kernel
theorem dL_isPrinted_30 : decode cL_isPrinted 30 = .ok (.istore 8, 2) := by decide +kernel
theorem dL_isPrinted_32 : decode cL_isPrinted 32 = .ok (.iload 8, 2) := by decide +kernel
theorem dL_isPrinted_34 : decode cL_isPrinted 34 = .ok (.aload_n 1, 1) := by decide +kernel
theorem dL_isPrinted_35 : decode cL_isPrinted 35 = .ok (.invokevirtual 46, 3) := by decide +kernel
theorem dL_isPrinted_38 : decode cL_isPrinted 38 = .ok (.if_icmp .ge 200, 3) := by decide +kernel
theorem dL_isPrinted_41 : decode cL_isPrinted 41 = .ok (.aload_n 1, 1) := by decide +kernel
theorem dL_isPrinted_42 : decode cL_isPrinted 42 = .ok (.iload 8, 2) := by decide +kernel
theorem dL_isPrinted_44 : decode cL_isPrinted 44 = .ok (.invokevirtual 51, 3) := by decide +kernel
theorem dL_isPrinted_47 : decode cL_isPrinted 47 = .ok (.checkcast 55, 3) := by decide +kernel
theorem dL_isPrinted_50 : decode cL_isPrinted 50 = .ok (.astore 9, 2) := by decide +kernel
theorem dL_isPrinted_52 : decode cL_isPrinted 52 = .ok (.aload 9, 2) := by decide +kernel
theorem dL_isPrinted_54 : decode cL_isPrinted 54 = .ok (.iload 6, 2) := by decide +kernel
theorem dL_isPrinted_56 : decode cL_isPrinted 56 = .ok (.iload 5, 2) := by decide +kernel
theorem dL_isPrinted_58 : decode cL_isPrinted 58 = .ok (.invokevirtual 57, 3) := by decide +kernel
theorem dL_isPrinted_61 : decode cL_isPrinted 61 = .ok (.istore 10, 2) := by decide +kernel
theorem dL_isPrinted_63 : decode cL_isPrinted 63 = .ok (.iload 10, 2) := by decide +kernel
theorem dL_isPrinted_65 : decode cL_isPrinted 65 = .ok (.bipush 100, 2) := by decide +kernel
theorem dL_isPrinted_67 : decode cL_isPrinted 67 = .ok (.imul, 1) := by decide +kernel
theorem dL_isPrinted_68 : decode cL_isPrinted 68 = .ok (.aload_n 2, 1) := by decide +kernel
theorem dL_isPrinted_69 : decode cL_isPrinted 69 = .ok (.iload 5, 2) := by decide +kernel
theorem dL_isPrinted_71 : decode cL_isPrinted 71 = .ok (.aaload, 1) := by decide +kernel
theorem dL_isPrinted_72 : decode cL_isPrinted 72 = .ok (.iload 6, 2) := by decide +kernel
theorem dL_isPrinted_74 : decode cL_isPrinted 74 = .ok (.iaload, 1) := by decide +kernel
theorem dL_isPrinted_75 : decode cL_isPrinted 75 = .ok (.aload 9, 2) := by decide +kernel
theorem dL_isPrinted_77 : decode cL_isPrinted 77 = .ok (.getfield 60, 3) := by decide +kernel
theorem dL_isPrinted_80 : decode cL_isPrinted 80 = .ok (.imul, 1) := by decide +kernel
theorem dL_isPrinted_81 : decode cL_isPrinted 81 = .ok (.aload 9, 2) := by decide +kernel
theorem dL_isPrinted_83 : decode cL_isPrinted 83 = .ok (.getfield 60, 3) := by decide +kernel
theorem dL_isPrinted_86 : decode cL_isPrinted 86 = .ok (.imul, 1) := by decide +kernel
theorem dL_isPrinted_87 : decode cL_isPrinted 87 = .ok (.if_icmp .ge 7, 3) := by decide +kernel
theorem dL_isPrinted_90 : decode cL_isPrinted 90 = .ok (.iconst 1, 1) := by decide +kernel
theorem dL_isPrinted_91 : decode cL_isPrinted 91 = .ok (.goto 4, 3) := by decide +kernel
theorem dL_isPrinted_94 : decode cL_isPrinted 94 = .ok (.iconst 0, 1) := by decide +kernel
theorem dL_isPrinted_95 : decode cL_isPrinted 95 = .ok (.istore 11, 2) := by decide +kernel
theorem dL_isPrinted_97 : decode cL_isPrinted 97 = .ok (.iload 11, 2) := by decide +kernel
theorem dL_isPrinted_99 : decode cL_isPrinted 99 = .ok (.ifCond .eq 16, 3) := by decide +kernel
theorem dL_isPrinted_102 : decode cL_isPrinted 102 = .ok (.iload 7, 2) := by decide +kernel
theorem dL_isPrinted_104 : decode cL_isPrinted 104 = .ok (.invokestatic 64, 3) := by decide +kernel
theorem dL_isPrinted_107 : decode cL_isPrinted 107 = .ok (.iload_n 3, 1) := by decide +kernel
theorem dL_isPrinted_108 : decode cL_isPrinted 108 = .ok (.if_icmp .ge 7, 3) := by decide +kernel
theorem dL_isPrinted_111 : decode cL_isPrinted 111 = .ok (.iconst 1, 1) := by decide +kernel
theorem dL_isPrinted_112 : decode cL_isPrinted 112 = .ok (.goto 4, 3) := by decide +kernel
theorem dL_isPrinted_115 : decode cL_isPrinted 115 = .ok (.iconst 0, 1) := by decide +kernel
theorem dL_isPrinted_116 : decode cL_isPrinted 116 = .ok (.istore 12, 2) := by decide +kernel
theorem dL_isPrinted_118 : decode cL_isPrinted 118 = .ok (.iload 7, 2) := by decide +kernel
theorem dL_isPrinted_120 : decode cL_isPrinted 120 = .ok (.iload 12, 2) := by decide +kernel
theorem dL_isPrinted_122 : decode cL_isPrinted 122 = .ok (.ifCond .eq 10, 3) := by decide +kernel
theorem dL_isPrinted_125 : decode cL_isPrinted 125 = .ok (.iconst 1, 1) := by decide +kernel
theorem dL_isPrinted_126 : decode cL_isPrinted 126 = .ok (.iload 8, 2) := by decide +kernel
theorem dL_isPrinted_128 : decode cL_isPrinted 128 = .ok (.ishl, 1) := by decide +kernel
theorem dL_isPrinted_129 : decode cL_isPrinted 129 = .ok (.goto 4, 3) := by decide +kernel
theorem dL_isPrinted_132 : decode cL_isPrinted 132 = .ok (.iconst 0, 1) := by decide +kernel
theorem dL_isPrinted_133 : decode cL_isPrinted 133 = .ok (.ior, 1) := by decide +kernel
theorem dL_isPrinted_134 : decode cL_isPrinted 134 = .ok (.istore 7, 2) := by decide +kernel
theorem dL_isPrinted_136 : decode cL_isPrinted 136 = .ok (.aload_n 0, 1) := by decide +kernel
theorem dL_isPrinted_137 : decode cL_isPrinted 137 = .ok (.iload 8, 2) := by decide +kernel
theorem dL_isPrinted_139 : decode cL_isPrinted 139 = .ok (.iload 6, 2) := by decide +kernel
theorem dL_isPrinted_141 : decode cL_isPrinted 141 = .ok (.iload 5, 2) := by decide +kernel
theorem dL_isPrinted_143 : decode cL_isPrinted 143 = .ok (.iconst 0, 1) := by decide +kernel
theorem dL_isPrinted_144 : decode cL_isPrinted 144 = .ok (.invokevirtual 69, 3) := by decide +kernel
theorem dL_isPrinted_147 : decode cL_isPrinted 147 = .ok (.iload 10, 2) := by decide +kernel
theorem dL_isPrinted_149 : decode cL_isPrinted 149 = .ok (.if_icmp .ne 81, 3) := by decide +kernel
theorem dL_isPrinted_152 : decode cL_isPrinted 152 = .ok (.aload_n 0, 1) := by decide +kernel
theorem dL_isPrinted_153 : decode cL_isPrinted 153 = .ok (.iload 8, 2) := by decide +kernel
theorem dL_isPrinted_155 : decode cL_isPrinted 155 = .ok (.iload 6, 2) := by decide +kernel
theorem dL_isPrinted_157 : decode cL_isPrinted 157 = .ok (.iload 5, 2) := by decide +kernel
theorem dL_isPrinted_159 : decode cL_isPrinted 159 = .ok (.iconst 1, 1) := by decide +kernel
theorem dL_isPrinted_160 : decode cL_isPrinted 160 = .ok (.invokevirtual 69, 3) := by decide +kernel
theorem dL_isPrinted_163 : decode cL_isPrinted 163 = .ok (.aload_n 2, 1) := by decide +kernel
theorem dL_isPrinted_164 : decode cL_isPrinted 164 = .ok (.iload 5, 2) := by decide +kernel
theorem dL_isPrinted_166 : decode cL_isPrinted 166 = .ok (.aaload, 1) := by decide +kernel
theorem dL_isPrinted_167 : decode cL_isPrinted 167 = .ok (.iload 6, 2) := by decide +kernel
theorem dL_isPrinted_169 : decode cL_isPrinted 169 = .ok (.iaload, 1) := by decide +kernel
theorem dL_isPrinted_170 : decode cL_isPrinted 170 = .ok (.if_icmp .ne 60, 3) := by decide +kernel
theorem dL_isPrinted_173 : decode cL_isPrinted 173 = .ok (.aload_n 0, 1) := by decide +kernel
theorem dL_isPrinted_174 : decode cL_isPrinted 174 = .ok (.iload 8, 2) := by decide +kernel
theorem dL_isPrinted_176 : decode cL_isPrinted 176 = .ok (.iload 6, 2) := by decide +kernel
theorem dL_isPrinted_178 : decode cL_isPrinted 178 = .ok (.iload 5, 2) := by decide +kernel
theorem dL_isPrinted_180 : decode cL_isPrinted 180 = .ok (.iconst 2, 1) := by decide +kernel
theorem dL_isPrinted_181 : decode cL_isPrinted 181 = .ok (.invokevirtual 69, 3) := by decide +kernel
theorem dL_isPrinted_184 : decode cL_isPrinted 184 = .ok (.iconst 1, 1) := by decide +kernel
theorem dL_isPrinted_185 : decode cL_isPrinted 185 = .ok (.if_icmp .ne 7, 3) := by decide +kernel
theorem dL_isPrinted_188 : decode cL_isPrinted 188 = .ok (.iconst 1, 1) := by decide +kernel
theorem dL_isPrinted_189 : decode cL_isPrinted 189 = .ok (.goto 4, 3) := by decide +kernel
theorem dL_isPrinted_192 : decode cL_isPrinted 192 = .ok (.iconst 0, 1) := by decide +kernel
theorem dL_isPrinted_193 : decode cL_isPrinted 193 = .ok (.iload 12, 2) := by decide +kernel
theorem dL_isPrinted_195 : decode cL_isPrinted 195 = .ok (.if_icmp .ne 35, 3) := by decide +kernel
theorem dL_isPrinted_198 : decode cL_isPrinted 198 = .ok (.aload_n 0, 1) := by decide +kernel
theorem dL_isPrinted_199 : decode cL_isPrinted 199 = .ok (.iload 8, 2) := by decide +kernel
theorem dL_isPrinted_201 : decode cL_isPrinted 201 = .ok (.iload 6, 2) := by decide +kernel
theorem dL_isPrinted_203 : decode cL_isPrinted 203 = .ok (.iload 5, 2) := by decide +kernel
theorem dL_isPrinted_205 : decode cL_isPrinted 205 = .ok (.invokevirtual 73, 3) := by decide +kernel
theorem dL_isPrinted_208 : decode cL_isPrinted 208 = .ok (.iload 12, 2) := by decide +kernel
theorem dL_isPrinted_210 : decode cL_isPrinted 210 = .ok (.ifCond .eq 7, 3) := by decide +kernel
theorem dL_isPrinted_213 : decode cL_isPrinted 213 = .ok (.iconst 0, 1) := by decide +kernel
theorem dL_isPrinted_214 : decode cL_isPrinted 214 = .ok (.goto 13, 3) := by decide +kernel
theorem dL_isPrinted_217 : decode cL_isPrinted 217 = .ok (.iload 11, 2) := by decide +kernel
theorem dL_isPrinted_219 : decode cL_isPrinted 219 = .ok (.ifCond .eq 7, 3) := by decide +kernel
theorem dL_isPrinted_222 : decode cL_isPrinted 222 = .ok (.iconst 3, 1) := by decide +kernel
theorem dL_isPrinted_223 : decode cL_isPrinted 223 = .ok (.goto 4, 3) := by decide +kernel
theorem dL_isPrinted_226 : decode cL_isPrinted 226 = .ok (.iconst 2, 1) := by decide +kernel
theorem dL_isPrinted_227 : decode cL_isPrinted 227 = .ok (.if_icmp .eq 5, 3) := by decide +kernel
theorem dL_isPrinted_230 : decode cL_isPrinted 230 = .ok (.iconst 0, 1) := by decide +kernel
theorem dL_isPrinted_231 : decode cL_isPrinted 231 = .ok (.ireturn, 1) := by decide +kernel
theorem dL_isPrinted_232 : decode cL_isPrinted 232 = .ok (.iinc 8 1, 3) := by decide +kernel
theorem dL_isPrinted_235 : decode cL_isPrinted 235 = .ok (.goto (-203), 3) := by decide +kernel
theorem dL_isPrinted_238 : decode cL_isPrinted 238 = .ok (.aload_n 0, 1) := by decide +kernel
theorem dL_isPrinted_239 : decode cL_isPrinted 239 = .ok (.iload 6, 2) := by decide +kernel
theorem dL_isPrinted_241 : decode cL_isPrinted 241 = .ok (.iload 5, 2) := by decide +kernel
theorem dL_isPrinted_243 : decode cL_isPrinted 243 = .ok (.invokevirtual 77, 3) := by decide +kernel
theorem dL_isPrinted_246 : decode cL_isPrinted 246 = .ok (.iload 7, 2) := by decide +kernel
theorem dL_isPrinted_248 : decode cL_isPrinted 248 = .ok (.if_icmp .ne 21, 3) := by decide +kernel
theorem dL_isPrinted_251 : decode cL_isPrinted 251 = .ok (.aload_n 0, 1) := by decide +kernel
theorem dL_isPrinted_252 : decode cL_isPrinted 252 = .ok (.iload 6, 2) := by decide +kernel
theorem dL_isPrinted_254 : decode cL_isPrinted 254 = .ok (.iload 5, 2) := by decide +kernel
theorem dL_isPrinted_256 : decode cL_isPrinted 256 = .ok (.invokevirtual 80, 3) := by decide +kernel
theorem dL_isPrinted_259 : decode cL_isPrinted 259 = .ok (.aload_n 2, 1) := by decide +kernel
theorem dL_isPrinted_260 : decode cL_isPrinted 260 = .ok (.iload 5, 2) := by decide +kernel
theorem dL_isPrinted_262 : decode cL_isPrinted 262 = .ok (.aaload, 1) := by decide +kernel
theorem dL_isPrinted_263 : decode cL_isPrinted 263 = .ok (.iload 6, 2) := by decide +kernel
theorem dL_isPrinted_265 : decode cL_isPrinted 265 = .ok (.iaload, 1) := by decide +kernel
theorem dL_isPrinted_266 : decode cL_isPrinted 266 = .ok (.if_icmp .eq 5, 3) := by decide +kernel
theorem dL_isPrinted_269 : decode cL_isPrinted 269 = .ok (.iconst 0, 1) := by decide +kernel
theorem dL_isPrinted_270 : decode cL_isPrinted 270 = .ok (.ireturn, 1) := by decide +kernel
theorem dL_isPrinted_271 : decode cL_isPrinted 271 = .ok (.iload 4, 2) := by decide +kernel
theorem dL_isPrinted_273 : decode cL_isPrinted 273 = .ok (.iload 7, 2) := by decide +kernel
theorem dL_isPrinted_275 : decode cL_isPrinted 275 = .ok (.invokestatic 64, 3) := by decide +kernel
theorem dL_isPrinted_278 : decode cL_isPrinted 278 = .ok (.iadd, 1) := by decide +kernel
theorem dL_isPrinted_279 : decode cL_isPrinted 279 = .ok (.istore 4, 2) := by decide +kernel
theorem dL_isPrinted_281 : decode cL_isPrinted 281 = .ok (.iinc 6 1, 3) := by decide +kernel
theorem dL_isPrinted_284 : decode cL_isPrinted 284 = .ok (.goto (-268), 3) := by decide +kernel
theorem dL_isPrinted_287 : decode cL_isPrinted 287 = .ok (.iinc 5 1, 3) := by decide +kernel
theorem dL_isPrinted_290 : decode cL_isPrinted 290 = .ok (.goto (-284), 3) := by decide +kernel
theorem dL_isPrinted_293 : decode cL_isPrinted 293 = .ok (.aload_n 0, 1) := by decide +kernel
theorem dL_isPrinted_294 : decode cL_isPrinted 294 = .ok (.iconst 4, 1) := by decide +kernel
theorem dL_isPrinted_295 : decode cL_isPrinted 295 = .ok (.invokevirtual 83, 3) := by decide +kernel
theorem dL_isPrinted_298 : decode cL_isPrinted 298 = .ok (.iload 4, 2) := by decide +kernel
theorem dL_isPrinted_300 : decode cL_isPrinted 300 = .ok (.if_icmp .ne 7, 3) := by decide +kernel
theorem dL_isPrinted_303 : decode cL_isPrinted 303 = .ok (.iconst 1, 1) := by decide +kernel
theorem dL_isPrinted_304 : decode cL_isPrinted 304 = .ok (.goto 4, 3) := by decide +kernel
theorem dL_isPrinted_307 : decode cL_isPrinted 307 = .ok (.iconst 0, 1) := by decide +kernel
theorem dL_isPrinted_308 : decode cL_isPrinted 308 = .ok (.ireturn, 1) := by decide +kernel
theorem dL_law_0 : decode cL_law 0 = .ok (.iconst 1, 1) := by decide +kernel
theorem dL_law_1 : decode cL_law 1 = .ok (.aload_n 0, 1) := by decide +kernel
theorem dL_law_2 : decode cL_law 2 = .ok (.iconst 0, 1) := by decide +kernel
theorem dL_law_3 : decode cL_law 3 = .ok (.invokestatic 86, 3) := by decide +kernel
theorem dL_law_6 : decode cL_law 6 = .ok (.bipush 8, 2) := by decide +kernel
theorem dL_law_8 : decode cL_law 8 = .ok (.invokestatic 42, 3) := by decide +kernel
theorem dL_law_11 : decode cL_law 11 = .ok (.iadd, 1) := by decide +kernel
theorem dL_law_12 : decode cL_law 12 = .ok (.istore_n 1, 1) := by decide +kernel
theorem dL_law_13 : decode cL_law 13 = .ok (.iconst 1, 1) := by decide +kernel
theorem dL_law_14 : decode cL_law 14 = .ok (.aload_n 0, 1) := by decide +kernel
theorem dL_law_15 : decode cL_law 15 = .ok (.iconst 0, 1) := by decide +kernel
theorem dL_law_16 : decode cL_law 16 = .ok (.invokestatic 86, 3) := by decide +kernel
theorem dL_law_19 : decode cL_law 19 = .ok (.iconst 4, 1) := by decide +kernel
theorem dL_law_20 : decode cL_law 20 = .ok (.ishr, 1) := by decide +kernel
theorem dL_law_21 : decode cL_law 21 = .ok (.bipush 6, 2) := by decide +kernel
theorem dL_law_23 : decode cL_law 23 = .ok (.invokestatic 42, 3) := by decide +kernel
theorem dL_law_26 : decode cL_law 26 = .ok (.iadd, 1) := by decide +kernel
theorem dL_law_27 : decode cL_law 27 = .ok (.istore_n 2, 1) := by decide +kernel
theorem dL_law_28 : decode cL_law 28 = .ok (.iconst 1, 1) := by decide +kernel
theorem dL_law_29 : decode cL_law 29 = .ok (.aload_n 0, 1) := by decide +kernel
theorem dL_law_30 : decode cL_law 30 = .ok (.iconst 0, 1) := by decide +kernel
theorem dL_law_31 : decode cL_law 31 = .ok (.invokestatic 86, 3) := by decide +kernel
theorem dL_law_34 : decode cL_law 34 = .ok (.bipush 8, 2) := by decide +kernel
theorem dL_law_36 : decode cL_law 36 = .ok (.ishr, 1) := by decide +kernel
theorem dL_law_37 : decode cL_law 37 = .ok (.iconst 3, 1) := by decide +kernel
theorem dL_law_38 : decode cL_law 38 = .ok (.invokestatic 42, 3) := by decide +kernel
theorem dL_law_41 : decode cL_law 41 = .ok (.iadd, 1) := by decide +kernel
theorem dL_law_42 : decode cL_law 42 = .ok (.istore_n 3, 1) := by decide +kernel
theorem dL_law_43 : decode cL_law 43 = .ok (.iconst 1, 1) := by decide +kernel
theorem dL_law_44 : decode cL_law 44 = .ok (.aload_n 0, 1) := by decide +kernel
theorem dL_law_45 : decode cL_law 45 = .ok (.iconst 0, 1) := by decide +kernel
theorem dL_law_46 : decode cL_law 46 = .ok (.invokestatic 86, 3) := by decide +kernel
theorem dL_law_49 : decode cL_law 49 = .ok (.bipush 12, 2) := by decide +kernel
theorem dL_law_51 : decode cL_law 51 = .ok (.ishr, 1) := by decide +kernel
theorem dL_law_52 : decode cL_law 52 = .ok (.iconst 4, 1) := by decide +kernel
theorem dL_law_53 : decode cL_law 53 = .ok (.invokestatic 42, 3) := by decide +kernel
theorem dL_law_56 : decode cL_law 56 = .ok (.iadd, 1) := by decide +kernel
theorem dL_law_57 : decode cL_law 57 = .ok (.istore 4, 2) := by decide +kernel
theorem dL_law_59 : decode cL_law 59 = .ok (.new 89, 3) := by decide +kernel
theorem dL_law_62 : decode cL_law 62 = .ok (.dup, 1) := by decide +kernel
theorem dL_law_63 : decode cL_law 63 = .ok (.new 89, 3) := by decide +kernel
theorem dL_law_66 : decode cL_law 66 = .ok (.dup, 1) := by decide +kernel
theorem dL_law_67 : decode cL_law 67 = .ok (.invokespecial 91, 3) := by decide +kernel
theorem dL_law_70 : decode cL_law 70 = .ok (.ldc 92, 2) := by decide +kernel
theorem dL_law_72 : decode cL_law 72 = .ok (.invokevirtual 94, 3) := by decide +kernel
theorem dL_law_75 : decode cL_law 75 = .ok (.iload_n 1, 1) := by decide +kernel
theorem dL_law_76 : decode cL_law 76 = .ok (.invokevirtual 97, 3) := by decide +kernel
theorem dL_law_79 : decode cL_law 79 = .ok (.ldc 100, 2) := by decide +kernel
theorem dL_law_81 : decode cL_law 81 = .ok (.invokevirtual 94, 3) := by decide +kernel
theorem dL_law_84 : decode cL_law 84 = .ok (.iload_n 2, 1) := by decide +kernel
theorem dL_law_85 : decode cL_law 85 = .ok (.invokevirtual 97, 3) := by decide +kernel
theorem dL_law_88 : decode cL_law 88 = .ok (.ldc 102, 2) := by decide +kernel
theorem dL_law_90 : decode cL_law 90 = .ok (.invokevirtual 94, 3) := by decide +kernel
theorem dL_law_93 : decode cL_law 93 = .ok (.iload 4, 2) := by decide +kernel
theorem dL_law_95 : decode cL_law 95 = .ok (.invokevirtual 97, 3) := by decide +kernel
theorem dL_law_98 : decode cL_law 98 = .ok (.ldc 104, 2) := by decide +kernel
theorem dL_law_100 : decode cL_law 100 = .ok (.invokevirtual 94, 3) := by decide +kernel
theorem dL_law_103 : decode cL_law 103 = .ok (.invokevirtual 106, 3) := by decide +kernel
theorem dL_law_106 : decode cL_law 106 = .ok (.invokespecial 110, 3) := by decide +kernel
theorem dL_law_109 : decode cL_law 109 = .ok (.astore 5, 2) := by decide +kernel
theorem dL_law_111 : decode cL_law 111 = .ok (.iload_n 2, 1) := by decide +kernel
theorem dL_law_112 : decode cL_law 112 = .ok (.iload_n 1, 1) := by decide +kernel
theorem dL_law_113 : decode cL_law 113 = .ok (.multianewarray 113 2, 4) := by decide +kernel
theorem dL_law_117 : decode cL_law 117 = .ok (.astore 6, 2) := by decide +kernel
theorem dL_law_119 : decode cL_law 119 = .ok (.iconst 0, 1) := by decide +kernel
theorem dL_law_120 : decode cL_law 120 = .ok (.istore 7, 2) := by decide +kernel
theorem dL_law_122 : decode cL_law 122 = .ok (.iload 7, 2) := by decide +kernel
theorem dL_law_124 : decode cL_law 124 = .ok (.iload_n 2, 1) := by decide +kernel
theorem dL_law_125 : decode cL_law 125 = .ok (.if_icmp .ge 67, 3) := by decide +kernel
theorem dL_law_128 : decode cL_law 128 = .ok (.aload 5, 2) := by decide +kernel
theorem dL_law_130 : decode cL_law 130 = .ok (.bipush 32, 2) := by decide +kernel
theorem dL_law_132 : decode cL_law 132 = .ok (.invokevirtual 115, 3) := by decide +kernel
theorem dL_law_135 : decode cL_law 135 = .ok (.pop, 1) := by decide +kernel
theorem dL_law_136 : decode cL_law 136 = .ok (.iconst 0, 1) := by decide +kernel
theorem dL_law_137 : decode cL_law 137 = .ok (.istore 8, 2) := by decide +kernel
theorem dL_law_139 : decode cL_law 139 = .ok (.iload 8, 2) := by decide +kernel
theorem dL_law_141 : decode cL_law 141 = .ok (.iload_n 1, 1) := by decide +kernel
theorem dL_law_142 : decode cL_law 142 = .ok (.if_icmp .ge 44, 3) := by decide +kernel
theorem dL_law_145 : decode cL_law 145 = .ok (.aload_n 0, 1) := by decide +kernel
theorem dL_law_146 : decode cL_law 146 = .ok (.iconst 1, 1) := by decide +kernel
theorem dL_law_147 : decode cL_law 147 = .ok (.invokestatic 86, 3) := by decide +kernel
theorem dL_law_150 : decode cL_law 150 = .ok (.iload 8, 2) := by decide +kernel
theorem dL_law_152 : decode cL_law 152 = .ok (.iload 7, 2) := by decide +kernel
theorem dL_law_154 : decode cL_law 154 = .ok (.invokestatic 118, 3) := by decide +kernel
theorem dL_law_157 : decode cL_law 157 = .ok (.istore 9, 2) := by decide +kernel
theorem dL_law_159 : decode cL_law 159 = .ok (.aload 6, 2) := by decide +kernel
theorem dL_law_161 : decode cL_law 161 = .ok (.iload 7, 2) := by decide +kernel
theorem dL_law_163 : decode cL_law 163 = .ok (.aaload, 1) := by decide +kernel
theorem dL_law_164 : decode cL_law 164 = .ok (.iload 8, 2) := by decide +kernel
theorem dL_law_166 : decode cL_law 166 = .ok (.bipush 11, 2) := by decide +kernel
theorem dL_law_168 : decode cL_law 168 = .ok (.iload 9, 2) := by decide +kernel
theorem dL_law_170 : decode cL_law 170 = .ok (.imul, 1) := by decide +kernel
theorem dL_law_171 : decode cL_law 171 = .ok (.iastore, 1) := by decide +kernel
theorem dL_law_172 : decode cL_law 172 = .ok (.aload 5, 2) := by decide +kernel
theorem dL_law_174 : decode cL_law 174 = .ok (.iload 9, 2) := by decide +kernel
theorem dL_law_176 : decode cL_law 176 = .ok (.invokevirtual 97, 3) := by decide +kernel
theorem dL_law_179 : decode cL_law 179 = .ok (.pop, 1) := by decide +kernel
theorem dL_law_180 : decode cL_law 180 = .ok (.iinc 8 1, 3) := by decide +kernel
theorem dL_law_183 : decode cL_law 183 = .ok (.goto (-44), 3) := by decide +kernel
theorem dL_law_186 : decode cL_law 186 = .ok (.iinc 7 1, 3) := by decide +kernel
theorem dL_law_189 : decode cL_law 189 = .ok (.goto (-67), 3) := by decide +kernel
theorem dL_law_192 : decode cL_law 192 = .ok (.aload 5, 2) := by decide +kernel
theorem dL_law_194 : decode cL_law 194 = .ok (.bipush 59, 2) := by decide +kernel
theorem dL_law_196 : decode cL_law 196 = .ok (.invokevirtual 115, 3) := by decide +kernel
theorem dL_law_199 : decode cL_law 199 = .ok (.pop, 1) := by decide +kernel
theorem dL_law_200 : decode cL_law 200 = .ok (.new 47, 3) := by decide +kernel
theorem dL_law_203 : decode cL_law 203 = .ok (.dup, 1) := by decide +kernel
theorem dL_law_204 : decode cL_law 204 = .ok (.invokespecial 121, 3) := by decide +kernel
theorem dL_law_207 : decode cL_law 207 = .ok (.astore 7, 2) := by decide +kernel
theorem dL_law_209 : decode cL_law 209 = .ok (.iconst 0, 1) := by decide +kernel
theorem dL_law_210 : decode cL_law 210 = .ok (.istore 8, 2) := by decide +kernel
theorem dL_law_212 : decode cL_law 212 = .ok (.iload 8, 2) := by decide +kernel
theorem dL_law_214 : decode cL_law 214 = .ok (.iload_n 3, 1) := by decide +kernel
theorem dL_law_215 : decode cL_law 215 = .ok (.if_icmp .ge 124, 3) := by decide +kernel
theorem dL_law_218 : decode cL_law 218 = .ok (.iconst 1, 1) := by decide +kernel
theorem dL_law_219 : decode cL_law 219 = .ok (.aload_n 0, 1) := by decide +kernel
theorem dL_law_220 : decode cL_law 220 = .ok (.iconst 2, 1) := by decide +kernel
theorem dL_law_221 : decode cL_law 221 = .ok (.iload 8, 2) := by decide +kernel
theorem dL_law_223 : decode cL_law 223 = .ok (.iadd, 1) := by decide +kernel
theorem dL_law_224 : decode cL_law 224 = .ok (.invokestatic 86, 3) := by decide +kernel
theorem dL_law_227 : decode cL_law 227 = .ok (.bipush 15, 2) := by decide +kernel
theorem dL_law_229 : decode cL_law 229 = .ok (.invokestatic 42, 3) := by decide +kernel
theorem dL_law_232 : decode cL_law 232 = .ok (.iadd, 1) := by decide +kernel
theorem dL_law_233 : decode cL_law 233 = .ok (.istore 9, 2) := by decide +kernel
theorem dL_law_235 : decode cL_law 235 = .ok (.aload_n 0, 1) := by decide +kernel
theorem dL_law_236 : decode cL_law 236 = .ok (.iconst 2, 1) := by decide +kernel
theorem dL_law_237 : decode cL_law 237 = .ok (.iload 8, 2) := by decide +kernel
theorem dL_law_239 : decode cL_law 239 = .ok (.iadd, 1) := by decide +kernel
theorem dL_law_240 : decode cL_law 240 = .ok (.invokestatic 86, 3) := by decide +kernel
theorem dL_law_243 : decode cL_law 243 = .ok (.iconst 5, 1) := by decide +kernel
theorem dL_law_244 : decode cL_law 244 = .ok (.ishr, 1) := by decide +kernel
theorem dL_law_245 : decode cL_law 245 = .ok (.iconst 4, 1) := by decide +kernel
theorem dL_law_246 : decode cL_law 246 = .ok (.invokestatic 42, 3) := by decide +kernel
theorem dL_law_249 : decode cL_law 249 = .ok (.istore 10, 2) := by decide +kernel
theorem dL_law_251 : decode cL_law 251 = .ok (.aload 7, 2) := by decide +kernel
theorem dL_law_253 : decode cL_law 253 = .ok (.new 55, 3) := by decide +kernel
theorem dL_law_256 : decode cL_law 256 = .ok (.dup, 1) := by decide +kernel
theorem dL_law_257 : decode cL_law 257 = .ok (.iload 9, 2) := by decide +kernel
theorem dL_law_259 : decode cL_law 259 = .ok (.iconst 4, 1) := by decide +kernel
theorem dL_law_260 : decode cL_law 260 = .ok (.idiv, 1) := by decide +kernel
theorem dL_law_261 : decode cL_law 261 = .ok (.iload 9, 2) := by decide +kernel
theorem dL_law_263 : decode cL_law 263 = .ok (.iconst 4, 1) := by decide +kernel
theorem dL_law_264 : decode cL_law 264 = .ok (.irem, 1) := by decide +kernel
theorem dL_law_265 : decode cL_law 265 = .ok (.iload 10, 2) := by decide +kernel
theorem dL_law_267 : decode cL_law 267 = .ok (.invokespecial 122, 3) := by decide +kernel
theorem dL_law_270 : decode cL_law 270 = .ok (.invokevirtual 125, 3) := by decide +kernel
theorem dL_law_273 : decode cL_law 273 = .ok (.pop, 1) := by decide +kernel
theorem dL_law_274 : decode cL_law 274 = .ok (.aload 5, 2) := by decide +kernel
theorem dL_law_276 : decode cL_law 276 = .ok (.ldc 129, 2) := by decide +kernel
theorem dL_law_278 : decode cL_law 278 = .ok (.invokevirtual 94, 3) := by decide +kernel
theorem dL_law_281 : decode cL_law 281 = .ok (.bipush 97, 2) := by decide +kernel
theorem dL_law_283 : decode cL_law 283 = .ok (.iload 8, 2) := by decide +kernel
theorem dL_law_285 : decode cL_law 285 = .ok (.iadd, 1) := by decide +kernel
theorem dL_law_286 : decode cL_law 286 = .ok (.i2c, 1) := by decide +kernel
theorem dL_law_287 : decode cL_law 287 = .ok (.invokevirtual 115, 3) := by decide +kernel
theorem dL_law_290 : decode cL_law 290 = .ok (.bipush 32, 2) := by decide +kernel
theorem dL_law_292 : decode cL_law 292 = .ok (.invokevirtual 115, 3) := by decide +kernel
theorem dL_law_295 : decode cL_law 295 = .ok (.iload 9, 2) := by decide +kernel
theorem dL_law_297 : decode cL_law 297 = .ok (.iconst 4, 1) := by decide +kernel
theorem dL_law_298 : decode cL_law 298 = .ok (.idiv, 1) := by decide +kernel
theorem dL_law_299 : decode cL_law 299 = .ok (.invokevirtual 97, 3) := by decide +kernel
theorem dL_law_302 : decode cL_law 302 = .ok (.bipush 32, 2) := by decide +kernel
theorem dL_law_304 : decode cL_law 304 = .ok (.invokevirtual 115, 3) := by decide +kernel
theorem dL_law_307 : decode cL_law 307 = .ok (.iload 9, 2) := by decide +kernel
theorem dL_law_309 : decode cL_law 309 = .ok (.iconst 4, 1) := by decide +kernel
theorem dL_law_310 : decode cL_law 310 = .ok (.irem, 1) := by decide +kernel
theorem dL_law_311 : decode cL_law 311 = .ok (.invokevirtual 97, 3) := by decide +kernel
theorem dL_law_314 : decode cL_law 314 = .ok (.bipush 32, 2) := by decide +kernel
theorem dL_law_316 : decode cL_law 316 = .ok (.invokevirtual 115, 3) := by decide +kernel
theorem dL_law_319 : decode cL_law 319 = .ok (.iload 10, 2) := by decide +kernel
theorem dL_law_321 : decode cL_law 321 = .ok (.invokestatic 131, 3) := by decide +kernel
theorem dL_law_324 : decode cL_law 324 = .ok (.invokevirtual 94, 3) := by decide +kernel
theorem dL_law_327 : decode cL_law 327 = .ok (.bipush 59, 2) := by decide +kernel
theorem dL_law_329 : decode cL_law 329 = .ok (.invokevirtual 115, 3) := by decide +kernel
theorem dL_law_332 : decode cL_law 332 = .ok (.pop, 1) := by decide +kernel
theorem dL_law_333 : decode cL_law 333 = .ok (.iinc 8 1, 3) := by decide +kernel
theorem dL_law_336 : decode cL_law 336 = .ok (.goto (-124), 3) := by decide +kernel
theorem dL_law_339 : decode cL_law 339 = .ok (.new 19, 3) := by decide +kernel
theorem dL_law_342 : decode cL_law 342 = .ok (.dup, 1) := by decide +kernel
theorem dL_law_343 : decode cL_law 343 = .ok (.invokespecial 135, 3) := by decide +kernel
theorem dL_law_346 : decode cL_law 346 = .ok (.astore 8, 2) := by decide +kernel
theorem dL_law_348 : decode cL_law 348 = .ok (.aload 8, 2) := by decide +kernel
theorem dL_law_350 : decode cL_law 350 = .ok (.aload 5, 2) := by decide +kernel
theorem dL_law_352 : decode cL_law 352 = .ok (.invokevirtual 106, 3) := by decide +kernel
theorem dL_law_355 : decode cL_law 355 = .ok (.invokestatic 136, 3) := by decide +kernel
theorem dL_law_358 : decode cL_law 358 = .ok (.iload_n 3, 1) := by decide +kernel
theorem dL_law_359 : decode cL_law 359 = .ok (.if_icmp .ne 17, 3) := by decide +kernel
theorem dL_law_362 : decode cL_law 362 = .ok (.aload 8, 2) := by decide +kernel
theorem dL_law_364 : decode cL_law 364 = .ok (.aload 7, 2) := by decide +kernel
theorem dL_law_366 : decode cL_law 366 = .ok (.aload 6, 2) := by decide +kernel
theorem dL_law_368 : decode cL_law 368 = .ok (.iload 4, 2) := by decide +kernel
theorem dL_law_370 : decode cL_law 370 = .ok (.invokestatic 139, 3) := by decide +kernel
theorem dL_law_373 : decode cL_law 373 = .ok (.ifCond .ne 5, 3) := by decide +kernel
theorem dL_law_376 : decode cL_law 376 = .ok (.iconst 0, 1) := by decide +kernel
theorem dL_law_377 : decode cL_law 377 = .ok (.ireturn, 1) := by decide +kernel
theorem dL_law_378 : decode cL_law 378 = .ok (.aload_n 0, 1) := by decide +kernel
theorem dL_law_379 : decode cL_law 379 = .ok (.iconst 5, 1) := by decide +kernel
theorem dL_law_380 : decode cL_law 380 = .ok (.invokestatic 86, 3) := by decide +kernel
theorem dL_law_383 : decode cL_law 383 = .ok (.iload_n 3, 1) := by decide +kernel
theorem dL_law_384 : decode cL_law 384 = .ok (.invokestatic 42, 3) := by decide +kernel
theorem dL_law_387 : decode cL_law 387 = .ok (.istore 9, 2) := by decide +kernel
theorem dL_law_389 : decode cL_law 389 = .ok (.aload 7, 2) := by decide +kernel
theorem dL_law_391 : decode cL_law 391 = .ok (.iload 9, 2) := by decide +kernel
theorem dL_law_393 : decode cL_law 393 = .ok (.invokevirtual 51, 3) := by decide +kernel
theorem dL_law_396 : decode cL_law 396 = .ok (.checkcast 55, 3) := by decide +kernel
theorem dL_law_399 : decode cL_law 399 = .ok (.astore 10, 2) := by decide +kernel
theorem dL_law_401 : decode cL_law 401 = .ok (.aload 10, 2) := by decide +kernel
theorem dL_law_403 : decode cL_law 403 = .ok (.aload_n 0, 1) := by decide +kernel
theorem dL_law_404 : decode cL_law 404 = .ok (.iconst 5, 1) := by decide +kernel
theorem dL_law_405 : decode cL_law 405 = .ok (.invokestatic 86, 3) := by decide +kernel
theorem dL_law_408 : decode cL_law 408 = .ok (.iconst 3, 1) := by decide +kernel
theorem dL_law_409 : decode cL_law 409 = .ok (.ishr, 1) := by decide +kernel
theorem dL_law_410 : decode cL_law 410 = .ok (.bipush 18, 2) := by decide +kernel
theorem dL_law_412 : decode cL_law 412 = .ok (.invokestatic 42, 3) := by decide +kernel
theorem dL_law_415 : decode cL_law 415 = .ok (.putfield 143, 3) := by decide +kernel
theorem dL_law_418 : decode cL_law 418 = .ok (.aload 10, 2) := by decide +kernel
theorem dL_law_420 : decode cL_law 420 = .ok (.aload_n 0, 1) := by decide +kernel
theorem dL_law_421 : decode cL_law 421 = .ok (.iconst 5, 1) := by decide +kernel
theorem dL_law_422 : decode cL_law 422 = .ok (.invokestatic 86, 3) := by decide +kernel
theorem dL_law_425 : decode cL_law 425 = .ok (.bipush 8, 2) := by decide +kernel
theorem dL_law_427 : decode cL_law 427 = .ok (.ishr, 1) := by decide +kernel
theorem dL_law_428 : decode cL_law 428 = .ok (.bipush 18, 2) := by decide +kernel
theorem dL_law_430 : decode cL_law 430 = .ok (.invokestatic 42, 3) := by decide +kernel
theorem dL_law_433 : decode cL_law 433 = .ok (.putfield 146, 3) := by decide +kernel
theorem dL_law_436 : decode cL_law 436 = .ok (.aload 8, 2) := by decide +kernel
theorem dL_law_438 : decode cL_law 438 = .ok (.iload 9, 2) := by decide +kernel
theorem dL_law_440 : decode cL_law 440 = .ok (.aload 10, 2) := by decide +kernel
theorem dL_law_442 : decode cL_law 442 = .ok (.getfield 143, 3) := by decide +kernel
theorem dL_law_445 : decode cL_law 445 = .ok (.aload 10, 2) := by decide +kernel
theorem dL_law_447 : decode cL_law 447 = .ok (.getfield 146, 3) := by decide +kernel
theorem dL_law_450 : decode cL_law 450 = .ok (.invokevirtual 149, 3) := by decide +kernel
theorem dL_law_453 : decode cL_law 453 = .ok (.aload 8, 2) := by decide +kernel
theorem dL_law_455 : decode cL_law 455 = .ok (.iconst 4, 1) := by decide +kernel
theorem dL_law_456 : decode cL_law 456 = .ok (.invokevirtual 83, 3) := by decide +kernel
theorem dL_law_459 : decode cL_law 459 = .ok (.if_icmp .ne 17, 3) := by decide +kernel
theorem dL_law_462 : decode cL_law 462 = .ok (.aload 8, 2) := by decide +kernel
theorem dL_law_464 : decode cL_law 464 = .ok (.aload 7, 2) := by decide +kernel
theorem dL_law_466 : decode cL_law 466 = .ok (.aload 6, 2) := by decide +kernel
theorem dL_law_468 : decode cL_law 468 = .ok (.iload 4, 2) := by decide +kernel
theorem dL_law_470 : decode cL_law 470 = .ok (.invokestatic 139, 3) := by decide +kernel
theorem dL_law_473 : decode cL_law 473 = .ok (.ifCond .ne 5, 3) := by decide +kernel
theorem dL_law_476 : decode cL_law 476 = .ok (.iconst 0, 1) := by decide +kernel
theorem dL_law_477 : decode cL_law 477 = .ok (.ireturn, 1) := by decide +kernel
theorem dL_law_478 : decode cL_law 478 = .ok (.aload_n 0, 1) := by decide +kernel
theorem dL_law_479 : decode cL_law 479 = .ok (.bipush 6, 2) := by decide +kernel
theorem dL_law_481 : decode cL_law 481 = .ok (.invokestatic 86, 3) := by decide +kernel
theorem dL_law_484 : decode cL_law 484 = .ok (.iload_n 1, 1) := by decide +kernel
theorem dL_law_485 : decode cL_law 485 = .ok (.invokestatic 42, 3) := by decide +kernel
theorem dL_law_488 : decode cL_law 488 = .ok (.istore 11, 2) := by decide +kernel
theorem dL_law_490 : decode cL_law 490 = .ok (.aload_n 0, 1) := by decide +kernel
theorem dL_law_491 : decode cL_law 491 = .ok (.bipush 6, 2) := by decide +kernel
theorem dL_law_493 : decode cL_law 493 = .ok (.invokestatic 86, 3) := by decide +kernel
theorem dL_law_496 : decode cL_law 496 = .ok (.iconst 4, 1) := by decide +kernel
theorem dL_law_497 : decode cL_law 497 = .ok (.ishr, 1) := by decide +kernel
theorem dL_law_498 : decode cL_law 498 = .ok (.iload_n 2, 1) := by decide +kernel
theorem dL_law_499 : decode cL_law 499 = .ok (.invokestatic 42, 3) := by decide +kernel
theorem dL_law_502 : decode cL_law 502 = .ok (.istore 12, 2) := by decide +kernel
theorem dL_law_504 : decode cL_law 504 = .ok (.aload_n 0, 1) := by decide +kernel
theorem dL_law_505 : decode cL_law 505 = .ok (.bipush 6, 2) := by decide +kernel
theorem dL_law_507 : decode cL_law 507 = .ok (.invokestatic 86, 3) := by decide +kernel
theorem dL_law_510 : decode cL_law 510 = .ok (.bipush 8, 2) := by decide +kernel
theorem dL_law_512 : decode cL_law 512 = .ok (.ishr, 1) := by decide +kernel
theorem dL_law_513 : decode cL_law 513 = .ok (.bipush 101, 2) := by decide +kernel
theorem dL_law_515 : decode cL_law 515 = .ok (.invokestatic 42, 3) := by decide +kernel
theorem dL_law_518 : decode cL_law 518 = .ok (.istore 13, 2) := by decide +kernel
theorem dL_law_520 : decode cL_law 520 = .ok (.aload 6, 2) := by decide +kernel
theorem dL_law_522 : decode cL_law 522 = .ok (.iload 12, 2) := by decide +kernel
theorem dL_law_524 : decode cL_law 524 = .ok (.aaload, 1) := by decide +kernel
theorem dL_law_525 : decode cL_law 525 = .ok (.iload 11, 2) := by decide +kernel
theorem dL_law_527 : decode cL_law 527 = .ok (.iload 13, 2) := by decide +kernel
theorem dL_law_529 : decode cL_law 529 = .ok (.iastore, 1) := by decide +kernel
theorem dL_law_530 : decode cL_law 530 = .ok (.aload 8, 2) := by decide +kernel
theorem dL_law_532 : decode cL_law 532 = .ok (.iload 11, 2) := by decide +kernel
theorem dL_law_534 : decode cL_law 534 = .ok (.iload 12, 2) := by decide +kernel
theorem dL_law_536 : decode cL_law 536 = .ok (.iconst 1, 1) := by decide +kernel
theorem dL_law_537 : decode cL_law 537 = .ok (.iconst 1, 1) := by decide +kernel
theorem dL_law_538 : decode cL_law 538 = .ok (.iload 13, 2) := by decide +kernel
theorem dL_law_540 : decode cL_law 540 = .ok (.invokevirtual 152, 3) := by decide +kernel
theorem dL_law_543 : decode cL_law 543 = .ok (.aload 8, 2) := by decide +kernel
theorem dL_law_545 : decode cL_law 545 = .ok (.iconst 4, 1) := by decide +kernel
theorem dL_law_546 : decode cL_law 546 = .ok (.invokevirtual 83, 3) := by decide +kernel
theorem dL_law_549 : decode cL_law 549 = .ok (.if_icmp .ne 17, 3) := by decide +kernel
theorem dL_law_552 : decode cL_law 552 = .ok (.aload 8, 2) := by decide +kernel
theorem dL_law_554 : decode cL_law 554 = .ok (.aload 7, 2) := by decide +kernel
theorem dL_law_556 : decode cL_law 556 = .ok (.aload 6, 2) := by decide +kernel
theorem dL_law_558 : decode cL_law 558 = .ok (.iload 4, 2) := by decide +kernel
theorem dL_law_560 : decode cL_law 560 = .ok (.invokestatic 139, 3) := by decide +kernel
theorem dL_law_563 : decode cL_law 563 = .ok (.ifCond .ne 5, 3) := by decide +kernel
theorem dL_law_566 : decode cL_law 566 = .ok (.iconst 0, 1) := by decide +kernel
theorem dL_law_567 : decode cL_law 567 = .ok (.ireturn, 1) := by decide +kernel
theorem dL_law_568 : decode cL_law 568 = .ok (.aload_n 0, 1) := by decide +kernel
theorem dL_law_569 : decode cL_law 569 = .ok (.bipush 7, 2) := by decide +kernel
theorem dL_law_571 : decode cL_law 571 = .ok (.invokestatic 86, 3) := by decide +kernel
theorem dL_law_574 : decode cL_law 574 = .ok (.iconst 4, 1) := by decide +kernel
theorem dL_law_575 : decode cL_law 575 = .ok (.invokestatic 42, 3) := by decide +kernel
theorem dL_law_578 : decode cL_law 578 = .ok (.istore 14, 2) := by decide +kernel
theorem dL_law_580 : decode cL_law 580 = .ok (.aload 8, 2) := by decide +kernel
theorem dL_law_582 : decode cL_law 582 = .ok (.iload 9, 2) := by decide +kernel
theorem dL_law_584 : decode cL_law 584 = .ok (.iload 14, 2) := by decide +kernel
theorem dL_law_586 : decode cL_law 586 = .ok (.invokevirtual 155, 3) := by decide +kernel
theorem dL_law_589 : decode cL_law 589 = .ok (.aload 10, 2) := by decide +kernel
theorem dL_law_591 : decode cL_law 591 = .ok (.getfield 158, 3) := by decide +kernel
theorem dL_law_594 : decode cL_law 594 = .ok (.if_icmp .eq 5, 3) := by decide +kernel
theorem dL_law_597 : decode cL_law 597 = .ok (.iconst 0, 1) := by decide +kernel
theorem dL_law_598 : decode cL_law 598 = .ok (.ireturn, 1) := by decide +kernel
theorem dL_law_599 : decode cL_law 599 = .ok (.new 55, 3) := by decide +kernel
theorem dL_law_602 : decode cL_law 602 = .ok (.dup, 1) := by decide +kernel
theorem dL_law_603 : decode cL_law 603 = .ok (.aload 10, 2) := by decide +kernel
theorem dL_law_605 : decode cL_law 605 = .ok (.getfield 160, 3) := by decide +kernel
theorem dL_law_608 : decode cL_law 608 = .ok (.aload 10, 2) := by decide +kernel
theorem dL_law_610 : decode cL_law 610 = .ok (.getfield 163, 3) := by decide +kernel
theorem dL_law_613 : decode cL_law 613 = .ok (.iload 14, 2) := by decide +kernel
theorem dL_law_615 : decode cL_law 615 = .ok (.invokespecial 122, 3) := by decide +kernel
theorem dL_law_618 : decode cL_law 618 = .ok (.astore 15, 2) := by decide +kernel
theorem dL_law_620 : decode cL_law 620 = .ok (.aload 15, 2) := by decide +kernel
theorem dL_law_622 : decode cL_law 622 = .ok (.aload 10, 2) := by decide +kernel
theorem dL_law_624 : decode cL_law 624 = .ok (.getfield 143, 3) := by decide +kernel
theorem dL_law_627 : decode cL_law 627 = .ok (.putfield 143, 3) := by decide +kernel
theorem dL_law_630 : decode cL_law 630 = .ok (.aload 15, 2) := by decide +kernel
theorem dL_law_632 : decode cL_law 632 = .ok (.aload 10, 2) := by decide +kernel
theorem dL_law_634 : decode cL_law 634 = .ok (.getfield 146, 3) := by decide +kernel
theorem dL_law_637 : decode cL_law 637 = .ok (.putfield 146, 3) := by decide +kernel
theorem dL_law_640 : decode cL_law 640 = .ok (.aload 7, 2) := by decide +kernel
theorem dL_law_642 : decode cL_law 642 = .ok (.iload 9, 2) := by decide +kernel
theorem dL_law_644 : decode cL_law 644 = .ok (.aload 15, 2) := by decide +kernel
theorem dL_law_646 : decode cL_law 646 = .ok (.invokevirtual 166, 3) := by decide +kernel
theorem dL_law_649 : decode cL_law 649 = .ok (.pop, 1) := by decide +kernel
theorem dL_law_650 : decode cL_law 650 = .ok (.aload 8, 2) := by decide +kernel
theorem dL_law_652 : decode cL_law 652 = .ok (.aload 7, 2) := by decide +kernel
theorem dL_law_654 : decode cL_law 654 = .ok (.aload 6, 2) := by decide +kernel
theorem dL_law_656 : decode cL_law 656 = .ok (.iload 4, 2) := by decide +kernel
theorem dL_law_658 : decode cL_law 658 = .ok (.invokestatic 139, 3) := by decide +kernel
theorem dL_law_661 : decode cL_law 661 = .ok (.ifCond .eq 53, 3) := by decide +kernel
theorem dL_law_664 : decode cL_law 664 = .ok (.aload 8, 2) := by decide +kernel
theorem dL_law_666 : decode cL_law 666 = .ok (.iconst 4, 1) := by decide +kernel
theorem dL_law_667 : decode cL_law 667 = .ok (.invokevirtual 170, 3) := by decide +kernel
theorem dL_law_670 : decode cL_law 670 = .ok (.iload 4, 2) := by decide +kernel
theorem dL_law_672 : decode cL_law 672 = .ok (.if_icmp .ne 42, 3) := by decide +kernel
theorem dL_law_675 : decode cL_law 675 = .ok (.aload 8, 2) := by decide +kernel
theorem dL_law_677 : decode cL_law 677 = .ok (.aload 7, 2) := by decide +kernel
theorem dL_law_679 : decode cL_law 679 = .ok (.aload 6, 2) := by decide +kernel
theorem dL_law_681 : decode cL_law 681 = .ok (.iconst 4, 1) := by decide +kernel
theorem dL_law_682 : decode cL_law 682 = .ok (.invokestatic 139, 3) := by decide +kernel
theorem dL_law_685 : decode cL_law 685 = .ok (.ifCond .eq 29, 3) := by decide +kernel
theorem dL_law_688 : decode cL_law 688 = .ok (.aload 8, 2) := by decide +kernel
theorem dL_law_690 : decode cL_law 690 = .ok (.invokevirtual 173, 3) := by decide +kernel
theorem dL_law_693 : decode cL_law 693 = .ok (.ifCond .lt 21, 3) := by decide +kernel
theorem dL_law_696 : decode cL_law 696 = .ok (.aload 8, 2) := by decide +kernel
theorem dL_law_698 : decode cL_law 698 = .ok (.aload 7, 2) := by decide +kernel
theorem dL_law_700 : decode cL_law 700 = .ok (.aload 6, 2) := by decide +kernel
theorem dL_law_702 : decode cL_law 702 = .ok (.iload 4, 2) := by decide +kernel
theorem dL_law_704 : decode cL_law 704 = .ok (.invokestatic 139, 3) := by decide +kernel
theorem dL_law_707 : decode cL_law 707 = .ok (.ifCond .eq 7, 3) := by decide +kernel
theorem dL_law_710 : decode cL_law 710 = .ok (.iconst 1, 1) := by decide +kernel
theorem dL_law_711 : decode cL_law 711 = .ok (.goto 4, 3) := by decide +kernel
theorem dL_law_714 : decode cL_law 714 = .ok (.iconst 0, 1) := by decide +kernel
theorem dL_law_715 : decode cL_law 715 = .ok (.ireturn, 1) := by decide +kernel
