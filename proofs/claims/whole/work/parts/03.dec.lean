theorem dX0_init_0 : decode cX0_init 0 = .ok (.aload_n 0, 1) := by decide +kernel
theorem dX0_init_1 : decode cX0_init 1 = .ok (.invokespecial 3, 3) := by decide +kernel
theorem dX0_init_4 : decode cX0_init 4 = .ok (.aload_n 0, 1) := by decide +kernel
theorem dX0_init_5 : decode cX0_init 5 = .ok (.aload_n 1, 1) := by decide +kernel
theorem dX0_init_6 : decode cX0_init 6 = .ok (.putfield 9, 3) := by decide +kernel
theorem dX0_init_9 : decode cX0_init 9 = .ok (.return_, 1) := by decide +kernel
theorem dX0_toneAt_0 : decode cX0_toneAt 0 = .ok (.iconst 0, 1) := by decide +kernel
theorem dX0_toneAt_1 : decode cX0_toneAt 1 = .ok (.istore 6, 2) := by decide +kernel
theorem dX0_toneAt_3 : decode cX0_toneAt 3 = .ok (.aload_n 0, 1) := by decide +kernel
theorem dX0_toneAt_4 : decode cX0_toneAt 4 = .ok (.getfield 9, 3) := by decide +kernel
theorem dX0_toneAt_7 : decode cX0_toneAt 7 = .ok (.astore 7, 2) := by decide +kernel
theorem dX0_toneAt_9 : decode cX0_toneAt 9 = .ok (.aload 7, 2) := by decide +kernel
theorem dX0_toneAt_11 : decode cX0_toneAt 11 = .ok (.arraylength, 1) := by decide +kernel
theorem dX0_toneAt_12 : decode cX0_toneAt 12 = .ok (.istore 8, 2) := by decide +kernel
theorem dX0_toneAt_14 : decode cX0_toneAt 14 = .ok (.iconst 0, 1) := by decide +kernel
theorem dX0_toneAt_15 : decode cX0_toneAt 15 = .ok (.istore 9, 2) := by decide +kernel
theorem dX0_toneAt_17 : decode cX0_toneAt 17 = .ok (.iload 9, 2) := by decide +kernel
theorem dX0_toneAt_19 : decode cX0_toneAt 19 = .ok (.iload 8, 2) := by decide +kernel
theorem dX0_toneAt_21 : decode cX0_toneAt 21 = .ok (.if_icmp .ge 90, 3) := by decide +kernel
theorem dX0_toneAt_24 : decode cX0_toneAt 24 = .ok (.aload 7, 2) := by decide +kernel
theorem dX0_toneAt_26 : decode cX0_toneAt 26 = .ok (.iload 9, 2) := by decide +kernel
theorem dX0_toneAt_28 : decode cX0_toneAt 28 = .ok (.iaload, 1) := by decide +kernel
theorem dX0_toneAt_29 : decode cX0_toneAt 29 = .ok (.istore 10, 2) := by decide +kernel
theorem dX0_toneAt_31 : decode cX0_toneAt 31 = .ok (.iload 10, 2) := by decide +kernel
theorem dX0_toneAt_33 : decode cX0_toneAt 33 = .ok (.bipush (-5), 2) := by decide +kernel
theorem dX0_toneAt_35 : decode cX0_toneAt 35 = .ok (.if_icmp .le 31, 3) := by decide +kernel
theorem dX0_toneAt_38 : decode cX0_toneAt 38 = .ok (.iload 6, 2) := by decide +kernel
theorem dX0_toneAt_40 : decode cX0_toneAt 40 = .ok (.aload_n 1, 1) := by decide +kernel
theorem dX0_toneAt_41 : decode cX0_toneAt 41 = .ok (.arraylength, 1) := by decide +kernel
theorem dX0_toneAt_42 : decode cX0_toneAt 42 = .ok (.if_icmp .ge 63, 3) := by decide +kernel
theorem dX0_toneAt_45 : decode cX0_toneAt 45 = .ok (.aload_n 1, 1) := by decide +kernel
theorem dX0_toneAt_46 : decode cX0_toneAt 46 = .ok (.iload 6, 2) := by decide +kernel
theorem dX0_toneAt_48 : decode cX0_toneAt 48 = .ok (.iload 10, 2) := by decide +kernel
theorem dX0_toneAt_50 : decode cX0_toneAt 50 = .ok (.iload_n 2, 1) := by decide +kernel
theorem dX0_toneAt_51 : decode cX0_toneAt 51 = .ok (.iload_n 3, 1) := by decide +kernel
theorem dX0_toneAt_52 : decode cX0_toneAt 52 = .ok (.iload 4, 2) := by decide +kernel
theorem dX0_toneAt_54 : decode cX0_toneAt 54 = .ok (.iload 5, 2) := by decide +kernel
theorem dX0_toneAt_56 : decode cX0_toneAt 56 = .ok (.invokestatic 15, 3) := by decide +kernel
theorem dX0_toneAt_59 : decode cX0_toneAt 59 = .ok (.iastore, 1) := by decide +kernel
theorem dX0_toneAt_60 : decode cX0_toneAt 60 = .ok (.iinc 6 1, 3) := by decide +kernel
theorem dX0_toneAt_63 : decode cX0_toneAt 63 = .ok (.goto 42, 3) := by decide +kernel
theorem dX0_toneAt_66 : decode cX0_toneAt 66 = .ok (.iload 6, 2) := by decide +kernel
theorem dX0_toneAt_68 : decode cX0_toneAt 68 = .ok (.iconst 2, 1) := by decide +kernel
theorem dX0_toneAt_69 : decode cX0_toneAt 69 = .ok (.if_icmp .lt 36, 3) := by decide +kernel
theorem dX0_toneAt_72 : decode cX0_toneAt 72 = .ok (.iload 6, 2) := by decide +kernel
theorem dX0_toneAt_74 : decode cX0_toneAt 74 = .ok (.aload_n 1, 1) := by decide +kernel
theorem dX0_toneAt_75 : decode cX0_toneAt 75 = .ok (.arraylength, 1) := by decide +kernel
theorem dX0_toneAt_76 : decode cX0_toneAt 76 = .ok (.if_icmp .gt 29, 3) := by decide +kernel
theorem dX0_toneAt_79 : decode cX0_toneAt 79 = .ok (.iinc 6 (-1), 3) := by decide +kernel
theorem dX0_toneAt_82 : decode cX0_toneAt 82 = .ok (.aload_n 1, 1) := by decide +kernel
theorem dX0_toneAt_83 : decode cX0_toneAt 83 = .ok (.iload 6, 2) := by decide +kernel
theorem dX0_toneAt_85 : decode cX0_toneAt 85 = .ok (.iconst 1, 1) := by decide +kernel
theorem dX0_toneAt_86 : decode cX0_toneAt 86 = .ok (.isub, 1) := by decide +kernel
theorem dX0_toneAt_87 : decode cX0_toneAt 87 = .ok (.iload 10, 2) := by decide +kernel
theorem dX0_toneAt_89 : decode cX0_toneAt 89 = .ok (.aload_n 1, 1) := by decide +kernel
theorem dX0_toneAt_90 : decode cX0_toneAt 90 = .ok (.iload 6, 2) := by decide +kernel
theorem dX0_toneAt_92 : decode cX0_toneAt 92 = .ok (.iconst 1, 1) := by decide +kernel
theorem dX0_toneAt_93 : decode cX0_toneAt 93 = .ok (.isub, 1) := by decide +kernel
theorem dX0_toneAt_94 : decode cX0_toneAt 94 = .ok (.iaload, 1) := by decide +kernel
theorem dX0_toneAt_95 : decode cX0_toneAt 95 = .ok (.i2l, 1) := by decide +kernel
theorem dX0_toneAt_96 : decode cX0_toneAt 96 = .ok (.aload_n 1, 1) := by decide +kernel
theorem dX0_toneAt_97 : decode cX0_toneAt 97 = .ok (.iload 6, 2) := by decide +kernel
theorem dX0_toneAt_99 : decode cX0_toneAt 99 = .ok (.iaload, 1) := by decide +kernel
theorem dX0_toneAt_100 : decode cX0_toneAt 100 = .ok (.i2l, 1) := by decide +kernel
theorem dX0_toneAt_101 : decode cX0_toneAt 101 = .ok (.invokestatic 19, 3) := by decide +kernel
theorem dX0_toneAt_104 : decode cX0_toneAt 104 = .ok (.iastore, 1) := by decide +kernel
theorem dX0_toneAt_105 : decode cX0_toneAt 105 = .ok (.iinc 9 1, 3) := by decide +kernel
theorem dX0_toneAt_108 : decode cX0_toneAt 108 = .ok (.goto (-91), 3) := by decide +kernel
theorem dX0_toneAt_111 : decode cX0_toneAt 111 = .ok (.iload 6, 2) := by decide +kernel
theorem dX0_toneAt_113 : decode cX0_toneAt 113 = .ok (.iconst 1, 1) := by decide +kernel
theorem dX0_toneAt_114 : decode cX0_toneAt 114 = .ok (.if_icmp .ge 7, 3) := by decide +kernel
theorem dX0_toneAt_117 : decode cX0_toneAt 117 = .ok (.iconst 0, 1) := by decide +kernel
theorem dX0_toneAt_118 : decode cX0_toneAt 118 = .ok (.goto 13, 3) := by decide +kernel
theorem dX0_toneAt_121 : decode cX0_toneAt 121 = .ok (.aload_n 1, 1) := by decide +kernel
theorem dX0_toneAt_122 : decode cX0_toneAt 122 = .ok (.iconst 0, 1) := by decide +kernel
theorem dX0_toneAt_123 : decode cX0_toneAt 123 = .ok (.iaload, 1) := by decide +kernel
theorem dX0_toneAt_124 : decode cX0_toneAt 124 = .ok (.i2l, 1) := by decide +kernel
theorem dX0_toneAt_125 : decode cX0_toneAt 125 = .ok (.iconst 0, 1) := by decide +kernel
theorem dX0_toneAt_126 : decode cX0_toneAt 126 = .ok (.bipush 100, 2) := by decide +kernel
theorem dX0_toneAt_128 : decode cX0_toneAt 128 = .ok (.invokestatic 23, 3) := by decide +kernel
theorem dX0_toneAt_131 : decode cX0_toneAt 131 = .ok (.ireturn, 1) := by decide +kernel
theorem dX0_operand_0 : decode cX0_operand 0 = .ok (.iload_n 0, 1) := by decide +kernel
theorem dX0_operand_1 : decode cX0_operand 1 = .ok (.tableswitch 40 (-4) (-1) #[37, 35, 33, 31], 31) := by decide +kernel
theorem dX0_operand_32 : decode cX0_operand 32 = .ok (.iload_n 1, 1) := by decide +kernel
theorem dX0_operand_33 : decode cX0_operand 33 = .ok (.ireturn, 1) := by decide +kernel
theorem dX0_operand_34 : decode cX0_operand 34 = .ok (.iload_n 2, 1) := by decide +kernel
theorem dX0_operand_35 : decode cX0_operand 35 = .ok (.ireturn, 1) := by decide +kernel
theorem dX0_operand_36 : decode cX0_operand 36 = .ok (.iload_n 3, 1) := by decide +kernel
theorem dX0_operand_37 : decode cX0_operand 37 = .ok (.ireturn, 1) := by decide +kernel
theorem dX0_operand_38 : decode cX0_operand 38 = .ok (.iload 4, 2) := by decide +kernel
theorem dX0_operand_40 : decode cX0_operand 40 = .ok (.ireturn, 1) := by decide +kernel
theorem dX0_operand_41 : decode cX0_operand 41 = .ok (.iload_n 0, 1) := by decide +kernel
theorem dX0_operand_42 : decode cX0_operand 42 = .ok (.ireturn, 1) := by decide +kernel
theorem dX0_result_0 : decode cX0_result 0 = .ok (.iload_n 0, 1) := by decide +kernel
theorem dX0_result_1 : decode cX0_result 1 = .ok (.tableswitch 60 (-7) (-5) #[49, 38, 27], 27) := by decide +kernel
theorem dX0_result_28 : decode cX0_result 28 = .ok (.lload_n 1, 1) := by decide +kernel
theorem dX0_result_29 : decode cX0_result 29 = .ok (.lload_n 3, 1) := by decide +kernel
theorem dX0_result_30 : decode cX0_result 30 = .ok (.ladd, 1) := by decide +kernel
theorem dX0_result_31 : decode cX0_result 31 = .ok (.ldc 27, 2) := by decide +kernel
theorem dX0_result_33 : decode cX0_result 33 = .ok (.ldc 28, 2) := by decide +kernel
theorem dX0_result_35 : decode cX0_result 35 = .ok (.invokestatic 23, 3) := by decide +kernel
theorem dX0_result_38 : decode cX0_result 38 = .ok (.ireturn, 1) := by decide +kernel
theorem dX0_result_39 : decode cX0_result 39 = .ok (.lload_n 1, 1) := by decide +kernel
theorem dX0_result_40 : decode cX0_result 40 = .ok (.lload_n 3, 1) := by decide +kernel
theorem dX0_result_41 : decode cX0_result 41 = .ok (.lsub, 1) := by decide +kernel
theorem dX0_result_42 : decode cX0_result 42 = .ok (.ldc 27, 2) := by decide +kernel
theorem dX0_result_44 : decode cX0_result 44 = .ok (.ldc 28, 2) := by decide +kernel
theorem dX0_result_46 : decode cX0_result 46 = .ok (.invokestatic 23, 3) := by decide +kernel
theorem dX0_result_49 : decode cX0_result 49 = .ok (.ireturn, 1) := by decide +kernel
theorem dX0_result_50 : decode cX0_result 50 = .ok (.lload_n 1, 1) := by decide +kernel
theorem dX0_result_51 : decode cX0_result 51 = .ok (.lload_n 3, 1) := by decide +kernel
theorem dX0_result_52 : decode cX0_result 52 = .ok (.lmul, 1) := by decide +kernel
theorem dX0_result_53 : decode cX0_result 53 = .ok (.ldc 27, 2) := by decide +kernel
theorem dX0_result_55 : decode cX0_result 55 = .ok (.ldc 28, 2) := by decide +kernel
theorem dX0_result_57 : decode cX0_result 57 = .ok (.invokestatic 23, 3) := by decide +kernel
theorem dX0_result_60 : decode cX0_result 60 = .ok (.ireturn, 1) := by decide +kernel
theorem dX0_result_61 : decode cX0_result 61 = .ok (.lload_n 3, 1) := by decide +kernel
theorem dX0_result_62 : decode cX0_result 62 = .ok (.lconst 0, 1) := by decide +kernel
theorem dX0_result_63 : decode cX0_result 63 = .ok (.lcmp, 1) := by decide +kernel
theorem dX0_result_64 : decode cX0_result 64 = .ok (.ifCond .ne 7, 3) := by decide +kernel
theorem dX0_result_67 : decode cX0_result 67 = .ok (.iconst 0, 1) := by decide +kernel
theorem dX0_result_68 : decode cX0_result 68 = .ok (.goto 13, 3) := by decide +kernel
theorem dX0_result_71 : decode cX0_result 71 = .ok (.lload_n 1, 1) := by decide +kernel
theorem dX0_result_72 : decode cX0_result 72 = .ok (.lload_n 3, 1) := by decide +kernel
theorem dX0_result_73 : decode cX0_result 73 = .ok (.ldiv, 1) := by decide +kernel
theorem dX0_result_74 : decode cX0_result 74 = .ok (.ldc 27, 2) := by decide +kernel
theorem dX0_result_76 : decode cX0_result 76 = .ok (.ldc 28, 2) := by decide +kernel
theorem dX0_result_78 : decode cX0_result 78 = .ok (.invokestatic 23, 3) := by decide +kernel
theorem dX0_result_81 : decode cX0_result 81 = .ok (.ireturn, 1) := by decide +kernel
theorem dX1_init_0 : decode cX1_init 0 = .ok (.aload_n 0, 1) := by decide +kernel
theorem dX1_init_1 : decode cX1_init 1 = .ok (.invokespecial 1, 3) := by decide +kernel
theorem dX1_init_4 : decode cX1_init 4 = .ok (.aload_n 0, 1) := by decide +kernel
theorem dX1_init_5 : decode cX1_init 5 = .ok (.iconst 1, 1) := by decide +kernel
theorem dX1_init_6 : decode cX1_init 6 = .ok (.putfield 7, 3) := by decide +kernel
theorem dX1_init_9 : decode cX1_init 9 = .ok (.return_, 1) := by decide +kernel
theorem dX1_p_0 : decode cX1_p 0 = .ok (.aload_n 0, 1) := by decide +kernel
theorem dX1_p_1 : decode cX1_p 1 = .ok (.getfield 7, 3) := by decide +kernel
theorem dX1_p_4 : decode cX1_p 4 = .ok (.aload_n 0, 1) := by decide +kernel
theorem dX1_p_5 : decode cX1_p 5 = .ok (.getfield 7, 3) := by decide +kernel
theorem dX1_p_8 : decode cX1_p 8 = .ok (.imul, 1) := by decide +kernel
theorem dX1_p_9 : decode cX1_p 9 = .ok (.aload_n 0, 1) := by decide +kernel
theorem dX1_p_10 : decode cX1_p 10 = .ok (.getfield 13, 3) := by decide +kernel
theorem dX1_p_13 : decode cX1_p 13 = .ok (.aload_n 0, 1) := by decide +kernel
theorem dX1_p_14 : decode cX1_p 14 = .ok (.getfield 13, 3) := by decide +kernel
theorem dX1_p_17 : decode cX1_p 17 = .ok (.imul, 1) := by decide +kernel
theorem dX1_p_18 : decode cX1_p 18 = .ok (.iadd, 1) := by decide +kernel
theorem dX1_p_19 : decode cX1_p 19 = .ok (.ireturn, 1) := by decide +kernel
theorem dX1_become_0 : decode cX1_become 0 = .ok (.aload_n 0, 1) := by decide +kernel
theorem dX1_become_1 : decode cX1_become 1 = .ok (.aload_n 1, 1) := by decide +kernel
theorem dX1_become_2 : decode cX1_become 2 = .ok (.getfield 16, 3) := by decide +kernel
theorem dX1_become_5 : decode cX1_become 5 = .ok (.putfield 16, 3) := by decide +kernel
theorem dX1_become_8 : decode cX1_become 8 = .ok (.aload_n 0, 1) := by decide +kernel
theorem dX1_become_9 : decode cX1_become 9 = .ok (.aload_n 1, 1) := by decide +kernel
theorem dX1_become_10 : decode cX1_become 10 = .ok (.getfield 7, 3) := by decide +kernel
theorem dX1_become_13 : decode cX1_become 13 = .ok (.putfield 7, 3) := by decide +kernel
theorem dX1_become_16 : decode cX1_become 16 = .ok (.aload_n 0, 1) := by decide +kernel
theorem dX1_become_17 : decode cX1_become 17 = .ok (.aload_n 1, 1) := by decide +kernel
theorem dX1_become_18 : decode cX1_become 18 = .ok (.getfield 13, 3) := by decide +kernel
theorem dX1_become_21 : decode cX1_become 21 = .ok (.putfield 13, 3) := by decide +kernel
theorem dX1_become_24 : decode cX1_become 24 = .ok (.aload_n 0, 1) := by decide +kernel
theorem dX1_become_25 : decode cX1_become 25 = .ok (.aload_n 1, 1) := by decide +kernel
theorem dX1_become_26 : decode cX1_become 26 = .ok (.getfield 20, 3) := by decide +kernel
theorem dX1_become_29 : decode cX1_become 29 = .ok (.putfield 20, 3) := by decide +kernel
theorem dX1_become_32 : decode cX1_become 32 = .ok (.aload_n 0, 1) := by decide +kernel
theorem dX1_become_33 : decode cX1_become 33 = .ok (.aload_n 1, 1) := by decide +kernel
theorem dX1_become_34 : decode cX1_become 34 = .ok (.getfield 23, 3) := by decide +kernel
theorem dX1_become_37 : decode cX1_become 37 = .ok (.putfield 23, 3) := by decide +kernel
theorem dX1_become_40 : decode cX1_become 40 = .ok (.aload_n 0, 1) := by decide +kernel
theorem dX1_become_41 : decode cX1_become 41 = .ok (.aload_n 1, 1) := by decide +kernel
theorem dX1_become_42 : decode cX1_become 42 = .ok (.getfield 26, 3) := by decide +kernel
theorem dX1_become_45 : decode cX1_become 45 = .ok (.putfield 26, 3) := by decide +kernel
theorem dX1_become_48 : decode cX1_become 48 = .ok (.aload_n 0, 1) := by decide +kernel
theorem dX1_become_49 : decode cX1_become 49 = .ok (.aload_n 1, 1) := by decide +kernel
theorem dX1_become_50 : decode cX1_become 50 = .ok (.getfield 29, 3) := by decide +kernel
theorem dX1_become_53 : decode cX1_become 53 = .ok (.putfield 29, 3) := by decide +kernel
theorem dX1_become_56 : decode cX1_become 56 = .ok (.aload_n 0, 1) := by decide +kernel
theorem dX1_become_57 : decode cX1_become 57 = .ok (.aload_n 1, 1) := by decide +kernel
theorem dX1_become_58 : decode cX1_become 58 = .ok (.getfield 32, 3) := by decide +kernel
theorem dX1_become_61 : decode cX1_become 61 = .ok (.putfield 32, 3) := by decide +kernel
theorem dX1_become_64 : decode cX1_become 64 = .ok (.return_, 1) := by decide +kernel
theorem dX2_init_0 : decode cX2_init 0 = .ok (.aload_n 0, 1) := by decide +kernel
theorem dX2_init_1 : decode cX2_init 1 = .ok (.invokespecial 3, 3) := by decide +kernel
theorem dX2_init_4 : decode cX2_init 4 = .ok (.aload_n 0, 1) := by decide +kernel
theorem dX2_init_5 : decode cX2_init 5 = .ok (.iconst 4, 1) := by decide +kernel
theorem dX2_init_6 : decode cX2_init 6 = .ok (.sipush 192, 3) := by decide +kernel
theorem dX2_init_9 : decode cX2_init 9 = .ok (.multianewarray 9 2, 4) := by decide +kernel
theorem dX2_init_13 : decode cX2_init 13 = .ok (.putfield 11, 3) := by decide +kernel
theorem dX2_init_16 : decode cX2_init 16 = .ok (.aload_n 0, 1) := by decide +kernel
theorem dX2_init_17 : decode cX2_init 17 = .ok (.sipush 192, 3) := by decide +kernel
theorem dX2_init_20 : decode cX2_init 20 = .ok (.newarray .int, 2) := by decide +kernel
theorem dX2_init_22 : decode cX2_init 22 = .ok (.putfield 16, 3) := by decide +kernel
theorem dX2_init_25 : decode cX2_init 25 = .ok (.aload_n 0, 1) := by decide +kernel
theorem dX2_init_26 : decode cX2_init 26 = .ok (.iconst 4, 1) := by decide +kernel
theorem dX2_init_27 : decode cX2_init 27 = .ok (.newarray .int, 2) := by decide +kernel
theorem dX2_init_29 : decode cX2_init 29 = .ok (.putfield 20, 3) := by decide +kernel
theorem dX2_init_32 : decode cX2_init 32 = .ok (.aload_n 0, 1) := by decide +kernel
theorem dX2_init_33 : decode cX2_init 33 = .ok (.iconst 4, 1) := by decide +kernel
theorem dX2_init_34 : decode cX2_init 34 = .ok (.anewarray 23, 3) := by decide +kernel
theorem dX2_init_37 : decode cX2_init 37 = .ok (.putfield 25, 3) := by decide +kernel
theorem dX2_init_40 : decode cX2_init 40 = .ok (.aload_n 0, 1) := by decide +kernel
theorem dX2_init_41 : decode cX2_init 41 = .ok (.sipush 650, 3) := by decide +kernel
theorem dX2_init_44 : decode cX2_init 44 = .ok (.newarray .int, 2) := by decide +kernel
theorem dX2_init_46 : decode cX2_init 46 = .ok (.putfield 29, 3) := by decide +kernel
theorem dX2_init_49 : decode cX2_init 49 = .ok (.aload_n 0, 1) := by decide +kernel
theorem dX2_init_50 : decode cX2_init 50 = .ok (.bipush 11, 2) := by decide +kernel
theorem dX2_init_52 : decode cX2_init 52 = .ok (.newarray .int, 2) := by decide +kernel
theorem dX2_init_54 : decode cX2_init 54 = .ok (.putfield 34, 3) := by decide +kernel
theorem dX2_init_57 : decode cX2_init 57 = .ok (.aload_n 0, 1) := by decide +kernel
theorem dX2_init_58 : decode cX2_init 58 = .ok (.iconst 0, 1) := by decide +kernel
theorem dX2_init_59 : decode cX2_init 59 = .ok (.putfield 37, 3) := by decide +kernel
theorem dX2_init_62 : decode cX2_init 62 = .ok (.aload_n 0, 1) := by decide +kernel
theorem dX2_init_63 : decode cX2_init 63 = .ok (.iconst 0, 1) := by decide +kernel
theorem dX2_init_64 : decode cX2_init 64 = .ok (.putfield 41, 3) := by decide +kernel
theorem dX2_init_67 : decode cX2_init 67 = .ok (.iconst 0, 1) := by decide +kernel
theorem dX2_init_68 : decode cX2_init 68 = .ok (.istore_n 1, 1) := by decide +kernel
theorem dX2_init_69 : decode cX2_init 69 = .ok (.iload_n 1, 1) := by decide +kernel
theorem dX2_init_70 : decode cX2_init 70 = .ok (.iconst 4, 1) := by decide +kernel
theorem dX2_init_71 : decode cX2_init 71 = .ok (.if_icmp .ge 22, 3) := by decide +kernel
theorem dX2_init_74 : decode cX2_init 74 = .ok (.aload_n 0, 1) := by decide +kernel
theorem dX2_init_75 : decode cX2_init 75 = .ok (.getfield 25, 3) := by decide +kernel
theorem dX2_init_78 : decode cX2_init 78 = .ok (.iload_n 1, 1) := by decide +kernel
theorem dX2_init_79 : decode cX2_init 79 = .ok (.new 23, 3) := by decide +kernel
theorem dX2_init_82 : decode cX2_init 82 = .ok (.dup, 1) := by decide +kernel
theorem dX2_init_83 : decode cX2_init 83 = .ok (.invokespecial 44, 3) := by decide +kernel
theorem dX2_init_86 : decode cX2_init 86 = .ok (.aastore, 1) := by decide +kernel
theorem dX2_init_87 : decode cX2_init 87 = .ok (.iinc 1 1, 3) := by decide +kernel
theorem dX2_init_90 : decode cX2_init 90 = .ok (.goto (-21), 3) := by decide +kernel
theorem dX2_init_93 : decode cX2_init 93 = .ok (.return_, 1) := by decide +kernel
theorem dX2_forgetTones_0 : decode cX2_forgetTones 0 = .ok (.aload_n 0, 1) := by decide +kernel
theorem dX2_forgetTones_1 : decode cX2_forgetTones 1 = .ok (.iconst 0, 1) := by decide +kernel
theorem dX2_forgetTones_2 : decode cX2_forgetTones 2 = .ok (.putfield 37, 3) := by decide +kernel
theorem dX2_forgetTones_5 : decode cX2_forgetTones 5 = .ok (.aload_n 0, 1) := by decide +kernel
theorem dX2_forgetTones_6 : decode cX2_forgetTones 6 = .ok (.iconst 0, 1) := by decide +kernel
theorem dX2_forgetTones_7 : decode cX2_forgetTones 7 = .ok (.putfield 41, 3) := by decide +kernel
theorem dX2_forgetTones_10 : decode cX2_forgetTones 10 = .ok (.return_, 1) := by decide +kernel
theorem dX2_forgetDots_0 : decode cX2_forgetDots 0 = .ok (.aload_n 0, 1) := by decide +kernel
theorem dX2_forgetDots_1 : decode cX2_forgetDots 1 = .ok (.iconst 0, 1) := by decide +kernel
theorem dX2_forgetDots_2 : decode cX2_forgetDots 2 = .ok (.putfield 41, 3) := by decide +kernel
theorem dX2_forgetDots_5 : decode cX2_forgetDots 5 = .ok (.return_, 1) := by decide +kernel
theorem dX2_update_0 : decode cX2_update 0 = .ok (.aload_n 0, 1) := by decide +kernel
theorem dX2_update_1 : decode cX2_update 1 = .ok (.getfield 37, 3) := by decide +kernel
theorem dX2_update_4 : decode cX2_update 4 = .ok (.ifCond .ne 30, 3) := by decide +kernel
theorem dX2_update_7 : decode cX2_update 7 = .ok (.iconst 0, 1) := by decide +kernel
theorem dX2_update_8 : decode cX2_update 8 = .ok (.istore_n 2, 1) := by decide +kernel
theorem dX2_update_9 : decode cX2_update 9 = .ok (.iload_n 2, 1) := by decide +kernel
theorem dX2_update_10 : decode cX2_update 10 = .ok (.aload_n 1, 1) := by decide +kernel
theorem dX2_update_11 : decode cX2_update 11 = .ok (.getfield 45, 3) := by decide +kernel
theorem dX2_update_14 : decode cX2_update 14 = .ok (.if_icmp .ge 15, 3) := by decide +kernel
theorem dX2_update_17 : decode cX2_update 17 = .ok (.aload_n 0, 1) := by decide +kernel
theorem dX2_update_18 : decode cX2_update 18 = .ok (.aload_n 1, 1) := by decide +kernel
theorem dX2_update_19 : decode cX2_update 19 = .ok (.iload_n 2, 1) := by decide +kernel
theorem dX2_update_20 : decode cX2_update 20 = .ok (.invokevirtual 51, 3) := by decide +kernel
theorem dX2_update_23 : decode cX2_update 23 = .ok (.iinc 2 1, 3) := by decide +kernel
theorem dX2_update_26 : decode cX2_update 26 = .ok (.goto (-17), 3) := by decide +kernel
theorem dX2_update_29 : decode cX2_update 29 = .ok (.aload_n 0, 1) := by decide +kernel
theorem dX2_update_30 : decode cX2_update 30 = .ok (.iconst 1, 1) := by decide +kernel
theorem dX2_update_31 : decode cX2_update 31 = .ok (.putfield 37, 3) := by decide +kernel
theorem dX2_update_34 : decode cX2_update 34 = .ok (.aload_n 0, 1) := by decide +kernel
theorem dX2_update_35 : decode cX2_update 35 = .ok (.getfield 41, 3) := by decide +kernel
theorem dX2_update_38 : decode cX2_update 38 = .ok (.ifCond .ne 38, 3) := by decide +kernel
theorem dX2_update_41 : decode cX2_update 41 = .ok (.aload_n 0, 1) := by decide +kernel
theorem dX2_update_42 : decode cX2_update 42 = .ok (.getfield 16, 3) := by decide +kernel
theorem dX2_update_45 : decode cX2_update 45 = .ok (.iconst 0, 1) := by decide +kernel
theorem dX2_update_46 : decode cX2_update 46 = .ok (.invokestatic 55, 3) := by decide +kernel
theorem dX2_update_49 : decode cX2_update 49 = .ok (.iconst 0, 1) := by decide +kernel
theorem dX2_update_50 : decode cX2_update 50 = .ok (.istore_n 2, 1) := by decide +kernel
theorem dX2_update_51 : decode cX2_update 51 = .ok (.iload_n 2, 1) := by decide +kernel
theorem dX2_update_52 : decode cX2_update 52 = .ok (.aload_n 1, 1) := by decide +kernel
theorem dX2_update_53 : decode cX2_update 53 = .ok (.getfield 45, 3) := by decide +kernel
theorem dX2_update_56 : decode cX2_update 56 = .ok (.if_icmp .ge 15, 3) := by decide +kernel
theorem dX2_update_59 : decode cX2_update 59 = .ok (.aload_n 0, 1) := by decide +kernel
theorem dX2_update_60 : decode cX2_update 60 = .ok (.aload_n 1, 1) := by decide +kernel
theorem dX2_update_61 : decode cX2_update 61 = .ok (.iload_n 2, 1) := by decide +kernel
theorem dX2_update_62 : decode cX2_update 62 = .ok (.invokevirtual 61, 3) := by decide +kernel
theorem dX2_update_65 : decode cX2_update 65 = .ok (.iinc 2 1, 3) := by decide +kernel
theorem dX2_update_68 : decode cX2_update 68 = .ok (.goto (-17), 3) := by decide +kernel
theorem dX2_update_71 : decode cX2_update 71 = .ok (.aload_n 0, 1) := by decide +kernel
theorem dX2_update_72 : decode cX2_update 72 = .ok (.iconst 1, 1) := by decide +kernel
theorem dX2_update_73 : decode cX2_update 73 = .ok (.putfield 41, 3) := by decide +kernel
theorem dX2_update_76 : decode cX2_update 76 = .ok (.return_, 1) := by decide +kernel
theorem dX2_takeTones_0 : decode cX2_takeTones 0 = .ok (.aload_n 1, 1) := by decide +kernel
theorem dX2_takeTones_1 : decode cX2_takeTones 1 = .ok (.getfield 64, 3) := by decide +kernel
theorem dX2_takeTones_4 : decode cX2_takeTones 4 = .ok (.iload_n 2, 1) := by decide +kernel
theorem dX2_takeTones_5 : decode cX2_takeTones 5 = .ok (.aaload, 1) := by decide +kernel
theorem dX2_takeTones_6 : decode cX2_takeTones 6 = .ok (.getfield 68, 3) := by decide +kernel
theorem dX2_takeTones_9 : decode cX2_takeTones 9 = .ok (.astore_n 3, 1) := by decide +kernel
theorem dX2_takeTones_10 : decode cX2_takeTones 10 = .ok (.aload_n 0, 1) := by decide +kernel
theorem dX2_takeTones_11 : decode cX2_takeTones 11 = .ok (.getfield 11, 3) := by decide +kernel
theorem dX2_takeTones_14 : decode cX2_takeTones 14 = .ok (.iload_n 2, 1) := by decide +kernel
theorem dX2_takeTones_15 : decode cX2_takeTones 15 = .ok (.aaload, 1) := by decide +kernel
theorem dX2_takeTones_16 : decode cX2_takeTones 16 = .ok (.astore 4, 2) := by decide +kernel
theorem dX2_takeTones_18 : decode cX2_takeTones 18 = .ok (.iconst 0, 1) := by decide +kernel
theorem dX2_takeTones_19 : decode cX2_takeTones 19 = .ok (.istore 5, 2) := by decide +kernel
theorem dX2_takeTones_21 : decode cX2_takeTones 21 = .ok (.iload 5, 2) := by decide +kernel
theorem dX2_takeTones_23 : decode cX2_takeTones 23 = .ok (.aload_n 1, 1) := by decide +kernel
theorem dX2_takeTones_24 : decode cX2_takeTones 24 = .ok (.getfield 74, 3) := by decide +kernel
theorem dX2_takeTones_27 : decode cX2_takeTones 27 = .ok (.if_icmp .ge 75, 3) := by decide +kernel
theorem dX2_takeTones_30 : decode cX2_takeTones 30 = .ok (.iconst 0, 1) := by decide +kernel
theorem dX2_takeTones_31 : decode cX2_takeTones 31 = .ok (.istore 6, 2) := by decide +kernel
theorem dX2_takeTones_33 : decode cX2_takeTones 33 = .ok (.iload 6, 2) := by decide +kernel
theorem dX2_takeTones_35 : decode cX2_takeTones 35 = .ok (.aload_n 1, 1) := by decide +kernel
theorem dX2_takeTones_36 : decode cX2_takeTones 36 = .ok (.getfield 77, 3) := by decide +kernel
theorem dX2_takeTones_39 : decode cX2_takeTones 39 = .ok (.if_icmp .ge 57, 3) := by decide +kernel
theorem dX2_takeTones_42 : decode cX2_takeTones 42 = .ok (.aload_n 1, 1) := by decide +kernel
theorem dX2_takeTones_43 : decode cX2_takeTones 43 = .ok (.iload 6, 2) := by decide +kernel
theorem dX2_takeTones_45 : decode cX2_takeTones 45 = .ok (.iload 5, 2) := by decide +kernel
theorem dX2_takeTones_47 : decode cX2_takeTones 47 = .ok (.invokevirtual 80, 3) := by decide +kernel
theorem dX2_takeTones_50 : decode cX2_takeTones 50 = .ok (.istore 7, 2) := by decide +kernel
theorem dX2_takeTones_52 : decode cX2_takeTones 52 = .ok (.aload_n 1, 1) := by decide +kernel
theorem dX2_takeTones_53 : decode cX2_takeTones 53 = .ok (.getfield 84, 3) := by decide +kernel
theorem dX2_takeTones_56 : decode cX2_takeTones 56 = .ok (.iload 7, 2) := by decide +kernel
theorem dX2_takeTones_58 : decode cX2_takeTones 58 = .ok (.iaload, 1) := by decide +kernel
theorem dX2_takeTones_59 : decode cX2_takeTones 59 = .ok (.istore 8, 2) := by decide +kernel
theorem dX2_takeTones_61 : decode cX2_takeTones 61 = .ok (.aload 4, 2) := by decide +kernel
theorem dX2_takeTones_63 : decode cX2_takeTones 63 = .ok (.iload 7, 2) := by decide +kernel
theorem dX2_takeTones_65 : decode cX2_takeTones 65 = .ok (.aload_n 3, 1) := by decide +kernel
theorem dX2_takeTones_66 : decode cX2_takeTones 66 = .ok (.ifnonnull 8, 3) := by decide +kernel
theorem dX2_takeTones_69 : decode cX2_takeTones 69 = .ok (.iload 8, 2) := by decide +kernel
theorem dX2_takeTones_71 : decode cX2_takeTones 71 = .ok (.goto 18, 3) := by decide +kernel
theorem dX2_takeTones_74 : decode cX2_takeTones 74 = .ok (.aload_n 3, 1) := by decide +kernel
theorem dX2_takeTones_75 : decode cX2_takeTones 75 = .ok (.aload_n 0, 1) := by decide +kernel
theorem dX2_takeTones_76 : decode cX2_takeTones 76 = .ok (.getfield 34, 3) := by decide +kernel
theorem dX2_takeTones_79 : decode cX2_takeTones 79 = .ok (.iload 8, 2) := by decide +kernel
theorem dX2_takeTones_81 : decode cX2_takeTones 81 = .ok (.iload 6, 2) := by decide +kernel
theorem dX2_takeTones_83 : decode cX2_takeTones 83 = .ok (.iload 5, 2) := by decide +kernel
theorem dX2_takeTones_85 : decode cX2_takeTones 85 = .ok (.iload_n 2, 1) := by decide +kernel
theorem dX2_takeTones_86 : decode cX2_takeTones 86 = .ok (.invokevirtual 86, 3) := by decide +kernel
theorem dX2_takeTones_89 : decode cX2_takeTones 89 = .ok (.iastore, 1) := by decide +kernel
theorem dX2_takeTones_90 : decode cX2_takeTones 90 = .ok (.iinc 6 1, 3) := by decide +kernel
theorem dX2_takeTones_93 : decode cX2_takeTones 93 = .ok (.goto (-60), 3) := by decide +kernel
theorem dX2_takeTones_96 : decode cX2_takeTones 96 = .ok (.iinc 5 1, 3) := by decide +kernel
theorem dX2_takeTones_99 : decode cX2_takeTones 99 = .ok (.goto (-78), 3) := by decide +kernel
theorem dX2_takeTones_102 : decode cX2_takeTones 102 = .ok (.return_, 1) := by decide +kernel
theorem dX2_putDots_0 : decode cX2_putDots 0 = .ok (.aload_n 0, 1) := by decide +kernel
theorem dX2_putDots_1 : decode cX2_putDots 1 = .ok (.getfield 25, 3) := by decide +kernel
theorem dX2_putDots_4 : decode cX2_putDots 4 = .ok (.iload_n 2, 1) := by decide +kernel
theorem dX2_putDots_5 : decode cX2_putDots 5 = .ok (.aaload, 1) := by decide +kernel
theorem dX2_putDots_6 : decode cX2_putDots 6 = .ok (.aload_n 1, 1) := by decide +kernel
theorem dX2_putDots_7 : decode cX2_putDots 7 = .ok (.getfield 64, 3) := by decide +kernel
theorem dX2_putDots_10 : decode cX2_putDots 10 = .ok (.iload_n 2, 1) := by decide +kernel
theorem dX2_putDots_11 : decode cX2_putDots 11 = .ok (.aaload, 1) := by decide +kernel
theorem dX2_putDots_12 : decode cX2_putDots 12 = .ok (.aload_n 0, 1) := by decide +kernel
theorem dX2_putDots_13 : decode cX2_putDots 13 = .ok (.getfield 29, 3) := by decide +kernel
theorem dX2_putDots_16 : decode cX2_putDots 16 = .ok (.invokevirtual 90, 3) := by decide +kernel
theorem dX2_putDots_19 : decode cX2_putDots 19 = .ok (.iconst 0, 1) := by decide +kernel
theorem dX2_putDots_20 : decode cX2_putDots 20 = .ok (.istore_n 3, 1) := by decide +kernel
theorem dX2_putDots_21 : decode cX2_putDots 21 = .ok (.iconst 0, 1) := by decide +kernel
theorem dX2_putDots_22 : decode cX2_putDots 22 = .ok (.istore 4, 2) := by decide +kernel
theorem dX2_putDots_24 : decode cX2_putDots 24 = .ok (.iload 4, 2) := by decide +kernel
theorem dX2_putDots_26 : decode cX2_putDots 26 = .ok (.aload_n 1, 1) := by decide +kernel
theorem dX2_putDots_27 : decode cX2_putDots 27 = .ok (.getfield 74, 3) := by decide +kernel
theorem dX2_putDots_30 : decode cX2_putDots 30 = .ok (.if_icmp .ge 105, 3) := by decide +kernel
theorem dX2_putDots_33 : decode cX2_putDots 33 = .ok (.iconst 0, 1) := by decide +kernel
theorem dX2_putDots_34 : decode cX2_putDots 34 = .ok (.istore 5, 2) := by decide +kernel
theorem dX2_putDots_36 : decode cX2_putDots 36 = .ok (.iload 5, 2) := by decide +kernel
theorem dX2_putDots_38 : decode cX2_putDots 38 = .ok (.aload_n 1, 1) := by decide +kernel
theorem dX2_putDots_39 : decode cX2_putDots 39 = .ok (.getfield 77, 3) := by decide +kernel
theorem dX2_putDots_42 : decode cX2_putDots 42 = .ok (.if_icmp .ge 87, 3) := by decide +kernel
theorem dX2_putDots_45 : decode cX2_putDots 45 = .ok (.aload_n 1, 1) := by decide +kernel
theorem dX2_putDots_46 : decode cX2_putDots 46 = .ok (.iload 5, 2) := by decide +kernel
theorem dX2_putDots_48 : decode cX2_putDots 48 = .ok (.iload 4, 2) := by decide +kernel
theorem dX2_putDots_50 : decode cX2_putDots 50 = .ok (.invokevirtual 80, 3) := by decide +kernel
theorem dX2_putDots_53 : decode cX2_putDots 53 = .ok (.istore 6, 2) := by decide +kernel
theorem dX2_putDots_55 : decode cX2_putDots 55 = .ok (.aload_n 0, 1) := by decide +kernel
theorem dX2_putDots_56 : decode cX2_putDots 56 = .ok (.getfield 16, 3) := by decide +kernel
theorem dX2_putDots_59 : decode cX2_putDots 59 = .ok (.iload 6, 2) := by decide +kernel
theorem dX2_putDots_61 : decode cX2_putDots 61 = .ok (.iaload, 1) := by decide +kernel
theorem dX2_putDots_62 : decode cX2_putDots 62 = .ok (.invokestatic 94, 3) := by decide +kernel
theorem dX2_putDots_65 : decode cX2_putDots 65 = .ok (.aload_n 1, 1) := by decide +kernel
theorem dX2_putDots_66 : decode cX2_putDots 66 = .ok (.getfield 100, 3) := by decide +kernel
theorem dX2_putDots_69 : decode cX2_putDots 69 = .ok (.if_icmp .ge 7, 3) := by decide +kernel
theorem dX2_putDots_72 : decode cX2_putDots 72 = .ok (.iconst 1, 1) := by decide +kernel
theorem dX2_putDots_73 : decode cX2_putDots 73 = .ok (.goto 4, 3) := by decide +kernel
theorem dX2_putDots_76 : decode cX2_putDots 76 = .ok (.iconst 0, 1) := by decide +kernel
theorem dX2_putDots_77 : decode cX2_putDots 77 = .ok (.istore 7, 2) := by decide +kernel
theorem dX2_putDots_79 : decode cX2_putDots 79 = .ok (.iload 7, 2) := by decide +kernel
theorem dX2_putDots_81 : decode cX2_putDots 81 = .ok (.ifCond .eq 42, 3) := by decide +kernel
theorem dX2_putDots_84 : decode cX2_putDots 84 = .ok (.aload_n 1, 1) := by decide +kernel
theorem dX2_putDots_85 : decode cX2_putDots 85 = .ok (.iload_n 2, 1) := by decide +kernel
theorem dX2_putDots_86 : decode cX2_putDots 86 = .ok (.iload 6, 2) := by decide +kernel
theorem dX2_putDots_88 : decode cX2_putDots 88 = .ok (.invokevirtual 103, 3) := by decide +kernel
theorem dX2_putDots_91 : decode cX2_putDots 91 = .ok (.ifCond .ne 32, 3) := by decide +kernel
theorem dX2_putDots_94 : decode cX2_putDots 94 = .ok (.aload_n 0, 1) := by decide +kernel
theorem dX2_putDots_95 : decode cX2_putDots 95 = .ok (.aload_n 1, 1) := by decide +kernel
theorem dX2_putDots_96 : decode cX2_putDots 96 = .ok (.iload_n 2, 1) := by decide +kernel
theorem dX2_putDots_97 : decode cX2_putDots 97 = .ok (.iload 5, 2) := by decide +kernel
theorem dX2_putDots_99 : decode cX2_putDots 99 = .ok (.iload 4, 2) := by decide +kernel
theorem dX2_putDots_101 : decode cX2_putDots 101 = .ok (.invokevirtual 107, 3) := by decide +kernel
theorem dX2_putDots_104 : decode cX2_putDots 104 = .ok (.ifCond .eq 19, 3) := by decide +kernel
theorem dX2_putDots_107 : decode cX2_putDots 107 = .ok (.aload_n 0, 1) := by decide +kernel
theorem dX2_putDots_108 : decode cX2_putDots 108 = .ok (.getfield 16, 3) := by decide +kernel
theorem dX2_putDots_111 : decode cX2_putDots 111 = .ok (.iload 6, 2) := by decide +kernel
theorem dX2_putDots_113 : decode cX2_putDots 113 = .ok (.dup2, 1) := by decide +kernel
theorem dX2_putDots_114 : decode cX2_putDots 114 = .ok (.iaload, 1) := by decide +kernel
theorem dX2_putDots_115 : decode cX2_putDots 115 = .ok (.iconst 1, 1) := by decide +kernel
theorem dX2_putDots_116 : decode cX2_putDots 116 = .ok (.iload_n 2, 1) := by decide +kernel
theorem dX2_putDots_117 : decode cX2_putDots 117 = .ok (.ishl, 1) := by decide +kernel
theorem dX2_putDots_118 : decode cX2_putDots 118 = .ok (.ior, 1) := by decide +kernel
theorem dX2_putDots_119 : decode cX2_putDots 119 = .ok (.iastore, 1) := by decide +kernel
theorem dX2_putDots_120 : decode cX2_putDots 120 = .ok (.iinc 3 1, 3) := by decide +kernel
theorem dX2_putDots_123 : decode cX2_putDots 123 = .ok (.iinc 5 1, 3) := by decide +kernel
theorem dX2_putDots_126 : decode cX2_putDots 126 = .ok (.goto (-90), 3) := by decide +kernel
theorem dX2_putDots_129 : decode cX2_putDots 129 = .ok (.iinc 4 1, 3) := by decide +kernel
theorem dX2_putDots_132 : decode cX2_putDots 132 = .ok (.goto (-108), 3) := by decide +kernel
theorem dX2_putDots_135 : decode cX2_putDots 135 = .ok (.aload_n 0, 1) := by decide +kernel
theorem dX2_putDots_136 : decode cX2_putDots 136 = .ok (.getfield 20, 3) := by decide +kernel
theorem dX2_putDots_139 : decode cX2_putDots 139 = .ok (.iload_n 2, 1) := by decide +kernel
theorem dX2_putDots_140 : decode cX2_putDots 140 = .ok (.iload_n 3, 1) := by decide +kernel
theorem dX2_putDots_141 : decode cX2_putDots 141 = .ok (.iastore, 1) := by decide +kernel
theorem dX2_putDots_142 : decode cX2_putDots 142 = .ok (.return_, 1) := by decide +kernel
theorem dX2_rankAt_0 : decode cX2_rankAt 0 = .ok (.aload_n 0, 1) := by decide +kernel
theorem dX2_rankAt_1 : decode cX2_rankAt 1 = .ok (.getfield 25, 3) := by decide +kernel
theorem dX2_rankAt_4 : decode cX2_rankAt 4 = .ok (.iload_n 2, 1) := by decide +kernel
theorem dX2_rankAt_5 : decode cX2_rankAt 5 = .ok (.aaload, 1) := by decide +kernel
theorem dX2_rankAt_6 : decode cX2_rankAt 6 = .ok (.iload_n 3, 1) := by decide +kernel
theorem dX2_rankAt_7 : decode cX2_rankAt 7 = .ok (.aload_n 1, 1) := by decide +kernel
theorem dX2_rankAt_8 : decode cX2_rankAt 8 = .ok (.getfield 64, 3) := by decide +kernel
theorem dX2_rankAt_11 : decode cX2_rankAt 11 = .ok (.iload_n 2, 1) := by decide +kernel
theorem dX2_rankAt_12 : decode cX2_rankAt 12 = .ok (.aaload, 1) := by decide +kernel
theorem dX2_rankAt_13 : decode cX2_rankAt 13 = .ok (.getfield 111, 3) := by decide +kernel
theorem dX2_rankAt_16 : decode cX2_rankAt 16 = .ok (.iadd, 1) := by decide +kernel
theorem dX2_rankAt_17 : decode cX2_rankAt 17 = .ok (.iload 4, 2) := by decide +kernel
theorem dX2_rankAt_19 : decode cX2_rankAt 19 = .ok (.aload_n 1, 1) := by decide +kernel
theorem dX2_rankAt_20 : decode cX2_rankAt 20 = .ok (.getfield 64, 3) := by decide +kernel
theorem dX2_rankAt_23 : decode cX2_rankAt 23 = .ok (.iload_n 2, 1) := by decide +kernel
theorem dX2_rankAt_24 : decode cX2_rankAt 24 = .ok (.aaload, 1) := by decide +kernel
theorem dX2_rankAt_25 : decode cX2_rankAt 25 = .ok (.getfield 114, 3) := by decide +kernel
theorem dX2_rankAt_28 : decode cX2_rankAt 28 = .ok (.iadd, 1) := by decide +kernel
theorem dX2_rankAt_29 : decode cX2_rankAt 29 = .ok (.invokevirtual 117, 3) := by decide +kernel
theorem dX2_rankAt_32 : decode cX2_rankAt 32 = .ok (.ireturn, 1) := by decide +kernel
theorem dX2_isDark_0 : decode cX2_isDark 0 = .ok (.aload_n 1, 1) := by decide +kernel
theorem dX2_isDark_1 : decode cX2_isDark 1 = .ok (.getfield 64, 3) := by decide +kernel
theorem dX2_isDark_4 : decode cX2_isDark 4 = .ok (.iload_n 2, 1) := by decide +kernel
theorem dX2_isDark_5 : decode cX2_isDark 5 = .ok (.aaload, 1) := by decide +kernel
theorem dX2_isDark_6 : decode cX2_isDark 6 = .ok (.invokevirtual 120, 3) := by decide +kernel
theorem dX2_isDark_9 : decode cX2_isDark 9 = .ok (.istore 5, 2) := by decide +kernel
theorem dX2_isDark_11 : decode cX2_isDark 11 = .ok (.aload_n 0, 1) := by decide +kernel
theorem dX2_isDark_12 : decode cX2_isDark 12 = .ok (.aload_n 1, 1) := by decide +kernel
theorem dX2_isDark_13 : decode cX2_isDark 13 = .ok (.iload_n 2, 1) := by decide +kernel
theorem dX2_isDark_14 : decode cX2_isDark 14 = .ok (.iload_n 3, 1) := by decide +kernel
theorem dX2_isDark_15 : decode cX2_isDark 15 = .ok (.iload 4, 2) := by decide +kernel
theorem dX2_isDark_17 : decode cX2_isDark 17 = .ok (.invokevirtual 124, 3) := by decide +kernel
theorem dX2_isDark_20 : decode cX2_isDark 20 = .ok (.bipush 100, 2) := by decide +kernel
theorem dX2_isDark_22 : decode cX2_isDark 22 = .ok (.imul, 1) := by decide +kernel
theorem dX2_isDark_23 : decode cX2_isDark 23 = .ok (.aload_n 0, 1) := by decide +kernel
theorem dX2_isDark_24 : decode cX2_isDark 24 = .ok (.getfield 11, 3) := by decide +kernel
theorem dX2_isDark_27 : decode cX2_isDark 27 = .ok (.iload_n 2, 1) := by decide +kernel
theorem dX2_isDark_28 : decode cX2_isDark 28 = .ok (.aaload, 1) := by decide +kernel
theorem dX2_isDark_29 : decode cX2_isDark 29 = .ok (.aload_n 1, 1) := by decide +kernel
theorem dX2_isDark_30 : decode cX2_isDark 30 = .ok (.iload_n 3, 1) := by decide +kernel
theorem dX2_isDark_31 : decode cX2_isDark 31 = .ok (.iload 4, 2) := by decide +kernel
theorem dX2_isDark_33 : decode cX2_isDark 33 = .ok (.invokevirtual 80, 3) := by decide +kernel
theorem dX2_isDark_36 : decode cX2_isDark 36 = .ok (.iaload, 1) := by decide +kernel
theorem dX2_isDark_37 : decode cX2_isDark 37 = .ok (.iload 5, 2) := by decide +kernel
theorem dX2_isDark_39 : decode cX2_isDark 39 = .ok (.imul, 1) := by decide +kernel
theorem dX2_isDark_40 : decode cX2_isDark 40 = .ok (.iload 5, 2) := by decide +kernel
theorem dX2_isDark_42 : decode cX2_isDark 42 = .ok (.imul, 1) := by decide +kernel
theorem dX2_isDark_43 : decode cX2_isDark 43 = .ok (.if_icmp .ge 7, 3) := by decide +kernel
theorem dX2_isDark_46 : decode cX2_isDark 46 = .ok (.iconst 1, 1) := by decide +kernel
theorem dX2_isDark_47 : decode cX2_isDark 47 = .ok (.goto 4, 3) := by decide +kernel
theorem dX2_isDark_50 : decode cX2_isDark 50 = .ok (.iconst 0, 1) := by decide +kernel
theorem dX2_isDark_51 : decode cX2_isDark 51 = .ok (.ireturn, 1) := by decide +kernel
theorem dX2_hasDot_0 : decode cX2_hasDot 0 = .ok (.aload_n 0, 1) := by decide +kernel
theorem dX2_hasDot_1 : decode cX2_hasDot 1 = .ok (.getfield 16, 3) := by decide +kernel
theorem dX2_hasDot_4 : decode cX2_hasDot 4 = .ok (.iload_n 2, 1) := by decide +kernel
theorem dX2_hasDot_5 : decode cX2_hasDot 5 = .ok (.iaload, 1) := by decide +kernel
theorem dX2_hasDot_6 : decode cX2_hasDot 6 = .ok (.iload_n 1, 1) := by decide +kernel
theorem dX2_hasDot_7 : decode cX2_hasDot 7 = .ok (.ishr, 1) := by decide +kernel
theorem dX2_hasDot_8 : decode cX2_hasDot 8 = .ok (.iconst 1, 1) := by decide +kernel
theorem dX2_hasDot_9 : decode cX2_hasDot 9 = .ok (.iand, 1) := by decide +kernel
theorem dX2_hasDot_10 : decode cX2_hasDot 10 = .ok (.iconst 1, 1) := by decide +kernel
theorem dX2_hasDot_11 : decode cX2_hasDot 11 = .ok (.if_icmp .ne 7, 3) := by decide +kernel
theorem dX2_hasDot_14 : decode cX2_hasDot 14 = .ok (.iconst 1, 1) := by decide +kernel
theorem dX2_hasDot_15 : decode cX2_hasDot 15 = .ok (.goto 4, 3) := by decide +kernel
theorem dX2_hasDot_18 : decode cX2_hasDot 18 = .ok (.iconst 0, 1) := by decide +kernel
theorem dX2_hasDot_19 : decode cX2_hasDot 19 = .ok (.ireturn, 1) := by decide +kernel
theorem dX2_isSpot_0 : decode cX2_isSpot 0 = .ok (.aload_n 0, 1) := by decide +kernel
theorem dX2_isSpot_1 : decode cX2_isSpot 1 = .ok (.aload_n 1, 1) := by decide +kernel
theorem dX2_isSpot_2 : decode cX2_isSpot 2 = .ok (.iload_n 2, 1) := by decide +kernel
theorem dX2_isSpot_3 : decode cX2_isSpot 3 = .ok (.iload_n 3, 1) := by decide +kernel
theorem dX2_isSpot_4 : decode cX2_isSpot 4 = .ok (.iload 4, 2) := by decide +kernel
theorem dX2_isSpot_6 : decode cX2_isSpot 6 = .ok (.invokevirtual 128, 3) := by decide +kernel
theorem dX2_isSpot_9 : decode cX2_isSpot 9 = .ok (.ifCond .eq 63, 3) := by decide +kernel
theorem dX2_isSpot_12 : decode cX2_isSpot 12 = .ok (.aload_n 0, 1) := by decide +kernel
theorem dX2_isSpot_13 : decode cX2_isSpot 13 = .ok (.aload_n 1, 1) := by decide +kernel
theorem dX2_isSpot_14 : decode cX2_isSpot 14 = .ok (.iload_n 2, 1) := by decide +kernel
theorem dX2_isSpot_15 : decode cX2_isSpot 15 = .ok (.iload_n 3, 1) := by decide +kernel
theorem dX2_isSpot_16 : decode cX2_isSpot 16 = .ok (.iload 4, 2) := by decide +kernel
theorem dX2_isSpot_18 : decode cX2_isSpot 18 = .ok (.iconst 1, 1) := by decide +kernel
theorem dX2_isSpot_19 : decode cX2_isSpot 19 = .ok (.isub, 1) := by decide +kernel
theorem dX2_isSpot_20 : decode cX2_isSpot 20 = .ok (.invokevirtual 128, 3) := by decide +kernel
theorem dX2_isSpot_23 : decode cX2_isSpot 23 = .ok (.ifCond .ne 49, 3) := by decide +kernel
theorem dX2_isSpot_26 : decode cX2_isSpot 26 = .ok (.aload_n 0, 1) := by decide +kernel
theorem dX2_isSpot_27 : decode cX2_isSpot 27 = .ok (.aload_n 1, 1) := by decide +kernel
theorem dX2_isSpot_28 : decode cX2_isSpot 28 = .ok (.iload_n 2, 1) := by decide +kernel
theorem dX2_isSpot_29 : decode cX2_isSpot 29 = .ok (.iload_n 3, 1) := by decide +kernel
theorem dX2_isSpot_30 : decode cX2_isSpot 30 = .ok (.iload 4, 2) := by decide +kernel
theorem dX2_isSpot_32 : decode cX2_isSpot 32 = .ok (.iconst 1, 1) := by decide +kernel
theorem dX2_isSpot_33 : decode cX2_isSpot 33 = .ok (.iadd, 1) := by decide +kernel
theorem dX2_isSpot_34 : decode cX2_isSpot 34 = .ok (.invokevirtual 128, 3) := by decide +kernel
theorem dX2_isSpot_37 : decode cX2_isSpot 37 = .ok (.ifCond .ne 35, 3) := by decide +kernel
theorem dX2_isSpot_40 : decode cX2_isSpot 40 = .ok (.aload_n 0, 1) := by decide +kernel
theorem dX2_isSpot_41 : decode cX2_isSpot 41 = .ok (.aload_n 1, 1) := by decide +kernel
theorem dX2_isSpot_42 : decode cX2_isSpot 42 = .ok (.iload_n 2, 1) := by decide +kernel
theorem dX2_isSpot_43 : decode cX2_isSpot 43 = .ok (.iload_n 3, 1) := by decide +kernel
theorem dX2_isSpot_44 : decode cX2_isSpot 44 = .ok (.iconst 1, 1) := by decide +kernel
theorem dX2_isSpot_45 : decode cX2_isSpot 45 = .ok (.isub, 1) := by decide +kernel
theorem dX2_isSpot_46 : decode cX2_isSpot 46 = .ok (.iload 4, 2) := by decide +kernel
theorem dX2_isSpot_48 : decode cX2_isSpot 48 = .ok (.invokevirtual 128, 3) := by decide +kernel
theorem dX2_isSpot_51 : decode cX2_isSpot 51 = .ok (.ifCond .ne 21, 3) := by decide +kernel
theorem dX2_isSpot_54 : decode cX2_isSpot 54 = .ok (.aload_n 0, 1) := by decide +kernel
theorem dX2_isSpot_55 : decode cX2_isSpot 55 = .ok (.aload_n 1, 1) := by decide +kernel
theorem dX2_isSpot_56 : decode cX2_isSpot 56 = .ok (.iload_n 2, 1) := by decide +kernel
theorem dX2_isSpot_57 : decode cX2_isSpot 57 = .ok (.iload_n 3, 1) := by decide +kernel
theorem dX2_isSpot_58 : decode cX2_isSpot 58 = .ok (.iconst 1, 1) := by decide +kernel
theorem dX2_isSpot_59 : decode cX2_isSpot 59 = .ok (.iadd, 1) := by decide +kernel
theorem dX2_isSpot_60 : decode cX2_isSpot 60 = .ok (.iload 4, 2) := by decide +kernel
theorem dX2_isSpot_62 : decode cX2_isSpot 62 = .ok (.invokevirtual 128, 3) := by decide +kernel
theorem dX2_isSpot_65 : decode cX2_isSpot 65 = .ok (.ifCond .ne 7, 3) := by decide +kernel
theorem dX2_isSpot_68 : decode cX2_isSpot 68 = .ok (.iconst 1, 1) := by decide +kernel
theorem dX2_isSpot_69 : decode cX2_isSpot 69 = .ok (.goto 4, 3) := by decide +kernel
theorem dX2_isSpot_72 : decode cX2_isSpot 72 = .ok (.iconst 0, 1) := by decide +kernel
theorem dX2_isSpot_73 : decode cX2_isSpot 73 = .ok (.ireturn, 1) := by decide +kernel
theorem dX2_isDotAt_0 : decode cX2_isDotAt 0 = .ok (.iload_n 3, 1) := by decide +kernel
theorem dX2_isDotAt_1 : decode cX2_isDotAt 1 = .ok (.ifCond .lt 44, 3) := by decide +kernel
theorem dX2_isDotAt_4 : decode cX2_isDotAt 4 = .ok (.iload_n 3, 1) := by decide +kernel
theorem dX2_isDotAt_5 : decode cX2_isDotAt 5 = .ok (.aload_n 1, 1) := by decide +kernel
theorem dX2_isDotAt_6 : decode cX2_isDotAt 6 = .ok (.getfield 77, 3) := by decide +kernel
theorem dX2_isDotAt_9 : decode cX2_isDotAt 9 = .ok (.if_icmp .ge 36, 3) := by decide +kernel
theorem dX2_isDotAt_12 : decode cX2_isDotAt 12 = .ok (.iload 4, 2) := by decide +kernel
theorem dX2_isDotAt_14 : decode cX2_isDotAt 14 = .ok (.ifCond .lt 31, 3) := by decide +kernel
theorem dX2_isDotAt_17 : decode cX2_isDotAt 17 = .ok (.iload 4, 2) := by decide +kernel
theorem dX2_isDotAt_19 : decode cX2_isDotAt 19 = .ok (.aload_n 1, 1) := by decide +kernel
theorem dX2_isDotAt_20 : decode cX2_isDotAt 20 = .ok (.getfield 74, 3) := by decide +kernel
theorem dX2_isDotAt_23 : decode cX2_isDotAt 23 = .ok (.if_icmp .ge 22, 3) := by decide +kernel
theorem dX2_isDotAt_26 : decode cX2_isDotAt 26 = .ok (.aload_n 0, 1) := by decide +kernel
theorem dX2_isDotAt_27 : decode cX2_isDotAt 27 = .ok (.iload_n 2, 1) := by decide +kernel
theorem dX2_isDotAt_28 : decode cX2_isDotAt 28 = .ok (.aload_n 1, 1) := by decide +kernel
theorem dX2_isDotAt_29 : decode cX2_isDotAt 29 = .ok (.iload_n 3, 1) := by decide +kernel
theorem dX2_isDotAt_30 : decode cX2_isDotAt 30 = .ok (.iload 4, 2) := by decide +kernel
theorem dX2_isDotAt_32 : decode cX2_isDotAt 32 = .ok (.invokevirtual 80, 3) := by decide +kernel
theorem dX2_isDotAt_35 : decode cX2_isDotAt 35 = .ok (.invokevirtual 131, 3) := by decide +kernel
theorem dX2_isDotAt_38 : decode cX2_isDotAt 38 = .ok (.ifCond .eq 7, 3) := by decide +kernel
theorem dX2_isDotAt_41 : decode cX2_isDotAt 41 = .ok (.iconst 1, 1) := by decide +kernel
theorem dX2_isDotAt_42 : decode cX2_isDotAt 42 = .ok (.goto 4, 3) := by decide +kernel
theorem dX2_isDotAt_45 : decode cX2_isDotAt 45 = .ok (.iconst 0, 1) := by decide +kernel
theorem dX2_isDotAt_46 : decode cX2_isDotAt 46 = .ok (.ireturn, 1) := by decide +kernel
theorem dX2_spotsOf_0 : decode cX2_spotsOf 0 = .ok (.iconst 0, 1) := by decide +kernel
theorem dX2_spotsOf_1 : decode cX2_spotsOf 1 = .ok (.istore_n 3, 1) := by decide +kernel
theorem dX2_spotsOf_2 : decode cX2_spotsOf 2 = .ok (.iconst 0, 1) := by decide +kernel
theorem dX2_spotsOf_3 : decode cX2_spotsOf 3 = .ok (.istore 4, 2) := by decide +kernel
theorem dX2_spotsOf_5 : decode cX2_spotsOf 5 = .ok (.iload 4, 2) := by decide +kernel
theorem dX2_spotsOf_7 : decode cX2_spotsOf 7 = .ok (.aload_n 1, 1) := by decide +kernel
theorem dX2_spotsOf_8 : decode cX2_spotsOf 8 = .ok (.getfield 74, 3) := by decide +kernel
theorem dX2_spotsOf_11 : decode cX2_spotsOf 11 = .ok (.if_icmp .ge 48, 3) := by decide +kernel
theorem dX2_spotsOf_14 : decode cX2_spotsOf 14 = .ok (.iconst 0, 1) := by decide +kernel
theorem dX2_spotsOf_15 : decode cX2_spotsOf 15 = .ok (.istore 5, 2) := by decide +kernel
theorem dX2_spotsOf_17 : decode cX2_spotsOf 17 = .ok (.iload 5, 2) := by decide +kernel
theorem dX2_spotsOf_19 : decode cX2_spotsOf 19 = .ok (.aload_n 1, 1) := by decide +kernel
theorem dX2_spotsOf_20 : decode cX2_spotsOf 20 = .ok (.getfield 77, 3) := by decide +kernel
theorem dX2_spotsOf_23 : decode cX2_spotsOf 23 = .ok (.if_icmp .ge 30, 3) := by decide +kernel
theorem dX2_spotsOf_26 : decode cX2_spotsOf 26 = .ok (.iload_n 3, 1) := by decide +kernel
theorem dX2_spotsOf_27 : decode cX2_spotsOf 27 = .ok (.aload_n 0, 1) := by decide +kernel
theorem dX2_spotsOf_28 : decode cX2_spotsOf 28 = .ok (.aload_n 1, 1) := by decide +kernel
theorem dX2_spotsOf_29 : decode cX2_spotsOf 29 = .ok (.iload_n 2, 1) := by decide +kernel
theorem dX2_spotsOf_30 : decode cX2_spotsOf 30 = .ok (.iload 5, 2) := by decide +kernel
theorem dX2_spotsOf_32 : decode cX2_spotsOf 32 = .ok (.iload 4, 2) := by decide +kernel
theorem dX2_spotsOf_34 : decode cX2_spotsOf 34 = .ok (.invokevirtual 134, 3) := by decide +kernel
theorem dX2_spotsOf_37 : decode cX2_spotsOf 37 = .ok (.ifCond .eq 7, 3) := by decide +kernel
theorem dX2_spotsOf_40 : decode cX2_spotsOf 40 = .ok (.iconst 1, 1) := by decide +kernel
theorem dX2_spotsOf_41 : decode cX2_spotsOf 41 = .ok (.goto 4, 3) := by decide +kernel
theorem dX2_spotsOf_44 : decode cX2_spotsOf 44 = .ok (.iconst 0, 1) := by decide +kernel
theorem dX2_spotsOf_45 : decode cX2_spotsOf 45 = .ok (.iadd, 1) := by decide +kernel
theorem dX2_spotsOf_46 : decode cX2_spotsOf 46 = .ok (.istore_n 3, 1) := by decide +kernel
theorem dX2_spotsOf_47 : decode cX2_spotsOf 47 = .ok (.iinc 5 1, 3) := by decide +kernel
theorem dX2_spotsOf_50 : decode cX2_spotsOf 50 = .ok (.goto (-33), 3) := by decide +kernel
theorem dX2_spotsOf_53 : decode cX2_spotsOf 53 = .ok (.iinc 4 1, 3) := by decide +kernel
theorem dX2_spotsOf_56 : decode cX2_spotsOf 56 = .ok (.goto (-51), 3) := by decide +kernel
theorem dX2_spotsOf_59 : decode cX2_spotsOf 59 = .ok (.iload_n 3, 1) := by decide +kernel
theorem dX2_spotsOf_60 : decode cX2_spotsOf 60 = .ok (.ireturn, 1) := by decide +kernel
theorem dX2_dotsOfAll_0 : decode cX2_dotsOfAll 0 = .ok (.iconst 0, 1) := by decide +kernel
theorem dX2_dotsOfAll_1 : decode cX2_dotsOfAll 1 = .ok (.istore_n 2, 1) := by decide +kernel
theorem dX2_dotsOfAll_2 : decode cX2_dotsOfAll 2 = .ok (.iconst 0, 1) := by decide +kernel
theorem dX2_dotsOfAll_3 : decode cX2_dotsOfAll 3 = .ok (.istore_n 3, 1) := by decide +kernel
theorem dX2_dotsOfAll_4 : decode cX2_dotsOfAll 4 = .ok (.iload_n 3, 1) := by decide +kernel
theorem dX2_dotsOfAll_5 : decode cX2_dotsOfAll 5 = .ok (.aload_n 1, 1) := by decide +kernel
theorem dX2_dotsOfAll_6 : decode cX2_dotsOfAll 6 = .ok (.getfield 45, 3) := by decide +kernel
theorem dX2_dotsOfAll_9 : decode cX2_dotsOfAll 9 = .ok (.if_icmp .ge 18, 3) := by decide +kernel
theorem dX2_dotsOfAll_12 : decode cX2_dotsOfAll 12 = .ok (.iload_n 2, 1) := by decide +kernel
theorem dX2_dotsOfAll_13 : decode cX2_dotsOfAll 13 = .ok (.aload_n 0, 1) := by decide +kernel
theorem dX2_dotsOfAll_14 : decode cX2_dotsOfAll 14 = .ok (.getfield 20, 3) := by decide +kernel
theorem dX2_dotsOfAll_17 : decode cX2_dotsOfAll 17 = .ok (.iload_n 3, 1) := by decide +kernel
theorem dX2_dotsOfAll_18 : decode cX2_dotsOfAll 18 = .ok (.iaload, 1) := by decide +kernel
theorem dX2_dotsOfAll_19 : decode cX2_dotsOfAll 19 = .ok (.iadd, 1) := by decide +kernel
theorem dX2_dotsOfAll_20 : decode cX2_dotsOfAll 20 = .ok (.istore_n 2, 1) := by decide +kernel
theorem dX2_dotsOfAll_21 : decode cX2_dotsOfAll 21 = .ok (.iinc 3 1, 3) := by decide +kernel
theorem dX2_dotsOfAll_24 : decode cX2_dotsOfAll 24 = .ok (.goto (-20), 3) := by decide +kernel
theorem dX2_dotsOfAll_27 : decode cX2_dotsOfAll 27 = .ok (.iload_n 2, 1) := by decide +kernel
theorem dX2_dotsOfAll_28 : decode cX2_dotsOfAll 28 = .ok (.ireturn, 1) := by decide +kernel
theorem dX2_cellsHaving_0 : decode cX2_cellsHaving 0 = .ok (.iconst 0, 1) := by decide +kernel
theorem dX2_cellsHaving_1 : decode cX2_cellsHaving 1 = .ok (.istore_n 3, 1) := by decide +kernel
theorem dX2_cellsHaving_2 : decode cX2_cellsHaving 2 = .ok (.iconst 0, 1) := by decide +kernel
theorem dX2_cellsHaving_3 : decode cX2_cellsHaving 3 = .ok (.istore 4, 2) := by decide +kernel
theorem dX2_cellsHaving_5 : decode cX2_cellsHaving 5 = .ok (.iload 4, 2) := by decide +kernel
theorem dX2_cellsHaving_7 : decode cX2_cellsHaving 7 = .ok (.aload_n 1, 1) := by decide +kernel
theorem dX2_cellsHaving_8 : decode cX2_cellsHaving 8 = .ok (.invokevirtual 137, 3) := by decide +kernel
theorem dX2_cellsHaving_11 : decode cX2_cellsHaving 11 = .ok (.if_icmp .ge 31, 3) := by decide +kernel
theorem dX2_cellsHaving_14 : decode cX2_cellsHaving 14 = .ok (.iload_n 3, 1) := by decide +kernel
theorem dX2_cellsHaving_15 : decode cX2_cellsHaving 15 = .ok (.aload_n 0, 1) := by decide +kernel
theorem dX2_cellsHaving_16 : decode cX2_cellsHaving 16 = .ok (.getfield 16, 3) := by decide +kernel
theorem dX2_cellsHaving_19 : decode cX2_cellsHaving 19 = .ok (.iload 4, 2) := by decide +kernel
theorem dX2_cellsHaving_21 : decode cX2_cellsHaving 21 = .ok (.iaload, 1) := by decide +kernel
theorem dX2_cellsHaving_22 : decode cX2_cellsHaving 22 = .ok (.invokestatic 94, 3) := by decide +kernel
theorem dX2_cellsHaving_25 : decode cX2_cellsHaving 25 = .ok (.iload_n 2, 1) := by decide +kernel
theorem dX2_cellsHaving_26 : decode cX2_cellsHaving 26 = .ok (.if_icmp .ne 7, 3) := by decide +kernel
theorem dX2_cellsHaving_29 : decode cX2_cellsHaving 29 = .ok (.iconst 1, 1) := by decide +kernel
theorem dX2_cellsHaving_30 : decode cX2_cellsHaving 30 = .ok (.goto 4, 3) := by decide +kernel
theorem dX2_cellsHaving_33 : decode cX2_cellsHaving 33 = .ok (.iconst 0, 1) := by decide +kernel
theorem dX2_cellsHaving_34 : decode cX2_cellsHaving 34 = .ok (.iadd, 1) := by decide +kernel
theorem dX2_cellsHaving_35 : decode cX2_cellsHaving 35 = .ok (.istore_n 3, 1) := by decide +kernel
theorem dX2_cellsHaving_36 : decode cX2_cellsHaving 36 = .ok (.iinc 4 1, 3) := by decide +kernel
theorem dX2_cellsHaving_39 : decode cX2_cellsHaving 39 = .ok (.goto (-34), 3) := by decide +kernel
theorem dX2_cellsHaving_42 : decode cX2_cellsHaving 42 = .ok (.iload_n 3, 1) := by decide +kernel
theorem dX2_cellsHaving_43 : decode cX2_cellsHaving 43 = .ok (.ireturn, 1) := by decide +kernel
theorem dX2_offOf_0 : decode cX2_offOf 0 = .ok (.aload_n 1, 1) := by decide +kernel
theorem dX2_offOf_1 : decode cX2_offOf 1 = .ok (.getfield 64, 3) := by decide +kernel
theorem dX2_offOf_4 : decode cX2_offOf 4 = .ok (.iload_n 2, 1) := by decide +kernel
theorem dX2_offOf_5 : decode cX2_offOf 5 = .ok (.aaload, 1) := by decide +kernel
theorem dX2_offOf_6 : decode cX2_offOf 6 = .ok (.invokevirtual 120, 3) := by decide +kernel
theorem dX2_offOf_9 : decode cX2_offOf 9 = .ok (.istore 5, 2) := by decide +kernel
theorem dX2_offOf_11 : decode cX2_offOf 11 = .ok (.iconst 0, 1) := by decide +kernel
theorem dX2_offOf_12 : decode cX2_offOf 12 = .ok (.istore 6, 2) := by decide +kernel
theorem dX2_offOf_14 : decode cX2_offOf 14 = .ok (.iload 4, 2) := by decide +kernel
theorem dX2_offOf_16 : decode cX2_offOf 16 = .ok (.istore 7, 2) := by decide +kernel
theorem dX2_offOf_18 : decode cX2_offOf 18 = .ok (.iload 7, 2) := by decide +kernel
theorem dX2_offOf_20 : decode cX2_offOf 20 = .ok (.iload 4, 2) := by decide +kernel
theorem dX2_offOf_22 : decode cX2_offOf 22 = .ok (.iload 5, 2) := by decide +kernel
theorem dX2_offOf_24 : decode cX2_offOf 24 = .ok (.iadd, 1) := by decide +kernel
theorem dX2_offOf_25 : decode cX2_offOf 25 = .ok (.if_icmp .ge 68, 3) := by decide +kernel
theorem dX2_offOf_28 : decode cX2_offOf 28 = .ok (.iload_n 3, 1) := by decide +kernel
theorem dX2_offOf_29 : decode cX2_offOf 29 = .ok (.istore 8, 2) := by decide +kernel
theorem dX2_offOf_31 : decode cX2_offOf 31 = .ok (.iload 8, 2) := by decide +kernel
theorem dX2_offOf_33 : decode cX2_offOf 33 = .ok (.iload_n 3, 1) := by decide +kernel
theorem dX2_offOf_34 : decode cX2_offOf 34 = .ok (.iload 5, 2) := by decide +kernel
theorem dX2_offOf_36 : decode cX2_offOf 36 = .ok (.iadd, 1) := by decide +kernel
theorem dX2_offOf_37 : decode cX2_offOf 37 = .ok (.if_icmp .ge 50, 3) := by decide +kernel
theorem dX2_offOf_40 : decode cX2_offOf 40 = .ok (.aload_n 1, 1) := by decide +kernel
theorem dX2_offOf_41 : decode cX2_offOf 41 = .ok (.iload 8, 2) := by decide +kernel
theorem dX2_offOf_43 : decode cX2_offOf 43 = .ok (.iload 7, 2) := by decide +kernel
theorem dX2_offOf_45 : decode cX2_offOf 45 = .ok (.invokevirtual 80, 3) := by decide +kernel
theorem dX2_offOf_48 : decode cX2_offOf 48 = .ok (.istore 9, 2) := by decide +kernel
theorem dX2_offOf_50 : decode cX2_offOf 50 = .ok (.iload 6, 2) := by decide +kernel
theorem dX2_offOf_52 : decode cX2_offOf 52 = .ok (.aload_n 0, 1) := by decide +kernel
theorem dX2_offOf_53 : decode cX2_offOf 53 = .ok (.iload_n 2, 1) := by decide +kernel
theorem dX2_offOf_54 : decode cX2_offOf 54 = .ok (.iload 9, 2) := by decide +kernel
theorem dX2_offOf_56 : decode cX2_offOf 56 = .ok (.invokevirtual 131, 3) := by decide +kernel
theorem dX2_offOf_59 : decode cX2_offOf 59 = .ok (.ifCond .eq 8, 3) := by decide +kernel
theorem dX2_offOf_62 : decode cX2_offOf 62 = .ok (.bipush 100, 2) := by decide +kernel
theorem dX2_offOf_64 : decode cX2_offOf 64 = .ok (.goto 4, 3) := by decide +kernel
theorem dX2_offOf_67 : decode cX2_offOf 67 = .ok (.iconst 0, 1) := by decide +kernel
theorem dX2_offOf_68 : decode cX2_offOf 68 = .ok (.aload_n 0, 1) := by decide +kernel
theorem dX2_offOf_69 : decode cX2_offOf 69 = .ok (.getfield 11, 3) := by decide +kernel
theorem dX2_offOf_72 : decode cX2_offOf 72 = .ok (.iload_n 2, 1) := by decide +kernel
theorem dX2_offOf_73 : decode cX2_offOf 73 = .ok (.aaload, 1) := by decide +kernel
theorem dX2_offOf_74 : decode cX2_offOf 74 = .ok (.iload 9, 2) := by decide +kernel
theorem dX2_offOf_76 : decode cX2_offOf 76 = .ok (.iaload, 1) := by decide +kernel
theorem dX2_offOf_77 : decode cX2_offOf 77 = .ok (.isub, 1) := by decide +kernel
theorem dX2_offOf_78 : decode cX2_offOf 78 = .ok (.iadd, 1) := by decide +kernel
theorem dX2_offOf_79 : decode cX2_offOf 79 = .ok (.istore 6, 2) := by decide +kernel
theorem dX2_offOf_81 : decode cX2_offOf 81 = .ok (.iinc 8 1, 3) := by decide +kernel
theorem dX2_offOf_84 : decode cX2_offOf 84 = .ok (.goto (-53), 3) := by decide +kernel
theorem dX2_offOf_87 : decode cX2_offOf 87 = .ok (.iinc 7 1, 3) := by decide +kernel
theorem dX2_offOf_90 : decode cX2_offOf 90 = .ok (.goto (-72), 3) := by decide +kernel
theorem dX2_offOf_93 : decode cX2_offOf 93 = .ok (.iload 6, 2) := by decide +kernel
theorem dX2_offOf_95 : decode cX2_offOf 95 = .ok (.ireturn, 1) := by decide +kernel
theorem dX3_init_0 : decode cX3_init 0 = .ok (.aload_n 0, 1) := by decide +kernel
theorem dX3_init_1 : decode cX3_init 1 = .ok (.invokespecial 3, 3) := by decide +kernel
theorem dX3_init_4 : decode cX3_init 4 = .ok (.aload_n 0, 1) := by decide +kernel
theorem dX3_init_5 : decode cX3_init 5 = .ok (.iconst 0, 1) := by decide +kernel
theorem dX3_init_6 : decode cX3_init 6 = .ok (.putfield 9, 3) := by decide +kernel
theorem dX3_init_9 : decode cX3_init 9 = .ok (.aload_n 0, 1) := by decide +kernel
theorem dX3_init_10 : decode cX3_init 10 = .ok (.iconst 0, 1) := by decide +kernel
theorem dX3_init_11 : decode cX3_init 11 = .ok (.putfield 15, 3) := by decide +kernel
theorem dX3_init_14 : decode cX3_init 14 = .ok (.aload_n 0, 1) := by decide +kernel
theorem dX3_init_15 : decode cX3_init 15 = .ok (.iconst 0, 1) := by decide +kernel
theorem dX3_init_16 : decode cX3_init 16 = .ok (.putfield 18, 3) := by decide +kernel
theorem dX3_init_19 : decode cX3_init 19 = .ok (.aload_n 0, 1) := by decide +kernel
theorem dX3_init_20 : decode cX3_init 20 = .ok (.iconst (-1), 1) := by decide +kernel
theorem dX3_init_21 : decode cX3_init 21 = .ok (.putfield 21, 3) := by decide +kernel
theorem dX3_init_24 : decode cX3_init 24 = .ok (.aload_n 0, 1) := by decide +kernel
theorem dX3_init_25 : decode cX3_init 25 = .ok (.sipush 324, 3) := by decide +kernel
theorem dX3_init_28 : decode cX3_init 28 = .ok (.newarray .int, 2) := by decide +kernel
theorem dX3_init_30 : decode cX3_init 30 = .ok (.putfield 24, 3) := by decide +kernel
theorem dX3_init_33 : decode cX3_init 33 = .ok (.return_, 1) := by decide +kernel
theorem dX3_fit_0 : decode cX3_fit 0 = .ok (.aload_n 0, 1) := by decide +kernel
theorem dX3_fit_1 : decode cX3_fit 1 = .ok (.getfield 9, 3) := by decide +kernel
theorem dX3_fit_4 : decode cX3_fit 4 = .ok (.aload_n 1, 1) := by decide +kernel
theorem dX3_fit_5 : decode cX3_fit 5 = .ok (.getfield 28, 3) := by decide +kernel
theorem dX3_fit_8 : decode cX3_fit 8 = .ok (.if_icmp .ne 26, 3) := by decide +kernel
theorem dX3_fit_11 : decode cX3_fit 11 = .ok (.aload_n 0, 1) := by decide +kernel
theorem dX3_fit_12 : decode cX3_fit 12 = .ok (.getfield 15, 3) := by decide +kernel
theorem dX3_fit_15 : decode cX3_fit 15 = .ok (.aload_n 1, 1) := by decide +kernel
theorem dX3_fit_16 : decode cX3_fit 16 = .ok (.getfield 31, 3) := by decide +kernel
theorem dX3_fit_19 : decode cX3_fit 19 = .ok (.if_icmp .ne 15, 3) := by decide +kernel
theorem dX3_fit_22 : decode cX3_fit 22 = .ok (.aload_n 0, 1) := by decide +kernel
theorem dX3_fit_23 : decode cX3_fit 23 = .ok (.getfield 21, 3) := by decide +kernel
theorem dX3_fit_26 : decode cX3_fit 26 = .ok (.aload_n 1, 1) := by decide +kernel
theorem dX3_fit_27 : decode cX3_fit 27 = .ok (.getfield 32, 3) := by decide +kernel
theorem dX3_fit_30 : decode cX3_fit 30 = .ok (.if_icmp .ne 4, 3) := by decide +kernel
theorem dX3_fit_33 : decode cX3_fit 33 = .ok (.return_, 1) := by decide +kernel
theorem dX3_fit_34 : decode cX3_fit 34 = .ok (.aload_n 0, 1) := by decide +kernel
theorem dX3_fit_35 : decode cX3_fit 35 = .ok (.aload_n 1, 1) := by decide +kernel
theorem dX3_fit_36 : decode cX3_fit 36 = .ok (.getfield 28, 3) := by decide +kernel
theorem dX3_fit_39 : decode cX3_fit 39 = .ok (.putfield 9, 3) := by decide +kernel
theorem dX3_fit_42 : decode cX3_fit 42 = .ok (.aload_n 0, 1) := by decide +kernel
theorem dX3_fit_43 : decode cX3_fit 43 = .ok (.aload_n 1, 1) := by decide +kernel
theorem dX3_fit_44 : decode cX3_fit 44 = .ok (.getfield 31, 3) := by decide +kernel
theorem dX3_fit_47 : decode cX3_fit 47 = .ok (.putfield 15, 3) := by decide +kernel
theorem dX3_fit_50 : decode cX3_fit 50 = .ok (.aload_n 0, 1) := by decide +kernel
theorem dX3_fit_51 : decode cX3_fit 51 = .ok (.aload_n 1, 1) := by decide +kernel
theorem dX3_fit_52 : decode cX3_fit 52 = .ok (.invokevirtual 33, 3) := by decide +kernel
theorem dX3_fit_55 : decode cX3_fit 55 = .ok (.putfield 18, 3) := by decide +kernel
theorem dX3_fit_58 : decode cX3_fit 58 = .ok (.aload_n 0, 1) := by decide +kernel
theorem dX3_fit_59 : decode cX3_fit 59 = .ok (.aload_n 1, 1) := by decide +kernel
theorem dX3_fit_60 : decode cX3_fit 60 = .ok (.getfield 32, 3) := by decide +kernel
theorem dX3_fit_63 : decode cX3_fit 63 = .ok (.putfield 21, 3) := by decide +kernel
theorem dX3_fit_66 : decode cX3_fit 66 = .ok (.aload_n 2, 1) := by decide +kernel
theorem dX3_fit_67 : decode cX3_fit 67 = .ok (.iconst 0, 1) := by decide +kernel
theorem dX3_fit_68 : decode cX3_fit 68 = .ok (.invokestatic 36, 3) := by decide +kernel
theorem dX3_fit_71 : decode cX3_fit 71 = .ok (.iconst 0, 1) := by decide +kernel
theorem dX3_fit_72 : decode cX3_fit 72 = .ok (.istore_n 3, 1) := by decide +kernel
theorem dX3_fit_73 : decode cX3_fit 73 = .ok (.iload_n 3, 1) := by decide +kernel
theorem dX3_fit_74 : decode cX3_fit 74 = .ok (.aload_n 0, 1) := by decide +kernel
theorem dX3_fit_75 : decode cX3_fit 75 = .ok (.getfield 18, 3) := by decide +kernel
theorem dX3_fit_78 : decode cX3_fit 78 = .ok (.if_icmp .ge 42, 3) := by decide +kernel
theorem dX3_fit_81 : decode cX3_fit 81 = .ok (.iconst 0, 1) := by decide +kernel
theorem dX3_fit_82 : decode cX3_fit 82 = .ok (.istore 4, 2) := by decide +kernel
theorem dX3_fit_84 : decode cX3_fit 84 = .ok (.iload 4, 2) := by decide +kernel
theorem dX3_fit_86 : decode cX3_fit 86 = .ok (.aload_n 0, 1) := by decide +kernel
theorem dX3_fit_87 : decode cX3_fit 87 = .ok (.getfield 18, 3) := by decide +kernel
theorem dX3_fit_90 : decode cX3_fit 90 = .ok (.if_icmp .ge 24, 3) := by decide +kernel
theorem dX3_fit_93 : decode cX3_fit 93 = .ok (.aload_n 2, 1) := by decide +kernel
theorem dX3_fit_94 : decode cX3_fit 94 = .ok (.aload_n 0, 1) := by decide +kernel
theorem dX3_fit_95 : decode cX3_fit 95 = .ok (.iload 4, 2) := by decide +kernel
theorem dX3_fit_97 : decode cX3_fit 97 = .ok (.iload_n 3, 1) := by decide +kernel
theorem dX3_fit_98 : decode cX3_fit 98 = .ok (.invokevirtual 42, 3) := by decide +kernel
theorem dX3_fit_101 : decode cX3_fit 101 = .ok (.iconst 1, 1) := by decide +kernel
theorem dX3_fit_102 : decode cX3_fit 102 = .ok (.iadd, 1) := by decide +kernel
theorem dX3_fit_103 : decode cX3_fit 103 = .ok (.dup2, 1) := by decide +kernel
theorem dX3_fit_104 : decode cX3_fit 104 = .ok (.iaload, 1) := by decide +kernel
theorem dX3_fit_105 : decode cX3_fit 105 = .ok (.iconst 1, 1) := by decide +kernel
theorem dX3_fit_106 : decode cX3_fit 106 = .ok (.iadd, 1) := by decide +kernel
theorem dX3_fit_107 : decode cX3_fit 107 = .ok (.iastore, 1) := by decide +kernel
theorem dX3_fit_108 : decode cX3_fit 108 = .ok (.iinc 4 1, 3) := by decide +kernel
theorem dX3_fit_111 : decode cX3_fit 111 = .ok (.goto (-27), 3) := by decide +kernel
theorem dX3_fit_114 : decode cX3_fit 114 = .ok (.iinc 3 1, 3) := by decide +kernel
theorem dX3_fit_117 : decode cX3_fit 117 = .ok (.goto (-44), 3) := by decide +kernel
theorem dX3_fit_120 : decode cX3_fit 120 = .ok (.iconst 1, 1) := by decide +kernel
theorem dX3_fit_121 : decode cX3_fit 121 = .ok (.istore_n 3, 1) := by decide +kernel
theorem dX3_fit_122 : decode cX3_fit 122 = .ok (.iload_n 3, 1) := by decide +kernel
theorem dX3_fit_123 : decode cX3_fit 123 = .ok (.aload_n 2, 1) := by decide +kernel
theorem dX3_fit_124 : decode cX3_fit 124 = .ok (.arraylength, 1) := by decide +kernel
theorem dX3_fit_125 : decode cX3_fit 125 = .ok (.if_icmp .ge 20, 3) := by decide +kernel
theorem dX3_fit_128 : decode cX3_fit 128 = .ok (.aload_n 2, 1) := by decide +kernel
theorem dX3_fit_129 : decode cX3_fit 129 = .ok (.iload_n 3, 1) := by decide +kernel
theorem dX3_fit_130 : decode cX3_fit 130 = .ok (.dup2, 1) := by decide +kernel
theorem dX3_fit_131 : decode cX3_fit 131 = .ok (.iaload, 1) := by decide +kernel
theorem dX3_fit_132 : decode cX3_fit 132 = .ok (.aload_n 2, 1) := by decide +kernel
theorem dX3_fit_133 : decode cX3_fit 133 = .ok (.iload_n 3, 1) := by decide +kernel
theorem dX3_fit_134 : decode cX3_fit 134 = .ok (.iconst 1, 1) := by decide +kernel
theorem dX3_fit_135 : decode cX3_fit 135 = .ok (.isub, 1) := by decide +kernel
theorem dX3_fit_136 : decode cX3_fit 136 = .ok (.iaload, 1) := by decide +kernel
theorem dX3_fit_137 : decode cX3_fit 137 = .ok (.iadd, 1) := by decide +kernel
theorem dX3_fit_138 : decode cX3_fit 138 = .ok (.iastore, 1) := by decide +kernel
theorem dX3_fit_139 : decode cX3_fit 139 = .ok (.iinc 3 1, 3) := by decide +kernel
theorem dX3_fit_142 : decode cX3_fit 142 = .ok (.goto (-20), 3) := by decide +kernel
theorem dX3_fit_145 : decode cX3_fit 145 = .ok (.iconst 0, 1) := by decide +kernel
theorem dX3_fit_146 : decode cX3_fit 146 = .ok (.istore_n 3, 1) := by decide +kernel
theorem dX3_fit_147 : decode cX3_fit 147 = .ok (.iload_n 3, 1) := by decide +kernel
theorem dX3_fit_148 : decode cX3_fit 148 = .ok (.aload_n 0, 1) := by decide +kernel
theorem dX3_fit_149 : decode cX3_fit 149 = .ok (.getfield 18, 3) := by decide +kernel
theorem dX3_fit_152 : decode cX3_fit 152 = .ok (.if_icmp .ge 62, 3) := by decide +kernel
theorem dX3_fit_155 : decode cX3_fit 155 = .ok (.iconst 0, 1) := by decide +kernel
theorem dX3_fit_156 : decode cX3_fit 156 = .ok (.istore 4, 2) := by decide +kernel
theorem dX3_fit_158 : decode cX3_fit 158 = .ok (.iload 4, 2) := by decide +kernel
theorem dX3_fit_160 : decode cX3_fit 160 = .ok (.aload_n 0, 1) := by decide +kernel
theorem dX3_fit_161 : decode cX3_fit 161 = .ok (.getfield 18, 3) := by decide +kernel
theorem dX3_fit_164 : decode cX3_fit 164 = .ok (.if_icmp .ge 44, 3) := by decide +kernel
theorem dX3_fit_167 : decode cX3_fit 167 = .ok (.aload_n 0, 1) := by decide +kernel
theorem dX3_fit_168 : decode cX3_fit 168 = .ok (.iload 4, 2) := by decide +kernel
theorem dX3_fit_170 : decode cX3_fit 170 = .ok (.iload_n 3, 1) := by decide +kernel
theorem dX3_fit_171 : decode cX3_fit 171 = .ok (.invokevirtual 42, 3) := by decide +kernel
theorem dX3_fit_174 : decode cX3_fit 174 = .ok (.istore 5, 2) := by decide +kernel
theorem dX3_fit_176 : decode cX3_fit 176 = .ok (.aload_n 0, 1) := by decide +kernel
theorem dX3_fit_177 : decode cX3_fit 177 = .ok (.getfield 24, 3) := by decide +kernel
theorem dX3_fit_180 : decode cX3_fit 180 = .ok (.iload_n 3, 1) := by decide +kernel
theorem dX3_fit_181 : decode cX3_fit 181 = .ok (.aload_n 0, 1) := by decide +kernel
theorem dX3_fit_182 : decode cX3_fit 182 = .ok (.getfield 18, 3) := by decide +kernel
theorem dX3_fit_185 : decode cX3_fit 185 = .ok (.imul, 1) := by decide +kernel
theorem dX3_fit_186 : decode cX3_fit 186 = .ok (.iload 4, 2) := by decide +kernel
theorem dX3_fit_188 : decode cX3_fit 188 = .ok (.iadd, 1) := by decide +kernel
theorem dX3_fit_189 : decode cX3_fit 189 = .ok (.aload_n 2, 1) := by decide +kernel
theorem dX3_fit_190 : decode cX3_fit 190 = .ok (.iload 5, 2) := by decide +kernel
theorem dX3_fit_192 : decode cX3_fit 192 = .ok (.iaload, 1) := by decide +kernel
theorem dX3_fit_193 : decode cX3_fit 193 = .ok (.iastore, 1) := by decide +kernel
theorem dX3_fit_194 : decode cX3_fit 194 = .ok (.aload_n 2, 1) := by decide +kernel
theorem dX3_fit_195 : decode cX3_fit 195 = .ok (.iload 5, 2) := by decide +kernel
theorem dX3_fit_197 : decode cX3_fit 197 = .ok (.dup2, 1) := by decide +kernel
theorem dX3_fit_198 : decode cX3_fit 198 = .ok (.iaload, 1) := by decide +kernel
theorem dX3_fit_199 : decode cX3_fit 199 = .ok (.iconst 1, 1) := by decide +kernel
theorem dX3_fit_200 : decode cX3_fit 200 = .ok (.iadd, 1) := by decide +kernel
theorem dX3_fit_201 : decode cX3_fit 201 = .ok (.iastore, 1) := by decide +kernel
theorem dX3_fit_202 : decode cX3_fit 202 = .ok (.iinc 4 1, 3) := by decide +kernel
theorem dX3_fit_205 : decode cX3_fit 205 = .ok (.goto (-47), 3) := by decide +kernel
theorem dX3_fit_208 : decode cX3_fit 208 = .ok (.iinc 3 1, 3) := by decide +kernel
theorem dX3_fit_211 : decode cX3_fit 211 = .ok (.goto (-64), 3) := by decide +kernel
theorem dX3_fit_214 : decode cX3_fit 214 = .ok (.return_, 1) := by decide +kernel
theorem dX3_rankOf_0 : decode cX3_rankOf 0 = .ok (.aload_n 0, 1) := by decide +kernel
theorem dX3_rankOf_1 : decode cX3_rankOf 1 = .ok (.getfield 18, 3) := by decide +kernel
theorem dX3_rankOf_4 : decode cX3_rankOf 4 = .ok (.iconst 1, 1) := by decide +kernel
theorem dX3_rankOf_5 : decode cX3_rankOf 5 = .ok (.if_icmp .ge 7, 3) := by decide +kernel
theorem dX3_rankOf_8 : decode cX3_rankOf 8 = .ok (.iconst 0, 1) := by decide +kernel
theorem dX3_rankOf_9 : decode cX3_rankOf 9 = .ok (.goto 26, 3) := by decide +kernel
theorem dX3_rankOf_12 : decode cX3_rankOf 12 = .ok (.aload_n 0, 1) := by decide +kernel
theorem dX3_rankOf_13 : decode cX3_rankOf 13 = .ok (.getfield 24, 3) := by decide +kernel
theorem dX3_rankOf_16 : decode cX3_rankOf 16 = .ok (.iload_n 2, 1) := by decide +kernel
theorem dX3_rankOf_17 : decode cX3_rankOf 17 = .ok (.aload_n 0, 1) := by decide +kernel
theorem dX3_rankOf_18 : decode cX3_rankOf 18 = .ok (.getfield 18, 3) := by decide +kernel
theorem dX3_rankOf_21 : decode cX3_rankOf 21 = .ok (.irem, 1) := by decide +kernel
theorem dX3_rankOf_22 : decode cX3_rankOf 22 = .ok (.aload_n 0, 1) := by decide +kernel
theorem dX3_rankOf_23 : decode cX3_rankOf 23 = .ok (.getfield 18, 3) := by decide +kernel
theorem dX3_rankOf_26 : decode cX3_rankOf 26 = .ok (.imul, 1) := by decide +kernel
theorem dX3_rankOf_27 : decode cX3_rankOf 27 = .ok (.iload_n 1, 1) := by decide +kernel
theorem dX3_rankOf_28 : decode cX3_rankOf 28 = .ok (.aload_n 0, 1) := by decide +kernel
theorem dX3_rankOf_29 : decode cX3_rankOf 29 = .ok (.getfield 18, 3) := by decide +kernel
theorem dX3_rankOf_32 : decode cX3_rankOf 32 = .ok (.irem, 1) := by decide +kernel
theorem dX3_rankOf_33 : decode cX3_rankOf 33 = .ok (.iadd, 1) := by decide +kernel
theorem dX3_rankOf_34 : decode cX3_rankOf 34 = .ok (.iaload, 1) := by decide +kernel
theorem dX3_rankOf_35 : decode cX3_rankOf 35 = .ok (.ireturn, 1) := by decide +kernel
theorem dX3_measureAt_0 : decode cX3_measureAt 0 = .ok (.iconst 2, 1) := by decide +kernel
theorem dX3_measureAt_1 : decode cX3_measureAt 1 = .ok (.aload_n 0, 1) := by decide +kernel
theorem dX3_measureAt_2 : decode cX3_measureAt 2 = .ok (.getfield 9, 3) := by decide +kernel
theorem dX3_measureAt_5 : decode cX3_measureAt 5 = .ok (.iload_n 1, 1) := by decide +kernel
theorem dX3_measureAt_6 : decode cX3_measureAt 6 = .ok (.imul, 1) := by decide +kernel
theorem dX3_measureAt_7 : decode cX3_measureAt 7 = .ok (.aload_n 0, 1) := by decide +kernel
theorem dX3_measureAt_8 : decode cX3_measureAt 8 = .ok (.getfield 15, 3) := by decide +kernel
theorem dX3_measureAt_11 : decode cX3_measureAt 11 = .ok (.iload_n 2, 1) := by decide +kernel
theorem dX3_measureAt_12 : decode cX3_measureAt 12 = .ok (.imul, 1) := by decide +kernel
theorem dX3_measureAt_13 : decode cX3_measureAt 13 = .ok (.iadd, 1) := by decide +kernel
theorem dX3_measureAt_14 : decode cX3_measureAt 14 = .ok (.aload_n 0, 1) := by decide +kernel
theorem dX3_measureAt_15 : decode cX3_measureAt 15 = .ok (.getfield 18, 3) := by decide +kernel
theorem dX3_measureAt_18 : decode cX3_measureAt 18 = .ok (.invokestatic 46, 3) := by decide +kernel
theorem dX3_measureAt_21 : decode cX3_measureAt 21 = .ok (.imul, 1) := by decide +kernel
theorem dX3_measureAt_22 : decode cX3_measureAt 22 = .ok (.aload_n 0, 1) := by decide +kernel
theorem dX3_measureAt_23 : decode cX3_measureAt 23 = .ok (.getfield 18, 3) := by decide +kernel
theorem dX3_measureAt_26 : decode cX3_measureAt 26 = .ok (.isub, 1) := by decide +kernel
theorem dX3_measureAt_27 : decode cX3_measureAt 27 = .ok (.istore_n 3, 1) := by decide +kernel
theorem dX3_measureAt_28 : decode cX3_measureAt 28 = .ok (.iconst 2, 1) := by decide +kernel
theorem dX3_measureAt_29 : decode cX3_measureAt 29 = .ok (.aload_n 0, 1) := by decide +kernel
theorem dX3_measureAt_30 : decode cX3_measureAt 30 = .ok (.getfield 9, 3) := by decide +kernel
theorem dX3_measureAt_33 : decode cX3_measureAt 33 = .ok (.iload_n 2, 1) := by decide +kernel
theorem dX3_measureAt_34 : decode cX3_measureAt 34 = .ok (.imul, 1) := by decide +kernel
theorem dX3_measureAt_35 : decode cX3_measureAt 35 = .ok (.aload_n 0, 1) := by decide +kernel
theorem dX3_measureAt_36 : decode cX3_measureAt 36 = .ok (.getfield 15, 3) := by decide +kernel
theorem dX3_measureAt_39 : decode cX3_measureAt 39 = .ok (.iload_n 1, 1) := by decide +kernel
theorem dX3_measureAt_40 : decode cX3_measureAt 40 = .ok (.imul, 1) := by decide +kernel
theorem dX3_measureAt_41 : decode cX3_measureAt 41 = .ok (.isub, 1) := by decide +kernel
theorem dX3_measureAt_42 : decode cX3_measureAt 42 = .ok (.aload_n 0, 1) := by decide +kernel
theorem dX3_measureAt_43 : decode cX3_measureAt 43 = .ok (.getfield 18, 3) := by decide +kernel
theorem dX3_measureAt_46 : decode cX3_measureAt 46 = .ok (.invokestatic 46, 3) := by decide +kernel
theorem dX3_measureAt_49 : decode cX3_measureAt 49 = .ok (.imul, 1) := by decide +kernel
theorem dX3_measureAt_50 : decode cX3_measureAt 50 = .ok (.aload_n 0, 1) := by decide +kernel
theorem dX3_measureAt_51 : decode cX3_measureAt 51 = .ok (.getfield 18, 3) := by decide +kernel
theorem dX3_measureAt_54 : decode cX3_measureAt 54 = .ok (.isub, 1) := by decide +kernel
theorem dX3_measureAt_55 : decode cX3_measureAt 55 = .ok (.istore 4, 2) := by decide +kernel
theorem dX3_measureAt_57 : decode cX3_measureAt 57 = .ok (.aload_n 0, 1) := by decide +kernel
theorem dX3_measureAt_58 : decode cX3_measureAt 58 = .ok (.getfield 21, 3) := by decide +kernel
theorem dX3_measureAt_61 : decode cX3_measureAt 61 = .ok (.tableswitch 53 0 2 #[27, 37, 42], 27) := by decide +kernel
theorem dX3_measureAt_88 : decode cX3_measureAt 88 = .ok (.iload_n 3, 1) := by decide +kernel
theorem dX3_measureAt_89 : decode cX3_measureAt 89 = .ok (.iload_n 3, 1) := by decide +kernel
theorem dX3_measureAt_90 : decode cX3_measureAt 90 = .ok (.imul, 1) := by decide +kernel
theorem dX3_measureAt_91 : decode cX3_measureAt 91 = .ok (.iload 4, 2) := by decide +kernel
theorem dX3_measureAt_93 : decode cX3_measureAt 93 = .ok (.iload 4, 2) := by decide +kernel
theorem dX3_measureAt_95 : decode cX3_measureAt 95 = .ok (.imul, 1) := by decide +kernel
theorem dX3_measureAt_96 : decode cX3_measureAt 96 = .ok (.iadd, 1) := by decide +kernel
theorem dX3_measureAt_97 : decode cX3_measureAt 97 = .ok (.ireturn, 1) := by decide +kernel
theorem dX3_measureAt_98 : decode cX3_measureAt 98 = .ok (.iload_n 3, 1) := by decide +kernel
theorem dX3_measureAt_99 : decode cX3_measureAt 99 = .ok (.invokestatic 49, 3) := by decide +kernel
theorem dX3_measureAt_102 : decode cX3_measureAt 102 = .ok (.ireturn, 1) := by decide +kernel
theorem dX3_measureAt_103 : decode cX3_measureAt 103 = .ok (.iload_n 3, 1) := by decide +kernel
theorem dX3_measureAt_104 : decode cX3_measureAt 104 = .ok (.invokestatic 49, 3) := by decide +kernel
theorem dX3_measureAt_107 : decode cX3_measureAt 107 = .ok (.iload 4, 2) := by decide +kernel
theorem dX3_measureAt_109 : decode cX3_measureAt 109 = .ok (.invokestatic 49, 3) := by decide +kernel
theorem dX3_measureAt_112 : decode cX3_measureAt 112 = .ok (.iadd, 1) := by decide +kernel
theorem dX3_measureAt_113 : decode cX3_measureAt 113 = .ok (.ireturn, 1) := by decide +kernel
theorem dX3_measureAt_114 : decode cX3_measureAt 114 = .ok (.iload_n 3, 1) := by decide +kernel
theorem dX3_measureAt_115 : decode cX3_measureAt 115 = .ok (.invokestatic 49, 3) := by decide +kernel
theorem dX3_measureAt_118 : decode cX3_measureAt 118 = .ok (.iload 4, 2) := by decide +kernel
theorem dX3_measureAt_120 : decode cX3_measureAt 120 = .ok (.invokestatic 49, 3) := by decide +kernel
theorem dX3_measureAt_123 : decode cX3_measureAt 123 = .ok (.invokestatic 55, 3) := by decide +kernel
theorem dX3_measureAt_126 : decode cX3_measureAt 126 = .ok (.ireturn, 1) := by decide +kernel
theorem dX4_init_0 : decode cX4_init 0 = .ok (.aload_n 0, 1) := by decide +kernel
theorem dX4_init_1 : decode cX4_init 1 = .ok (.invokespecial 3, 3) := by decide +kernel
theorem dX4_init_4 : decode cX4_init 4 = .ok (.aload_n 0, 1) := by decide +kernel
theorem dX4_init_5 : decode cX4_init 5 = .ok (.sipush 600, 3) := by decide +kernel
theorem dX4_init_8 : decode cX4_init 8 = .ok (.newarray .int, 2) := by decide +kernel
theorem dX4_init_10 : decode cX4_init 10 = .ok (.putfield 9, 3) := by decide +kernel
theorem dX4_init_13 : decode cX4_init 13 = .ok (.return_, 1) := by decide +kernel
theorem dX4_read_0 : decode cX4_read 0 = .ok (.aload_n 0, 1) := by decide +kernel
theorem dX4_read_1 : decode cX4_read 1 = .ok (.aload_n 1, 1) := by decide +kernel
theorem dX4_read_2 : decode cX4_read 2 = .ok (.putfield 15, 3) := by decide +kernel
theorem dX4_read_5 : decode cX4_read 5 = .ok (.aload_n 0, 1) := by decide +kernel
theorem dX4_read_6 : decode cX4_read 6 = .ok (.iload_n 2, 1) := by decide +kernel
theorem dX4_read_7 : decode cX4_read 7 = .ok (.aload_n 1, 1) := by decide +kernel
theorem dX4_read_8 : decode cX4_read 8 = .ok (.arraylength, 1) := by decide +kernel
theorem dX4_read_9 : decode cX4_read 9 = .ok (.invokestatic 19, 3) := by decide +kernel
theorem dX4_read_12 : decode cX4_read 12 = .ok (.putfield 25, 3) := by decide +kernel
theorem dX4_read_15 : decode cX4_read 15 = .ok (.aload_n 0, 1) := by decide +kernel
theorem dX4_read_16 : decode cX4_read 16 = .ok (.aload_n 3, 1) := by decide +kernel
theorem dX4_read_17 : decode cX4_read 17 = .ok (.putfield 29, 3) := by decide +kernel
theorem dX4_read_20 : decode cX4_read 20 = .ok (.aload_n 0, 1) := by decide +kernel
theorem dX4_read_21 : decode cX4_read 21 = .ok (.iconst 0, 1) := by decide +kernel
theorem dX4_read_22 : decode cX4_read 22 = .ok (.putfield 33, 3) := by decide +kernel
theorem dX4_read_25 : decode cX4_read 25 = .ok (.aload_n 0, 1) := by decide +kernel
theorem dX4_read_26 : decode cX4_read 26 = .ok (.iconst (-1), 1) := by decide +kernel
theorem dX4_read_27 : decode cX4_read 27 = .ok (.putfield 36, 3) := by decide +kernel
theorem dX4_read_30 : decode cX4_read 30 = .ok (.aload_n 0, 1) := by decide +kernel
theorem dX4_read_31 : decode cX4_read 31 = .ok (.iconst 0, 1) := by decide +kernel
theorem dX4_read_32 : decode cX4_read 32 = .ok (.putfield 39, 3) := by decide +kernel
theorem dX4_read_35 : decode cX4_read 35 = .ok (.aload_n 0, 1) := by decide +kernel
theorem dX4_read_36 : decode cX4_read 36 = .ok (.iconst 0, 1) := by decide +kernel
theorem dX4_read_37 : decode cX4_read 37 = .ok (.putfield 43, 3) := by decide +kernel
theorem dX4_read_40 : decode cX4_read 40 = .ok (.aload_n 0, 1) := by decide +kernel
theorem dX4_read_41 : decode cX4_read 41 = .ok (.iconst 0, 1) := by decide +kernel
theorem dX4_read_42 : decode cX4_read 42 = .ok (.putfield 46, 3) := by decide +kernel
theorem dX4_read_45 : decode cX4_read 45 = .ok (.aload_n 0, 1) := by decide +kernel
theorem dX4_read_46 : decode cX4_read 46 = .ok (.invokevirtual 49, 3) := by decide +kernel
theorem dX4_read_49 : decode cX4_read 49 = .ok (.aload_n 0, 1) := by decide +kernel
theorem dX4_read_50 : decode cX4_read 50 = .ok (.invokevirtual 52, 3) := by decide +kernel
theorem dX4_read_53 : decode cX4_read 53 = .ok (.ifCond .ne 5, 3) := by decide +kernel
theorem dX4_read_56 : decode cX4_read 56 = .ok (.iconst 0, 1) := by decide +kernel
theorem dX4_read_57 : decode cX4_read 57 = .ok (.ireturn, 1) := by decide +kernel
theorem dX4_read_58 : decode cX4_read 58 = .ok (.iconst 0, 1) := by decide +kernel
theorem dX4_read_59 : decode cX4_read 59 = .ok (.istore 4, 2) := by decide +kernel
theorem dX4_read_61 : decode cX4_read 61 = .ok (.iload 4, 2) := by decide +kernel
theorem dX4_read_63 : decode cX4_read 63 = .ok (.aload_n 0, 1) := by decide +kernel
theorem dX4_read_64 : decode cX4_read 64 = .ok (.getfield 25, 3) := by decide +kernel
theorem dX4_read_67 : decode cX4_read 67 = .ok (.if_icmp .ge 34, 3) := by decide +kernel
theorem dX4_read_70 : decode cX4_read 70 = .ok (.aload_n 0, 1) := by decide +kernel
theorem dX4_read_71 : decode cX4_read 71 = .ok (.getfield 56, 3) := by decide +kernel
theorem dX4_read_74 : decode cX4_read 74 = .ok (.ifCond .eq 27, 3) := by decide +kernel
theorem dX4_read_77 : decode cX4_read 77 = .ok (.aload_n 0, 1) := by decide +kernel
theorem dX4_read_78 : decode cX4_read 78 = .ok (.invokevirtual 59, 3) := by decide +kernel
theorem dX4_read_81 : decode cX4_read 81 = .ok (.ifCond .eq 12, 3) := by decide +kernel
theorem dX4_read_84 : decode cX4_read 84 = .ok (.aload_n 0, 1) := by decide +kernel
theorem dX4_read_85 : decode cX4_read 85 = .ok (.bipush 59, 2) := by decide +kernel
theorem dX4_read_87 : decode cX4_read 87 = .ok (.invokevirtual 62, 3) := by decide +kernel
theorem dX4_read_90 : decode cX4_read 90 = .ok (.ifCond .ne 5, 3) := by decide +kernel
theorem dX4_read_93 : decode cX4_read 93 = .ok (.iconst 0, 1) := by decide +kernel
theorem dX4_read_94 : decode cX4_read 94 = .ok (.ireturn, 1) := by decide +kernel
theorem dX4_read_95 : decode cX4_read 95 = .ok (.iinc 4 1, 3) := by decide +kernel
theorem dX4_read_98 : decode cX4_read 98 = .ok (.goto (-37), 3) := by decide +kernel
theorem dX4_read_101 : decode cX4_read 101 = .ok (.iconst 1, 1) := by decide +kernel
theorem dX4_read_102 : decode cX4_read 102 = .ok (.ireturn, 1) := by decide +kernel
theorem dX4_readPicture_0 : decode cX4_readPicture 0 = .ok (.aload_n 0, 1) := by decide +kernel
theorem dX4_readPicture_1 : decode cX4_readPicture 1 = .ok (.ldc 66, 2) := by decide +kernel
theorem dX4_readPicture_3 : decode cX4_readPicture 3 = .ok (.invokevirtual 68, 3) := by decide +kernel
theorem dX4_readPicture_6 : decode cX4_readPicture 6 = .ok (.ifCond .ne 10, 3) := by decide +kernel
theorem dX4_readPicture_9 : decode cX4_readPicture 9 = .ok (.aload_n 0, 1) := by decide +kernel
theorem dX4_readPicture_10 : decode cX4_readPicture 10 = .ok (.bipush (-2), 2) := by decide +kernel
theorem dX4_readPicture_12 : decode cX4_readPicture 12 = .ok (.invokevirtual 72, 3) := by decide +kernel
theorem dX4_readPicture_15 : decode cX4_readPicture 15 = .ok (.ireturn, 1) := by decide +kernel
theorem dX4_readPicture_16 : decode cX4_readPicture 16 = .ok (.aload_n 0, 1) := by decide +kernel
theorem dX4_readPicture_17 : decode cX4_readPicture 17 = .ok (.invokevirtual 49, 3) := by decide +kernel
theorem dX4_readPicture_20 : decode cX4_readPicture 20 = .ok (.aload_n 0, 1) := by decide +kernel
theorem dX4_readPicture_21 : decode cX4_readPicture 21 = .ok (.iconst 1, 1) := by decide +kernel
theorem dX4_readPicture_22 : decode cX4_readPicture 22 = .ok (.bipush 16, 2) := by decide +kernel
theorem dX4_readPicture_24 : decode cX4_readPicture 24 = .ok (.invokevirtual 76, 3) := by decide +kernel
theorem dX4_readPicture_27 : decode cX4_readPicture 27 = .ok (.ifCond .ne 5, 3) := by decide +kernel
theorem dX4_readPicture_30 : decode cX4_readPicture 30 = .ok (.iconst 0, 1) := by decide +kernel
theorem dX4_readPicture_31 : decode cX4_readPicture 31 = .ok (.ireturn, 1) := by decide +kernel
theorem dX4_readPicture_32 : decode cX4_readPicture 32 = .ok (.aload_n 0, 1) := by decide +kernel
theorem dX4_readPicture_33 : decode cX4_readPicture 33 = .ok (.getfield 80, 3) := by decide +kernel
theorem dX4_readPicture_36 : decode cX4_readPicture 36 = .ok (.istore_n 1, 1) := by decide +kernel
theorem dX4_readPicture_37 : decode cX4_readPicture 37 = .ok (.aload_n 0, 1) := by decide +kernel
theorem dX4_readPicture_38 : decode cX4_readPicture 38 = .ok (.iconst 1, 1) := by decide +kernel
theorem dX4_readPicture_39 : decode cX4_readPicture 39 = .ok (.bipush 12, 2) := by decide +kernel
theorem dX4_readPicture_41 : decode cX4_readPicture 41 = .ok (.invokevirtual 76, 3) := by decide +kernel
theorem dX4_readPicture_44 : decode cX4_readPicture 44 = .ok (.ifCond .ne 5, 3) := by decide +kernel
theorem dX4_readPicture_47 : decode cX4_readPicture 47 = .ok (.iconst 0, 1) := by decide +kernel
theorem dX4_readPicture_48 : decode cX4_readPicture 48 = .ok (.ireturn, 1) := by decide +kernel
theorem dX4_readPicture_49 : decode cX4_readPicture 49 = .ok (.aload_n 0, 1) := by decide +kernel
theorem dX4_readPicture_50 : decode cX4_readPicture 50 = .ok (.getfield 29, 3) := by decide +kernel
theorem dX4_readPicture_53 : decode cX4_readPicture 53 = .ok (.iload_n 1, 1) := by decide +kernel
theorem dX4_readPicture_54 : decode cX4_readPicture 54 = .ok (.aload_n 0, 1) := by decide +kernel
theorem dX4_readPicture_55 : decode cX4_readPicture 55 = .ok (.getfield 80, 3) := by decide +kernel
theorem dX4_readPicture_58 : decode cX4_readPicture 58 = .ok (.invokevirtual 83, 3) := by decide +kernel
theorem dX4_readPicture_61 : decode cX4_readPicture 61 = .ok (.aload_n 0, 1) := by decide +kernel
theorem dX4_readPicture_62 : decode cX4_readPicture 62 = .ok (.bipush 59, 2) := by decide +kernel
theorem dX4_readPicture_64 : decode cX4_readPicture 64 = .ok (.invokevirtual 62, 3) := by decide +kernel
theorem dX4_readPicture_67 : decode cX4_readPicture 67 = .ok (.ireturn, 1) := by decide +kernel
theorem dX4_readStatement_0 : decode cX4_readStatement 0 = .ok (.aload_n 0, 1) := by decide +kernel
theorem dX4_readStatement_1 : decode cX4_readStatement 1 = .ok (.ldc 89, 2) := by decide +kernel
theorem dX4_readStatement_3 : decode cX4_readStatement 3 = .ok (.invokevirtual 68, 3) := by decide +kernel
theorem dX4_readStatement_6 : decode cX4_readStatement 6 = .ok (.ifCond .eq 8, 3) := by decide +kernel
theorem dX4_readStatement_9 : decode cX4_readStatement 9 = .ok (.aload_n 0, 1) := by decide +kernel
theorem dX4_readStatement_10 : decode cX4_readStatement 10 = .ok (.invokevirtual 91, 3) := by decide +kernel
theorem dX4_readStatement_13 : decode cX4_readStatement 13 = .ok (.ireturn, 1) := by decide +kernel
theorem dX4_readStatement_14 : decode cX4_readStatement 14 = .ok (.aload_n 0, 1) := by decide +kernel
theorem dX4_readStatement_15 : decode cX4_readStatement 15 = .ok (.ldc 94, 2) := by decide +kernel
theorem dX4_readStatement_17 : decode cX4_readStatement 17 = .ok (.invokevirtual 68, 3) := by decide +kernel
theorem dX4_readStatement_20 : decode cX4_readStatement 20 = .ok (.ifCond .eq 8, 3) := by decide +kernel
theorem dX4_readStatement_23 : decode cX4_readStatement 23 = .ok (.aload_n 0, 1) := by decide +kernel
theorem dX4_readStatement_24 : decode cX4_readStatement 24 = .ok (.invokevirtual 96, 3) := by decide +kernel
theorem dX4_readStatement_27 : decode cX4_readStatement 27 = .ok (.ireturn, 1) := by decide +kernel
theorem dX4_readStatement_28 : decode cX4_readStatement 28 = .ok (.aload_n 0, 1) := by decide +kernel
theorem dX4_readStatement_29 : decode cX4_readStatement 29 = .ok (.ldc 99, 2) := by decide +kernel
theorem dX4_readStatement_31 : decode cX4_readStatement 31 = .ok (.invokevirtual 68, 3) := by decide +kernel
theorem dX4_readStatement_34 : decode cX4_readStatement 34 = .ok (.ifCond .eq 8, 3) := by decide +kernel
theorem dX4_readStatement_37 : decode cX4_readStatement 37 = .ok (.aload_n 0, 1) := by decide +kernel
theorem dX4_readStatement_38 : decode cX4_readStatement 38 = .ok (.invokevirtual 101, 3) := by decide +kernel
theorem dX4_readStatement_41 : decode cX4_readStatement 41 = .ok (.ireturn, 1) := by decide +kernel
theorem dX4_readStatement_42 : decode cX4_readStatement 42 = .ok (.aload_n 0, 1) := by decide +kernel
theorem dX4_readStatement_43 : decode cX4_readStatement 43 = .ok (.ldc 104, 2) := by decide +kernel
theorem dX4_readStatement_45 : decode cX4_readStatement 45 = .ok (.invokevirtual 68, 3) := by decide +kernel
theorem dX4_readStatement_48 : decode cX4_readStatement 48 = .ok (.ifCond .eq 8, 3) := by decide +kernel
theorem dX4_readStatement_51 : decode cX4_readStatement 51 = .ok (.aload_n 0, 1) := by decide +kernel
theorem dX4_readStatement_52 : decode cX4_readStatement 52 = .ok (.invokevirtual 106, 3) := by decide +kernel
theorem dX4_readStatement_55 : decode cX4_readStatement 55 = .ok (.ireturn, 1) := by decide +kernel
theorem dX4_readStatement_56 : decode cX4_readStatement 56 = .ok (.aload_n 0, 1) := by decide +kernel
theorem dX4_readStatement_57 : decode cX4_readStatement 57 = .ok (.bipush (-2), 2) := by decide +kernel
theorem dX4_readStatement_59 : decode cX4_readStatement 59 = .ok (.invokevirtual 72, 3) := by decide +kernel
theorem dX4_readStatement_62 : decode cX4_readStatement 62 = .ok (.ireturn, 1) := by decide +kernel
theorem dX4_readTones_0 : decode cX4_readTones 0 = .ok (.aload_n 0, 1) := by decide +kernel
theorem dX4_readTones_1 : decode cX4_readTones 1 = .ok (.getfield 39, 3) := by decide +kernel
theorem dX4_readTones_4 : decode cX4_readTones 4 = .ok (.ifCond .eq 10, 3) := by decide +kernel
theorem dX4_readTones_7 : decode cX4_readTones 7 = .ok (.aload_n 0, 1) := by decide +kernel
theorem dX4_readTones_8 : decode cX4_readTones 8 = .ok (.bipush (-2), 2) := by decide +kernel
theorem dX4_readTones_10 : decode cX4_readTones 10 = .ok (.invokevirtual 72, 3) := by decide +kernel
theorem dX4_readTones_13 : decode cX4_readTones 13 = .ok (.ireturn, 1) := by decide +kernel
theorem dX4_readTones_14 : decode cX4_readTones 14 = .ok (.aload_n 0, 1) := by decide +kernel
theorem dX4_readTones_15 : decode cX4_readTones 15 = .ok (.iconst 1, 1) := by decide +kernel
theorem dX4_readTones_16 : decode cX4_readTones 16 = .ok (.putfield 39, 3) := by decide +kernel
theorem dX4_readTones_19 : decode cX4_readTones 19 = .ok (.aload_n 0, 1) := by decide +kernel
theorem dX4_readTones_20 : decode cX4_readTones 20 = .ok (.invokevirtual 49, 3) := by decide +kernel
theorem dX4_readTones_23 : decode cX4_readTones 23 = .ok (.iconst 0, 1) := by decide +kernel
theorem dX4_readTones_24 : decode cX4_readTones 24 = .ok (.istore_n 1, 1) := by decide +kernel
theorem dX4_readTones_25 : decode cX4_readTones 25 = .ok (.iload_n 1, 1) := by decide +kernel
theorem dX4_readTones_26 : decode cX4_readTones 26 = .ok (.aload_n 0, 1) := by decide +kernel
theorem dX4_readTones_27 : decode cX4_readTones 27 = .ok (.getfield 29, 3) := by decide +kernel
theorem dX4_readTones_30 : decode cX4_readTones 30 = .ok (.getfield 109, 3) := by decide +kernel
theorem dX4_readTones_33 : decode cX4_readTones 33 = .ok (.if_icmp .ge 107, 3) := by decide +kernel
theorem dX4_readTones_36 : decode cX4_readTones 36 = .ok (.aload_n 0, 1) := by decide +kernel
theorem dX4_readTones_37 : decode cX4_readTones 37 = .ok (.getfield 56, 3) := by decide +kernel
theorem dX4_readTones_40 : decode cX4_readTones 40 = .ok (.iconst 1, 1) := by decide +kernel
theorem dX4_readTones_41 : decode cX4_readTones 41 = .ok (.if_icmp .eq 10, 3) := by decide +kernel
theorem dX4_readTones_44 : decode cX4_readTones 44 = .ok (.aload_n 0, 1) := by decide +kernel
theorem dX4_readTones_45 : decode cX4_readTones 45 = .ok (.bipush (-2), 2) := by decide +kernel
theorem dX4_readTones_47 : decode cX4_readTones 47 = .ok (.invokevirtual 72, 3) := by decide +kernel
theorem dX4_readTones_50 : decode cX4_readTones 50 = .ok (.ireturn, 1) := by decide +kernel
theorem dX4_readTones_51 : decode cX4_readTones 51 = .ok (.aload_n 0, 1) := by decide +kernel
theorem dX4_readTones_52 : decode cX4_readTones 52 = .ok (.getfield 46, 3) := by decide +kernel
theorem dX4_readTones_55 : decode cX4_readTones 55 = .ok (.aload_n 0, 1) := by decide +kernel
theorem dX4_readTones_56 : decode cX4_readTones 56 = .ok (.getfield 112, 3) := by decide +kernel
theorem dX4_readTones_59 : decode cX4_readTones 59 = .ok (.isub, 1) := by decide +kernel
theorem dX4_readTones_60 : decode cX4_readTones 60 = .ok (.aload_n 0, 1) := by decide +kernel
theorem dX4_readTones_61 : decode cX4_readTones 61 = .ok (.getfield 29, 3) := by decide +kernel
theorem dX4_readTones_64 : decode cX4_readTones 64 = .ok (.getfield 115, 3) := by decide +kernel
theorem dX4_readTones_67 : decode cX4_readTones 67 = .ok (.if_icmp .eq 10, 3) := by decide +kernel
theorem dX4_readTones_70 : decode cX4_readTones 70 = .ok (.aload_n 0, 1) := by decide +kernel
theorem dX4_readTones_71 : decode cX4_readTones 71 = .ok (.bipush (-3), 2) := by decide +kernel
theorem dX4_readTones_73 : decode cX4_readTones 73 = .ok (.invokevirtual 72, 3) := by decide +kernel
theorem dX4_readTones_76 : decode cX4_readTones 76 = .ok (.ireturn, 1) := by decide +kernel
theorem dX4_readTones_77 : decode cX4_readTones 77 = .ok (.iconst 0, 1) := by decide +kernel
theorem dX4_readTones_78 : decode cX4_readTones 78 = .ok (.istore_n 2, 1) := by decide +kernel
theorem dX4_readTones_79 : decode cX4_readTones 79 = .ok (.iload_n 2, 1) := by decide +kernel
theorem dX4_readTones_80 : decode cX4_readTones 80 = .ok (.aload_n 0, 1) := by decide +kernel
theorem dX4_readTones_81 : decode cX4_readTones 81 = .ok (.getfield 29, 3) := by decide +kernel
theorem dX4_readTones_84 : decode cX4_readTones 84 = .ok (.getfield 115, 3) := by decide +kernel
theorem dX4_readTones_87 : decode cX4_readTones 87 = .ok (.if_icmp .ge 43, 3) := by decide +kernel
theorem dX4_readTones_90 : decode cX4_readTones 90 = .ok (.aload_n 0, 1) := by decide +kernel
theorem dX4_readTones_91 : decode cX4_readTones 91 = .ok (.getfield 29, 3) := by decide +kernel
theorem dX4_readTones_94 : decode cX4_readTones 94 = .ok (.getfield 118, 3) := by decide +kernel
theorem dX4_readTones_97 : decode cX4_readTones 97 = .ok (.aload_n 0, 1) := by decide +kernel
theorem dX4_readTones_98 : decode cX4_readTones 98 = .ok (.getfield 29, 3) := by decide +kernel
theorem dX4_readTones_101 : decode cX4_readTones 101 = .ok (.iload_n 2, 1) := by decide +kernel
theorem dX4_readTones_102 : decode cX4_readTones 102 = .ok (.iload_n 1, 1) := by decide +kernel
theorem dX4_readTones_103 : decode cX4_readTones 103 = .ok (.invokevirtual 120, 3) := by decide +kernel
theorem dX4_readTones_106 : decode cX4_readTones 106 = .ok (.aload_n 0, 1) := by decide +kernel
theorem dX4_readTones_107 : decode cX4_readTones 107 = .ok (.getfield 15, 3) := by decide +kernel
theorem dX4_readTones_110 : decode cX4_readTones 110 = .ok (.aload_n 0, 1) := by decide +kernel
theorem dX4_readTones_111 : decode cX4_readTones 111 = .ok (.getfield 112, 3) := by decide +kernel
theorem dX4_readTones_114 : decode cX4_readTones 114 = .ok (.iload_n 2, 1) := by decide +kernel
theorem dX4_readTones_115 : decode cX4_readTones 115 = .ok (.iadd, 1) := by decide +kernel
theorem dX4_readTones_116 : decode cX4_readTones 116 = .ok (.baload, 1) := by decide +kernel
theorem dX4_readTones_117 : decode cX4_readTones 117 = .ok (.bipush 48, 2) := by decide +kernel
theorem dX4_readTones_119 : decode cX4_readTones 119 = .ok (.isub, 1) := by decide +kernel
theorem dX4_readTones_120 : decode cX4_readTones 120 = .ok (.bipush 11, 2) := by decide +kernel
theorem dX4_readTones_122 : decode cX4_readTones 122 = .ok (.imul, 1) := by decide +kernel
theorem dX4_readTones_123 : decode cX4_readTones 123 = .ok (.iastore, 1) := by decide +kernel
theorem dX4_readTones_124 : decode cX4_readTones 124 = .ok (.iinc 2 1, 3) := by decide +kernel
theorem dX4_readTones_127 : decode cX4_readTones 127 = .ok (.goto (-48), 3) := by decide +kernel
theorem dX4_readTones_130 : decode cX4_readTones 130 = .ok (.aload_n 0, 1) := by decide +kernel
theorem dX4_readTones_131 : decode cX4_readTones 131 = .ok (.invokevirtual 49, 3) := by decide +kernel
theorem dX4_readTones_134 : decode cX4_readTones 134 = .ok (.iinc 1 1, 3) := by decide +kernel
theorem dX4_readTones_137 : decode cX4_readTones 137 = .ok (.goto (-112), 3) := by decide +kernel
theorem dX4_readTones_140 : decode cX4_readTones 140 = .ok (.iconst 1, 1) := by decide +kernel
theorem dX4_readTones_141 : decode cX4_readTones 141 = .ok (.ireturn, 1) := by decide +kernel
theorem dX4_readPlate_0 : decode cX4_readPlate 0 = .ok (.aload_n 0, 1) := by decide +kernel
theorem dX4_readPlate_1 : decode cX4_readPlate 1 = .ok (.getfield 29, 3) := by decide +kernel
theorem dX4_readPlate_4 : decode cX4_readPlate 4 = .ok (.getfield 123, 3) := by decide +kernel
theorem dX4_readPlate_7 : decode cX4_readPlate 7 = .ok (.iconst 4, 1) := by decide +kernel
theorem dX4_readPlate_8 : decode cX4_readPlate 8 = .ok (.if_icmp .lt 10, 3) := by decide +kernel
theorem dX4_readPlate_11 : decode cX4_readPlate 11 = .ok (.aload_n 0, 1) := by decide +kernel
theorem dX4_readPlate_12 : decode cX4_readPlate 12 = .ok (.bipush (-5), 2) := by decide +kernel
theorem dX4_readPlate_14 : decode cX4_readPlate 14 = .ok (.invokevirtual 72, 3) := by decide +kernel
theorem dX4_readPlate_17 : decode cX4_readPlate 17 = .ok (.ireturn, 1) := by decide +kernel
theorem dX4_readPlate_18 : decode cX4_readPlate 18 = .ok (.aload_n 0, 1) := by decide +kernel
theorem dX4_readPlate_19 : decode cX4_readPlate 19 = .ok (.invokevirtual 49, 3) := by decide +kernel
theorem dX4_readPlate_22 : decode cX4_readPlate 22 = .ok (.aload_n 0, 1) := by decide +kernel
theorem dX4_readPlate_23 : decode cX4_readPlate 23 = .ok (.invokevirtual 126, 3) := by decide +kernel
theorem dX4_readPlate_26 : decode cX4_readPlate 26 = .ok (.ifCond .ne 5, 3) := by decide +kernel
theorem dX4_readPlate_29 : decode cX4_readPlate 29 = .ok (.iconst 0, 1) := by decide +kernel
theorem dX4_readPlate_30 : decode cX4_readPlate 30 = .ok (.ireturn, 1) := by decide +kernel
theorem dX4_readPlate_31 : decode cX4_readPlate 31 = .ok (.aload_n 0, 1) := by decide +kernel
theorem dX4_readPlate_32 : decode cX4_readPlate 32 = .ok (.getfield 15, 3) := by decide +kernel
theorem dX4_readPlate_35 : decode cX4_readPlate 35 = .ok (.aload_n 0, 1) := by decide +kernel
theorem dX4_readPlate_36 : decode cX4_readPlate 36 = .ok (.getfield 112, 3) := by decide +kernel
theorem dX4_readPlate_39 : decode cX4_readPlate 39 = .ok (.aload_n 0, 1) := by decide +kernel
theorem dX4_readPlate_40 : decode cX4_readPlate 40 = .ok (.getfield 46, 3) := by decide +kernel
theorem dX4_readPlate_43 : decode cX4_readPlate 43 = .ok (.invokestatic 129, 3) := by decide +kernel
theorem dX4_readPlate_46 : decode cX4_readPlate 46 = .ok (.lstore_n 1, 1) := by decide +kernel
theorem dX4_readPlate_47 : decode cX4_readPlate 47 = .ok (.aload_n 0, 1) := by decide +kernel
theorem dX4_readPlate_48 : decode cX4_readPlate 48 = .ok (.getfield 29, 3) := by decide +kernel
theorem dX4_readPlate_51 : decode cX4_readPlate 51 = .ok (.lload_n 1, 1) := by decide +kernel
theorem dX4_readPlate_52 : decode cX4_readPlate 52 = .ok (.invokevirtual 133, 3) := by decide +kernel
theorem dX4_readPlate_55 : decode cX4_readPlate 55 = .ok (.ifCond .lt 10, 3) := by decide +kernel
theorem dX4_readPlate_58 : decode cX4_readPlate 58 = .ok (.aload_n 0, 1) := by decide +kernel
theorem dX4_readPlate_59 : decode cX4_readPlate 59 = .ok (.bipush (-4), 2) := by decide +kernel
theorem dX4_readPlate_61 : decode cX4_readPlate 61 = .ok (.invokevirtual 72, 3) := by decide +kernel
theorem dX4_readPlate_64 : decode cX4_readPlate 64 = .ok (.ireturn, 1) := by decide +kernel
theorem dX4_readPlate_65 : decode cX4_readPlate 65 = .ok (.aload_n 0, 1) := by decide +kernel
theorem dX4_readPlate_66 : decode cX4_readPlate 66 = .ok (.invokevirtual 49, 3) := by decide +kernel
theorem dX4_readPlate_69 : decode cX4_readPlate 69 = .ok (.aload_n 0, 1) := by decide +kernel
theorem dX4_readPlate_70 : decode cX4_readPlate 70 = .ok (.iconst 0, 1) := by decide +kernel
theorem dX4_readPlate_71 : decode cX4_readPlate 71 = .ok (.iconst 3, 1) := by decide +kernel
theorem dX4_readPlate_72 : decode cX4_readPlate 72 = .ok (.invokevirtual 76, 3) := by decide +kernel
theorem dX4_readPlate_75 : decode cX4_readPlate 75 = .ok (.ifCond .ne 5, 3) := by decide +kernel
theorem dX4_readPlate_78 : decode cX4_readPlate 78 = .ok (.iconst 0, 1) := by decide +kernel
theorem dX4_readPlate_79 : decode cX4_readPlate 79 = .ok (.ireturn, 1) := by decide +kernel
theorem dX4_readPlate_80 : decode cX4_readPlate 80 = .ok (.aload_n 0, 1) := by decide +kernel
theorem dX4_readPlate_81 : decode cX4_readPlate 81 = .ok (.getfield 80, 3) := by decide +kernel
theorem dX4_readPlate_84 : decode cX4_readPlate 84 = .ok (.istore_n 3, 1) := by decide +kernel
theorem dX4_readPlate_85 : decode cX4_readPlate 85 = .ok (.aload_n 0, 1) := by decide +kernel
theorem dX4_readPlate_86 : decode cX4_readPlate 86 = .ok (.iload_n 3, 1) := by decide +kernel
theorem dX4_readPlate_87 : decode cX4_readPlate 87 = .ok (.ifCond .ne 7, 3) := by decide +kernel
theorem dX4_readPlate_90 : decode cX4_readPlate 90 = .ok (.iconst 1, 1) := by decide +kernel
theorem dX4_readPlate_91 : decode cX4_readPlate 91 = .ok (.goto 4, 3) := by decide +kernel
theorem dX4_readPlate_94 : decode cX4_readPlate 94 = .ok (.iconst 0, 1) := by decide +kernel
theorem dX4_readPlate_95 : decode cX4_readPlate 95 = .ok (.iconst 3, 1) := by decide +kernel
theorem dX4_readPlate_96 : decode cX4_readPlate 96 = .ok (.invokevirtual 76, 3) := by decide +kernel
theorem dX4_readPlate_99 : decode cX4_readPlate 99 = .ok (.ifCond .ne 5, 3) := by decide +kernel
theorem dX4_readPlate_102 : decode cX4_readPlate 102 = .ok (.iconst 0, 1) := by decide +kernel
theorem dX4_readPlate_103 : decode cX4_readPlate 103 = .ok (.ireturn, 1) := by decide +kernel
theorem dX4_readPlate_104 : decode cX4_readPlate 104 = .ok (.aload_n 0, 1) := by decide +kernel
theorem dX4_readPlate_105 : decode cX4_readPlate 105 = .ok (.getfield 80, 3) := by decide +kernel
theorem dX4_readPlate_108 : decode cX4_readPlate 108 = .ok (.istore 4, 2) := by decide +kernel
theorem dX4_readPlate_110 : decode cX4_readPlate 110 = .ok (.aload_n 0, 1) := by decide +kernel
theorem dX4_readPlate_111 : decode cX4_readPlate 111 = .ok (.invokevirtual 137, 3) := by decide +kernel
theorem dX4_readPlate_114 : decode cX4_readPlate 114 = .ok (.istore 5, 2) := by decide +kernel
theorem dX4_readPlate_116 : decode cX4_readPlate 116 = .ok (.iload 5, 2) := by decide +kernel
theorem dX4_readPlate_118 : decode cX4_readPlate 118 = .ok (.ifCond .ge 10, 3) := by decide +kernel
theorem dX4_readPlate_121 : decode cX4_readPlate 121 = .ok (.aload_n 0, 1) := by decide +kernel
theorem dX4_readPlate_122 : decode cX4_readPlate 122 = .ok (.bipush (-2), 2) := by decide +kernel
theorem dX4_readPlate_124 : decode cX4_readPlate 124 = .ok (.invokevirtual 72, 3) := by decide +kernel
theorem dX4_readPlate_127 : decode cX4_readPlate 127 = .ok (.ireturn, 1) := by decide +kernel
theorem dX4_readPlate_128 : decode cX4_readPlate 128 = .ok (.aload_n 0, 1) := by decide +kernel
theorem dX4_readPlate_129 : decode cX4_readPlate 129 = .ok (.invokevirtual 49, 3) := by decide +kernel
theorem dX4_readPlate_132 : decode cX4_readPlate 132 = .ok (.aconst_null, 1) := by decide +kernel
theorem dX4_readPlate_133 : decode cX4_readPlate 133 = .ok (.astore 6, 2) := by decide +kernel
theorem dX4_readPlate_135 : decode cX4_readPlate 135 = .ok (.aload_n 0, 1) := by decide +kernel
theorem dX4_readPlate_136 : decode cX4_readPlate 136 = .ok (.ldc 141, 2) := by decide +kernel
theorem dX4_readPlate_138 : decode cX4_readPlate 138 = .ok (.invokevirtual 68, 3) := by decide +kernel
theorem dX4_readPlate_141 : decode cX4_readPlate 141 = .ok (.ifCond .eq 42, 3) := by decide +kernel
theorem dX4_readPlate_144 : decode cX4_readPlate 144 = .ok (.aload_n 0, 1) := by decide +kernel
theorem dX4_readPlate_145 : decode cX4_readPlate 145 = .ok (.invokevirtual 49, 3) := by decide +kernel
theorem dX4_readPlate_148 : decode cX4_readPlate 148 = .ok (.aload_n 0, 1) := by decide +kernel
theorem dX4_readPlate_149 : decode cX4_readPlate 149 = .ok (.iconst 0, 1) := by decide +kernel
theorem dX4_readPlate_150 : decode cX4_readPlate 150 = .ok (.putfield 143, 3) := by decide +kernel
theorem dX4_readPlate_153 : decode cX4_readPlate 153 = .ok (.aload_n 0, 1) := by decide +kernel
theorem dX4_readPlate_154 : decode cX4_readPlate 154 = .ok (.iconst 0, 1) := by decide +kernel
theorem dX4_readPlate_155 : decode cX4_readPlate 155 = .ok (.invokevirtual 146, 3) := by decide +kernel
theorem dX4_readPlate_158 : decode cX4_readPlate 158 = .ok (.ifCond .ne 5, 3) := by decide +kernel
theorem dX4_readPlate_161 : decode cX4_readPlate 161 = .ok (.iconst 0, 1) := by decide +kernel
theorem dX4_readPlate_162 : decode cX4_readPlate 162 = .ok (.ireturn, 1) := by decide +kernel
theorem dX4_readPlate_163 : decode cX4_readPlate 163 = .ok (.new 149, 3) := by decide +kernel
theorem dX4_readPlate_166 : decode cX4_readPlate 166 = .ok (.dup, 1) := by decide +kernel
theorem dX4_readPlate_167 : decode cX4_readPlate 167 = .ok (.aload_n 0, 1) := by decide +kernel
theorem dX4_readPlate_168 : decode cX4_readPlate 168 = .ok (.getfield 9, 3) := by decide +kernel
theorem dX4_readPlate_171 : decode cX4_readPlate 171 = .ok (.aload_n 0, 1) := by decide +kernel
theorem dX4_readPlate_172 : decode cX4_readPlate 172 = .ok (.getfield 143, 3) := by decide +kernel
theorem dX4_readPlate_175 : decode cX4_readPlate 175 = .ok (.invokestatic 151, 3) := by decide +kernel
theorem dX4_readPlate_178 : decode cX4_readPlate 178 = .ok (.invokespecial 157, 3) := by decide +kernel
theorem dX4_readPlate_181 : decode cX4_readPlate 181 = .ok (.astore 6, 2) := by decide +kernel
theorem dX4_readPlate_183 : decode cX4_readPlate 183 = .ok (.aload_n 0, 1) := by decide +kernel
theorem dX4_readPlate_184 : decode cX4_readPlate 184 = .ok (.getfield 29, 3) := by decide +kernel
theorem dX4_readPlate_187 : decode cX4_readPlate 187 = .ok (.lload_n 1, 1) := by decide +kernel
theorem dX4_readPlate_188 : decode cX4_readPlate 188 = .ok (.iload_n 3, 1) := by decide +kernel
theorem dX4_readPlate_189 : decode cX4_readPlate 189 = .ok (.iload 4, 2) := by decide +kernel
theorem dX4_readPlate_191 : decode cX4_readPlate 191 = .ok (.iload 5, 2) := by decide +kernel
theorem dX4_readPlate_193 : decode cX4_readPlate 193 = .ok (.aload 6, 2) := by decide +kernel
theorem dX4_readPlate_195 : decode cX4_readPlate 195 = .ok (.invokevirtual 160, 3) := by decide +kernel
theorem dX4_readPlate_198 : decode cX4_readPlate 198 = .ok (.iconst 1, 1) := by decide +kernel
theorem dX4_readPlate_199 : decode cX4_readPlate 199 = .ok (.ireturn, 1) := by decide +kernel
theorem dX4_readInk_0 : decode cX4_readInk 0 = .ok (.aload_n 0, 1) := by decide +kernel
theorem dX4_readInk_1 : decode cX4_readInk 1 = .ok (.invokevirtual 49, 3) := by decide +kernel
theorem dX4_readInk_4 : decode cX4_readInk 4 = .ok (.aload_n 0, 1) := by decide +kernel
theorem dX4_readInk_5 : decode cX4_readInk 5 = .ok (.invokevirtual 126, 3) := by decide +kernel
theorem dX4_readInk_8 : decode cX4_readInk 8 = .ok (.ifCond .ne 5, 3) := by decide +kernel
theorem dX4_readInk_11 : decode cX4_readInk 11 = .ok (.iconst 0, 1) := by decide +kernel
theorem dX4_readInk_12 : decode cX4_readInk 12 = .ok (.ireturn, 1) := by decide +kernel
theorem dX4_readInk_13 : decode cX4_readInk 13 = .ok (.aload_n 0, 1) := by decide +kernel
theorem dX4_readInk_14 : decode cX4_readInk 14 = .ok (.getfield 29, 3) := by decide +kernel
theorem dX4_readInk_17 : decode cX4_readInk 17 = .ok (.aload_n 0, 1) := by decide +kernel
theorem dX4_readInk_18 : decode cX4_readInk 18 = .ok (.getfield 15, 3) := by decide +kernel
theorem dX4_readInk_21 : decode cX4_readInk 21 = .ok (.aload_n 0, 1) := by decide +kernel
theorem dX4_readInk_22 : decode cX4_readInk 22 = .ok (.getfield 112, 3) := by decide +kernel
theorem dX4_readInk_25 : decode cX4_readInk 25 = .ok (.aload_n 0, 1) := by decide +kernel
theorem dX4_readInk_26 : decode cX4_readInk 26 = .ok (.getfield 46, 3) := by decide +kernel
theorem dX4_readInk_29 : decode cX4_readInk 29 = .ok (.invokestatic 129, 3) := by decide +kernel
theorem dX4_readInk_32 : decode cX4_readInk 32 = .ok (.invokevirtual 133, 3) := by decide +kernel
theorem dX4_readInk_35 : decode cX4_readInk 35 = .ok (.istore_n 1, 1) := by decide +kernel
theorem dX4_readInk_36 : decode cX4_readInk 36 = .ok (.iload_n 1, 1) := by decide +kernel
theorem dX4_readInk_37 : decode cX4_readInk 37 = .ok (.ifCond .ge 10, 3) := by decide +kernel
theorem dX4_readInk_40 : decode cX4_readInk 40 = .ok (.aload_n 0, 1) := by decide +kernel
theorem dX4_readInk_41 : decode cX4_readInk 41 = .ok (.bipush (-4), 2) := by decide +kernel
theorem dX4_readInk_43 : decode cX4_readInk 43 = .ok (.invokevirtual 72, 3) := by decide +kernel
theorem dX4_readInk_46 : decode cX4_readInk 46 = .ok (.ireturn, 1) := by decide +kernel
theorem dX4_readInk_47 : decode cX4_readInk 47 = .ok (.aload_n 0, 1) := by decide +kernel
theorem dX4_readInk_48 : decode cX4_readInk 48 = .ok (.invokevirtual 49, 3) := by decide +kernel
theorem dX4_readInk_51 : decode cX4_readInk 51 = .ok (.aload_n 0, 1) := by decide +kernel
theorem dX4_readInk_52 : decode cX4_readInk 52 = .ok (.iconst 0, 1) := by decide +kernel
theorem dX4_readInk_53 : decode cX4_readInk 53 = .ok (.ldc 164, 2) := by decide +kernel
theorem dX4_readInk_55 : decode cX4_readInk 55 = .ok (.invokevirtual 76, 3) := by decide +kernel
theorem dX4_readInk_58 : decode cX4_readInk 58 = .ok (.ifCond .ne 5, 3) := by decide +kernel
theorem dX4_readInk_61 : decode cX4_readInk 61 = .ok (.iconst 0, 1) := by decide +kernel
theorem dX4_readInk_62 : decode cX4_readInk 62 = .ok (.ireturn, 1) := by decide +kernel
theorem dX4_readInk_63 : decode cX4_readInk 63 = .ok (.aload_n 0, 1) := by decide +kernel
theorem dX4_readInk_64 : decode cX4_readInk 64 = .ok (.getfield 29, 3) := by decide +kernel
theorem dX4_readInk_67 : decode cX4_readInk 67 = .ok (.getfield 165, 3) := by decide +kernel
theorem dX4_readInk_70 : decode cX4_readInk 70 = .ok (.iload_n 1, 1) := by decide +kernel
theorem dX4_readInk_71 : decode cX4_readInk 71 = .ok (.aaload, 1) := by decide +kernel
theorem dX4_readInk_72 : decode cX4_readInk 72 = .ok (.aload_n 0, 1) := by decide +kernel
theorem dX4_readInk_73 : decode cX4_readInk 73 = .ok (.getfield 80, 3) := by decide +kernel
theorem dX4_readInk_76 : decode cX4_readInk 76 = .ok (.putfield 169, 3) := by decide +kernel
theorem dX4_readInk_79 : decode cX4_readInk 79 = .ok (.iconst 1, 1) := by decide +kernel
theorem dX4_readInk_80 : decode cX4_readInk 80 = .ok (.ireturn, 1) := by decide +kernel
theorem dX4_readLimit_0 : decode cX4_readLimit 0 = .ok (.aload_n 0, 1) := by decide +kernel
theorem dX4_readLimit_1 : decode cX4_readLimit 1 = .ok (.getfield 43, 3) := by decide +kernel
theorem dX4_readLimit_4 : decode cX4_readLimit 4 = .ok (.ifCond .eq 10, 3) := by decide +kernel
theorem dX4_readLimit_7 : decode cX4_readLimit 7 = .ok (.aload_n 0, 1) := by decide +kernel
theorem dX4_readLimit_8 : decode cX4_readLimit 8 = .ok (.bipush (-2), 2) := by decide +kernel
theorem dX4_readLimit_10 : decode cX4_readLimit 10 = .ok (.invokevirtual 72, 3) := by decide +kernel
theorem dX4_readLimit_13 : decode cX4_readLimit 13 = .ok (.ireturn, 1) := by decide +kernel
theorem dX4_readLimit_14 : decode cX4_readLimit 14 = .ok (.aload_n 0, 1) := by decide +kernel
theorem dX4_readLimit_15 : decode cX4_readLimit 15 = .ok (.iconst 1, 1) := by decide +kernel
theorem dX4_readLimit_16 : decode cX4_readLimit 16 = .ok (.putfield 43, 3) := by decide +kernel
theorem dX4_readLimit_19 : decode cX4_readLimit 19 = .ok (.aload_n 0, 1) := by decide +kernel
theorem dX4_readLimit_20 : decode cX4_readLimit 20 = .ok (.invokevirtual 49, 3) := by decide +kernel
theorem dX4_readLimit_23 : decode cX4_readLimit 23 = .ok (.aload_n 0, 1) := by decide +kernel
theorem dX4_readLimit_24 : decode cX4_readLimit 24 = .ok (.iconst 1, 1) := by decide +kernel
theorem dX4_readLimit_25 : decode cX4_readLimit 25 = .ok (.iconst 4, 1) := by decide +kernel
theorem dX4_readLimit_26 : decode cX4_readLimit 26 = .ok (.invokevirtual 76, 3) := by decide +kernel
theorem dX4_readLimit_29 : decode cX4_readLimit 29 = .ok (.ifCond .ne 5, 3) := by decide +kernel
theorem dX4_readLimit_32 : decode cX4_readLimit 32 = .ok (.iconst 0, 1) := by decide +kernel
theorem dX4_readLimit_33 : decode cX4_readLimit 33 = .ok (.ireturn, 1) := by decide +kernel
theorem dX4_readLimit_34 : decode cX4_readLimit 34 = .ok (.aload_n 0, 1) := by decide +kernel
theorem dX4_readLimit_35 : decode cX4_readLimit 35 = .ok (.getfield 29, 3) := by decide +kernel
theorem dX4_readLimit_38 : decode cX4_readLimit 38 = .ok (.aload_n 0, 1) := by decide +kernel
theorem dX4_readLimit_39 : decode cX4_readLimit 39 = .ok (.getfield 80, 3) := by decide +kernel
theorem dX4_readLimit_42 : decode cX4_readLimit 42 = .ok (.putfield 173, 3) := by decide +kernel
theorem dX4_readLimit_45 : decode cX4_readLimit 45 = .ok (.iconst 1, 1) := by decide +kernel
theorem dX4_readLimit_46 : decode cX4_readLimit 46 = .ok (.ireturn, 1) := by decide +kernel
theorem dX4_readSum_0 : decode cX4_readSum 0 = .ok (.aload_n 0, 1) := by decide +kernel
theorem dX4_readSum_1 : decode cX4_readSum 1 = .ok (.iload_n 1, 1) := by decide +kernel
theorem dX4_readSum_2 : decode cX4_readSum 2 = .ok (.invokevirtual 175, 3) := by decide +kernel
theorem dX4_readSum_5 : decode cX4_readSum 5 = .ok (.ifCond .ne 5, 3) := by decide +kernel
theorem dX4_readSum_8 : decode cX4_readSum 8 = .ok (.iconst 0, 1) := by decide +kernel
theorem dX4_readSum_9 : decode cX4_readSum 9 = .ok (.ireturn, 1) := by decide +kernel
theorem dX4_readSum_10 : decode cX4_readSum 10 = .ok (.iconst 0, 1) := by decide +kernel
theorem dX4_readSum_11 : decode cX4_readSum 11 = .ok (.istore_n 2, 1) := by decide +kernel
theorem dX4_readSum_12 : decode cX4_readSum 12 = .ok (.iload_n 2, 1) := by decide +kernel
theorem dX4_readSum_13 : decode cX4_readSum 13 = .ok (.aload_n 0, 1) := by decide +kernel
theorem dX4_readSum_14 : decode cX4_readSum 14 = .ok (.getfield 25, 3) := by decide +kernel
theorem dX4_readSum_17 : decode cX4_readSum 17 = .ok (.if_icmp .ge 63, 3) := by decide +kernel
theorem dX4_readSum_20 : decode cX4_readSum 20 = .ok (.aload_n 0, 1) := by decide +kernel
theorem dX4_readSum_21 : decode cX4_readSum 21 = .ok (.bipush 43, 2) := by decide +kernel
theorem dX4_readSum_23 : decode cX4_readSum 23 = .ok (.invokevirtual 178, 3) := by decide +kernel
theorem dX4_readSum_26 : decode cX4_readSum 26 = .ok (.ifCond .ne 12, 3) := by decide +kernel
theorem dX4_readSum_29 : decode cX4_readSum 29 = .ok (.aload_n 0, 1) := by decide +kernel
theorem dX4_readSum_30 : decode cX4_readSum 30 = .ok (.bipush 45, 2) := by decide +kernel
theorem dX4_readSum_32 : decode cX4_readSum 32 = .ok (.invokevirtual 178, 3) := by decide +kernel
theorem dX4_readSum_35 : decode cX4_readSum 35 = .ok (.ifCond .eq 45, 3) := by decide +kernel
theorem dX4_readSum_38 : decode cX4_readSum 38 = .ok (.aload_n 0, 1) := by decide +kernel
theorem dX4_readSum_39 : decode cX4_readSum 39 = .ok (.bipush 43, 2) := by decide +kernel
theorem dX4_readSum_41 : decode cX4_readSum 41 = .ok (.invokevirtual 178, 3) := by decide +kernel
theorem dX4_readSum_44 : decode cX4_readSum 44 = .ok (.ifCond .eq 8, 3) := by decide +kernel
theorem dX4_readSum_47 : decode cX4_readSum 47 = .ok (.bipush (-5), 2) := by decide +kernel
theorem dX4_readSum_49 : decode cX4_readSum 49 = .ok (.goto 5, 3) := by decide +kernel
theorem dX4_readSum_52 : decode cX4_readSum 52 = .ok (.bipush (-6), 2) := by decide +kernel
theorem dX4_readSum_54 : decode cX4_readSum 54 = .ok (.istore_n 3, 1) := by decide +kernel
theorem dX4_readSum_55 : decode cX4_readSum 55 = .ok (.aload_n 0, 1) := by decide +kernel
theorem dX4_readSum_56 : decode cX4_readSum 56 = .ok (.invokevirtual 49, 3) := by decide +kernel
theorem dX4_readSum_59 : decode cX4_readSum 59 = .ok (.aload_n 0, 1) := by decide +kernel
theorem dX4_readSum_60 : decode cX4_readSum 60 = .ok (.iload_n 1, 1) := by decide +kernel
theorem dX4_readSum_61 : decode cX4_readSum 61 = .ok (.invokevirtual 175, 3) := by decide +kernel
theorem dX4_readSum_64 : decode cX4_readSum 64 = .ok (.ifCond .ne 5, 3) := by decide +kernel
theorem dX4_readSum_67 : decode cX4_readSum 67 = .ok (.iconst 0, 1) := by decide +kernel
theorem dX4_readSum_68 : decode cX4_readSum 68 = .ok (.ireturn, 1) := by decide +kernel
theorem dX4_readSum_69 : decode cX4_readSum 69 = .ok (.aload_n 0, 1) := by decide +kernel
theorem dX4_readSum_70 : decode cX4_readSum 70 = .ok (.iload_n 3, 1) := by decide +kernel
theorem dX4_readSum_71 : decode cX4_readSum 71 = .ok (.invokevirtual 181, 3) := by decide +kernel
theorem dX4_readSum_74 : decode cX4_readSum 74 = .ok (.iinc 2 1, 3) := by decide +kernel
theorem dX4_readSum_77 : decode cX4_readSum 77 = .ok (.goto (-65), 3) := by decide +kernel
theorem dX4_readSum_80 : decode cX4_readSum 80 = .ok (.iconst 1, 1) := by decide +kernel
theorem dX4_readSum_81 : decode cX4_readSum 81 = .ok (.ireturn, 1) := by decide +kernel
theorem dX4_readTerm_0 : decode cX4_readTerm 0 = .ok (.aload_n 0, 1) := by decide +kernel
theorem dX4_readTerm_1 : decode cX4_readTerm 1 = .ok (.iload_n 1, 1) := by decide +kernel
theorem dX4_readTerm_2 : decode cX4_readTerm 2 = .ok (.invokevirtual 185, 3) := by decide +kernel
theorem dX4_readTerm_5 : decode cX4_readTerm 5 = .ok (.ifCond .ne 5, 3) := by decide +kernel
theorem dX4_readTerm_8 : decode cX4_readTerm 8 = .ok (.iconst 0, 1) := by decide +kernel
theorem dX4_readTerm_9 : decode cX4_readTerm 9 = .ok (.ireturn, 1) := by decide +kernel
theorem dX4_readTerm_10 : decode cX4_readTerm 10 = .ok (.iconst 0, 1) := by decide +kernel
theorem dX4_readTerm_11 : decode cX4_readTerm 11 = .ok (.istore_n 2, 1) := by decide +kernel
theorem dX4_readTerm_12 : decode cX4_readTerm 12 = .ok (.iload_n 2, 1) := by decide +kernel
theorem dX4_readTerm_13 : decode cX4_readTerm 13 = .ok (.aload_n 0, 1) := by decide +kernel
theorem dX4_readTerm_14 : decode cX4_readTerm 14 = .ok (.getfield 25, 3) := by decide +kernel
theorem dX4_readTerm_17 : decode cX4_readTerm 17 = .ok (.if_icmp .ge 63, 3) := by decide +kernel
theorem dX4_readTerm_20 : decode cX4_readTerm 20 = .ok (.aload_n 0, 1) := by decide +kernel
theorem dX4_readTerm_21 : decode cX4_readTerm 21 = .ok (.bipush 42, 2) := by decide +kernel
theorem dX4_readTerm_23 : decode cX4_readTerm 23 = .ok (.invokevirtual 178, 3) := by decide +kernel
theorem dX4_readTerm_26 : decode cX4_readTerm 26 = .ok (.ifCond .ne 12, 3) := by decide +kernel
theorem dX4_readTerm_29 : decode cX4_readTerm 29 = .ok (.aload_n 0, 1) := by decide +kernel
theorem dX4_readTerm_30 : decode cX4_readTerm 30 = .ok (.bipush 47, 2) := by decide +kernel
theorem dX4_readTerm_32 : decode cX4_readTerm 32 = .ok (.invokevirtual 178, 3) := by decide +kernel
theorem dX4_readTerm_35 : decode cX4_readTerm 35 = .ok (.ifCond .eq 45, 3) := by decide +kernel
theorem dX4_readTerm_38 : decode cX4_readTerm 38 = .ok (.aload_n 0, 1) := by decide +kernel
theorem dX4_readTerm_39 : decode cX4_readTerm 39 = .ok (.bipush 42, 2) := by decide +kernel
theorem dX4_readTerm_41 : decode cX4_readTerm 41 = .ok (.invokevirtual 178, 3) := by decide +kernel
theorem dX4_readTerm_44 : decode cX4_readTerm 44 = .ok (.ifCond .eq 8, 3) := by decide +kernel
theorem dX4_readTerm_47 : decode cX4_readTerm 47 = .ok (.bipush (-7), 2) := by decide +kernel
theorem dX4_readTerm_49 : decode cX4_readTerm 49 = .ok (.goto 5, 3) := by decide +kernel
theorem dX4_readTerm_52 : decode cX4_readTerm 52 = .ok (.bipush (-8), 2) := by decide +kernel
theorem dX4_readTerm_54 : decode cX4_readTerm 54 = .ok (.istore_n 3, 1) := by decide +kernel
theorem dX4_readTerm_55 : decode cX4_readTerm 55 = .ok (.aload_n 0, 1) := by decide +kernel
theorem dX4_readTerm_56 : decode cX4_readTerm 56 = .ok (.invokevirtual 49, 3) := by decide +kernel
theorem dX4_readTerm_59 : decode cX4_readTerm 59 = .ok (.aload_n 0, 1) := by decide +kernel
theorem dX4_readTerm_60 : decode cX4_readTerm 60 = .ok (.iload_n 1, 1) := by decide +kernel
theorem dX4_readTerm_61 : decode cX4_readTerm 61 = .ok (.invokevirtual 185, 3) := by decide +kernel
theorem dX4_readTerm_64 : decode cX4_readTerm 64 = .ok (.ifCond .ne 5, 3) := by decide +kernel
theorem dX4_readTerm_67 : decode cX4_readTerm 67 = .ok (.iconst 0, 1) := by decide +kernel
theorem dX4_readTerm_68 : decode cX4_readTerm 68 = .ok (.ireturn, 1) := by decide +kernel
theorem dX4_readTerm_69 : decode cX4_readTerm 69 = .ok (.aload_n 0, 1) := by decide +kernel
theorem dX4_readTerm_70 : decode cX4_readTerm 70 = .ok (.iload_n 3, 1) := by decide +kernel
theorem dX4_readTerm_71 : decode cX4_readTerm 71 = .ok (.invokevirtual 181, 3) := by decide +kernel
theorem dX4_readTerm_74 : decode cX4_readTerm 74 = .ok (.iinc 2 1, 3) := by decide +kernel
theorem dX4_readTerm_77 : decode cX4_readTerm 77 = .ok (.goto (-65), 3) := by decide +kernel
theorem dX4_readTerm_80 : decode cX4_readTerm 80 = .ok (.iconst 1, 1) := by decide +kernel
theorem dX4_readTerm_81 : decode cX4_readTerm 81 = .ok (.ireturn, 1) := by decide +kernel
theorem dX4_readFactor_0 : decode cX4_readFactor 0 = .ok (.aload_n 0, 1) := by decide +kernel
theorem dX4_readFactor_1 : decode cX4_readFactor 1 = .ok (.bipush 40, 2) := by decide +kernel
theorem dX4_readFactor_3 : decode cX4_readFactor 3 = .ok (.invokevirtual 178, 3) := by decide +kernel
theorem dX4_readFactor_6 : decode cX4_readFactor 6 = .ok (.ifCond .eq 44, 3) := by decide +kernel
theorem dX4_readFactor_9 : decode cX4_readFactor 9 = .ok (.iload_n 1, 1) := by decide +kernel
theorem dX4_readFactor_10 : decode cX4_readFactor 10 = .ok (.iconst 4, 1) := by decide +kernel
theorem dX4_readFactor_11 : decode cX4_readFactor 11 = .ok (.if_icmp .lt 10, 3) := by decide +kernel
theorem dX4_readFactor_14 : decode cX4_readFactor 14 = .ok (.aload_n 0, 1) := by decide +kernel
theorem dX4_readFactor_15 : decode cX4_readFactor 15 = .ok (.bipush (-6), 2) := by decide +kernel
theorem dX4_readFactor_17 : decode cX4_readFactor 17 = .ok (.invokevirtual 72, 3) := by decide +kernel
theorem dX4_readFactor_20 : decode cX4_readFactor 20 = .ok (.ireturn, 1) := by decide +kernel
theorem dX4_readFactor_21 : decode cX4_readFactor 21 = .ok (.aload_n 0, 1) := by decide +kernel
theorem dX4_readFactor_22 : decode cX4_readFactor 22 = .ok (.invokevirtual 49, 3) := by decide +kernel
theorem dX4_readFactor_25 : decode cX4_readFactor 25 = .ok (.aload_n 0, 1) := by decide +kernel
theorem dX4_readFactor_26 : decode cX4_readFactor 26 = .ok (.iload_n 1, 1) := by decide +kernel
theorem dX4_readFactor_27 : decode cX4_readFactor 27 = .ok (.iconst 1, 1) := by decide +kernel
theorem dX4_readFactor_28 : decode cX4_readFactor 28 = .ok (.iadd, 1) := by decide +kernel
theorem dX4_readFactor_29 : decode cX4_readFactor 29 = .ok (.invokevirtual 146, 3) := by decide +kernel
theorem dX4_readFactor_32 : decode cX4_readFactor 32 = .ok (.ifCond .eq 16, 3) := by decide +kernel
theorem dX4_readFactor_35 : decode cX4_readFactor 35 = .ok (.aload_n 0, 1) := by decide +kernel
theorem dX4_readFactor_36 : decode cX4_readFactor 36 = .ok (.bipush 41, 2) := by decide +kernel
theorem dX4_readFactor_38 : decode cX4_readFactor 38 = .ok (.invokevirtual 62, 3) := by decide +kernel
theorem dX4_readFactor_41 : decode cX4_readFactor 41 = .ok (.ifCond .eq 7, 3) := by decide +kernel
theorem dX4_readFactor_44 : decode cX4_readFactor 44 = .ok (.iconst 1, 1) := by decide +kernel
theorem dX4_readFactor_45 : decode cX4_readFactor 45 = .ok (.goto 4, 3) := by decide +kernel
theorem dX4_readFactor_48 : decode cX4_readFactor 48 = .ok (.iconst 0, 1) := by decide +kernel
theorem dX4_readFactor_49 : decode cX4_readFactor 49 = .ok (.ireturn, 1) := by decide +kernel
theorem dX4_readFactor_50 : decode cX4_readFactor 50 = .ok (.aload_n 0, 1) := by decide +kernel
theorem dX4_readFactor_51 : decode cX4_readFactor 51 = .ok (.getfield 56, 3) := by decide +kernel
theorem dX4_readFactor_54 : decode cX4_readFactor 54 = .ok (.iconst 1, 1) := by decide +kernel
theorem dX4_readFactor_55 : decode cX4_readFactor 55 = .ok (.if_icmp .ne 26, 3) := by decide +kernel
theorem dX4_readFactor_58 : decode cX4_readFactor 58 = .ok (.aload_n 0, 1) := by decide +kernel
theorem dX4_readFactor_59 : decode cX4_readFactor 59 = .ok (.iconst 0, 1) := by decide +kernel
theorem dX4_readFactor_60 : decode cX4_readFactor 60 = .ok (.sipush 9999, 3) := by decide +kernel
theorem dX4_readFactor_63 : decode cX4_readFactor 63 = .ok (.invokevirtual 76, 3) := by decide +kernel
theorem dX4_readFactor_66 : decode cX4_readFactor 66 = .ok (.ifCond .ne 5, 3) := by decide +kernel
theorem dX4_readFactor_69 : decode cX4_readFactor 69 = .ok (.iconst 0, 1) := by decide +kernel
theorem dX4_readFactor_70 : decode cX4_readFactor 70 = .ok (.ireturn, 1) := by decide +kernel
theorem dX4_readFactor_71 : decode cX4_readFactor 71 = .ok (.aload_n 0, 1) := by decide +kernel
theorem dX4_readFactor_72 : decode cX4_readFactor 72 = .ok (.aload_n 0, 1) := by decide +kernel
theorem dX4_readFactor_73 : decode cX4_readFactor 73 = .ok (.getfield 80, 3) := by decide +kernel
theorem dX4_readFactor_76 : decode cX4_readFactor 76 = .ok (.invokevirtual 181, 3) := by decide +kernel
theorem dX4_readFactor_79 : decode cX4_readFactor 79 = .ok (.iconst 1, 1) := by decide +kernel
theorem dX4_readFactor_80 : decode cX4_readFactor 80 = .ok (.ireturn, 1) := by decide +kernel
theorem dX4_readFactor_81 : decode cX4_readFactor 81 = .ok (.aload_n 0, 1) := by decide +kernel
theorem dX4_readFactor_82 : decode cX4_readFactor 82 = .ok (.invokevirtual 188, 3) := by decide +kernel
theorem dX4_readFactor_85 : decode cX4_readFactor 85 = .ok (.istore_n 2, 1) := by decide +kernel
theorem dX4_readFactor_86 : decode cX4_readFactor 86 = .ok (.iload_n 2, 1) := by decide +kernel
theorem dX4_readFactor_87 : decode cX4_readFactor 87 = .ok (.ifCond .ne 10, 3) := by decide +kernel
theorem dX4_readFactor_90 : decode cX4_readFactor 90 = .ok (.aload_n 0, 1) := by decide +kernel
theorem dX4_readFactor_91 : decode cX4_readFactor 91 = .ok (.bipush (-2), 2) := by decide +kernel
theorem dX4_readFactor_93 : decode cX4_readFactor 93 = .ok (.invokevirtual 72, 3) := by decide +kernel
theorem dX4_readFactor_96 : decode cX4_readFactor 96 = .ok (.ireturn, 1) := by decide +kernel
theorem dX4_readFactor_97 : decode cX4_readFactor 97 = .ok (.aload_n 0, 1) := by decide +kernel
theorem dX4_readFactor_98 : decode cX4_readFactor 98 = .ok (.iload_n 2, 1) := by decide +kernel
theorem dX4_readFactor_99 : decode cX4_readFactor 99 = .ok (.invokevirtual 181, 3) := by decide +kernel
theorem dX4_readFactor_102 : decode cX4_readFactor 102 = .ok (.aload_n 0, 1) := by decide +kernel
theorem dX4_readFactor_103 : decode cX4_readFactor 103 = .ok (.invokevirtual 49, 3) := by decide +kernel
theorem dX4_readFactor_106 : decode cX4_readFactor 106 = .ok (.iconst 1, 1) := by decide +kernel
theorem dX4_readFactor_107 : decode cX4_readFactor 107 = .ok (.ireturn, 1) := by decide +kernel
theorem dX4_variableHere_0 : decode cX4_variableHere 0 = .ok (.aload_n 0, 1) := by decide +kernel
theorem dX4_variableHere_1 : decode cX4_variableHere 1 = .ok (.ldc 191, 2) := by decide +kernel
theorem dX4_variableHere_3 : decode cX4_variableHere 3 = .ok (.invokevirtual 68, 3) := by decide +kernel
theorem dX4_variableHere_6 : decode cX4_variableHere 6 = .ok (.ifCond .eq 5, 3) := by decide +kernel
theorem dX4_variableHere_9 : decode cX4_variableHere 9 = .ok (.iconst (-1), 1) := by decide +kernel
theorem dX4_variableHere_10 : decode cX4_variableHere 10 = .ok (.ireturn, 1) := by decide +kernel
theorem dX4_variableHere_11 : decode cX4_variableHere 11 = .ok (.aload_n 0, 1) := by decide +kernel
theorem dX4_variableHere_12 : decode cX4_variableHere 12 = .ok (.ldc 193, 2) := by decide +kernel
theorem dX4_variableHere_14 : decode cX4_variableHere 14 = .ok (.invokevirtual 68, 3) := by decide +kernel
theorem dX4_variableHere_17 : decode cX4_variableHere 17 = .ok (.ifCond .eq 6, 3) := by decide +kernel
theorem dX4_variableHere_20 : decode cX4_variableHere 20 = .ok (.bipush (-2), 2) := by decide +kernel
theorem dX4_variableHere_22 : decode cX4_variableHere 22 = .ok (.ireturn, 1) := by decide +kernel
theorem dX4_variableHere_23 : decode cX4_variableHere 23 = .ok (.aload_n 0, 1) := by decide +kernel
theorem dX4_variableHere_24 : decode cX4_variableHere 24 = .ok (.ldc 195, 2) := by decide +kernel
theorem dX4_variableHere_26 : decode cX4_variableHere 26 = .ok (.invokevirtual 68, 3) := by decide +kernel
theorem dX4_variableHere_29 : decode cX4_variableHere 29 = .ok (.ifCond .eq 6, 3) := by decide +kernel
theorem dX4_variableHere_32 : decode cX4_variableHere 32 = .ok (.bipush (-3), 2) := by decide +kernel
theorem dX4_variableHere_34 : decode cX4_variableHere 34 = .ok (.ireturn, 1) := by decide +kernel
theorem dX4_variableHere_35 : decode cX4_variableHere 35 = .ok (.aload_n 0, 1) := by decide +kernel
theorem dX4_variableHere_36 : decode cX4_variableHere 36 = .ok (.ldc 94, 2) := by decide +kernel
theorem dX4_variableHere_38 : decode cX4_variableHere 38 = .ok (.invokevirtual 68, 3) := by decide +kernel
theorem dX4_variableHere_41 : decode cX4_variableHere 41 = .ok (.ifCond .eq 8, 3) := by decide +kernel
theorem dX4_variableHere_44 : decode cX4_variableHere 44 = .ok (.bipush (-4), 2) := by decide +kernel
theorem dX4_variableHere_46 : decode cX4_variableHere 46 = .ok (.goto 4, 3) := by decide +kernel
theorem dX4_variableHere_49 : decode cX4_variableHere 49 = .ok (.iconst 0, 1) := by decide +kernel
theorem dX4_variableHere_50 : decode cX4_variableHere 50 = .ok (.ireturn, 1) := by decide +kernel
theorem dX4_shapeHere_0 : decode cX4_shapeHere 0 = .ok (.aload_n 0, 1) := by decide +kernel
theorem dX4_shapeHere_1 : decode cX4_shapeHere 1 = .ok (.ldc 197, 2) := by decide +kernel
theorem dX4_shapeHere_3 : decode cX4_shapeHere 3 = .ok (.invokevirtual 68, 3) := by decide +kernel
theorem dX4_shapeHere_6 : decode cX4_shapeHere 6 = .ok (.ifCond .eq 5, 3) := by decide +kernel
theorem dX4_shapeHere_9 : decode cX4_shapeHere 9 = .ok (.iconst 0, 1) := by decide +kernel
theorem dX4_shapeHere_10 : decode cX4_shapeHere 10 = .ok (.ireturn, 1) := by decide +kernel
theorem dX4_shapeHere_11 : decode cX4_shapeHere 11 = .ok (.aload_n 0, 1) := by decide +kernel
theorem dX4_shapeHere_12 : decode cX4_shapeHere 12 = .ok (.ldc 199, 2) := by decide +kernel
theorem dX4_shapeHere_14 : decode cX4_shapeHere 14 = .ok (.invokevirtual 68, 3) := by decide +kernel
theorem dX4_shapeHere_17 : decode cX4_shapeHere 17 = .ok (.ifCond .eq 5, 3) := by decide +kernel
theorem dX4_shapeHere_20 : decode cX4_shapeHere 20 = .ok (.iconst 1, 1) := by decide +kernel
theorem dX4_shapeHere_21 : decode cX4_shapeHere 21 = .ok (.ireturn, 1) := by decide +kernel
theorem dX4_shapeHere_22 : decode cX4_shapeHere 22 = .ok (.aload_n 0, 1) := by decide +kernel
theorem dX4_shapeHere_23 : decode cX4_shapeHere 23 = .ok (.ldc 201, 2) := by decide +kernel
theorem dX4_shapeHere_25 : decode cX4_shapeHere 25 = .ok (.invokevirtual 68, 3) := by decide +kernel
theorem dX4_shapeHere_28 : decode cX4_shapeHere 28 = .ok (.ifCond .eq 5, 3) := by decide +kernel
theorem dX4_shapeHere_31 : decode cX4_shapeHere 31 = .ok (.iconst 2, 1) := by decide +kernel
theorem dX4_shapeHere_32 : decode cX4_shapeHere 32 = .ok (.ireturn, 1) := by decide +kernel
theorem dX4_shapeHere_33 : decode cX4_shapeHere 33 = .ok (.aload_n 0, 1) := by decide +kernel
theorem dX4_shapeHere_34 : decode cX4_shapeHere 34 = .ok (.ldc 203, 2) := by decide +kernel
theorem dX4_shapeHere_36 : decode cX4_shapeHere 36 = .ok (.invokevirtual 68, 3) := by decide +kernel
theorem dX4_shapeHere_39 : decode cX4_shapeHere 39 = .ok (.ifCond .eq 7, 3) := by decide +kernel
theorem dX4_shapeHere_42 : decode cX4_shapeHere 42 = .ok (.iconst 3, 1) := by decide +kernel
theorem dX4_shapeHere_43 : decode cX4_shapeHere 43 = .ok (.goto 4, 3) := by decide +kernel
theorem dX4_shapeHere_46 : decode cX4_shapeHere 46 = .ok (.iconst (-1), 1) := by decide +kernel
theorem dX4_shapeHere_47 : decode cX4_shapeHere 47 = .ok (.ireturn, 1) := by decide +kernel
theorem dX4_addItem_0 : decode cX4_addItem 0 = .ok (.aload_n 0, 1) := by decide +kernel
theorem dX4_addItem_1 : decode cX4_addItem 1 = .ok (.getfield 143, 3) := by decide +kernel
theorem dX4_addItem_4 : decode cX4_addItem 4 = .ok (.aload_n 0, 1) := by decide +kernel
theorem dX4_addItem_5 : decode cX4_addItem 5 = .ok (.getfield 9, 3) := by decide +kernel
theorem dX4_addItem_8 : decode cX4_addItem 8 = .ok (.arraylength, 1) := by decide +kernel
theorem dX4_addItem_9 : decode cX4_addItem 9 = .ok (.if_icmp .ge 23, 3) := by decide +kernel
theorem dX4_addItem_12 : decode cX4_addItem 12 = .ok (.aload_n 0, 1) := by decide +kernel
theorem dX4_addItem_13 : decode cX4_addItem 13 = .ok (.getfield 9, 3) := by decide +kernel
theorem dX4_addItem_16 : decode cX4_addItem 16 = .ok (.aload_n 0, 1) := by decide +kernel
theorem dX4_addItem_17 : decode cX4_addItem 17 = .ok (.getfield 143, 3) := by decide +kernel
theorem dX4_addItem_20 : decode cX4_addItem 20 = .ok (.iload_n 1, 1) := by decide +kernel
theorem dX4_addItem_21 : decode cX4_addItem 21 = .ok (.iastore, 1) := by decide +kernel
theorem dX4_addItem_22 : decode cX4_addItem 22 = .ok (.aload_n 0, 1) := by decide +kernel
theorem dX4_addItem_23 : decode cX4_addItem 23 = .ok (.dup, 1) := by decide +kernel
theorem dX4_addItem_24 : decode cX4_addItem 24 = .ok (.getfield 143, 3) := by decide +kernel
theorem dX4_addItem_27 : decode cX4_addItem 27 = .ok (.iconst 1, 1) := by decide +kernel
theorem dX4_addItem_28 : decode cX4_addItem 28 = .ok (.iadd, 1) := by decide +kernel
theorem dX4_addItem_29 : decode cX4_addItem 29 = .ok (.putfield 143, 3) := by decide +kernel
theorem dX4_addItem_32 : decode cX4_addItem 32 = .ok (.return_, 1) := by decide +kernel
theorem dX4_takeNumber_0 : decode cX4_takeNumber 0 = .ok (.aload_n 0, 1) := by decide +kernel
theorem dX4_takeNumber_1 : decode cX4_takeNumber 1 = .ok (.getfield 56, 3) := by decide +kernel
theorem dX4_takeNumber_4 : decode cX4_takeNumber 4 = .ok (.iconst 1, 1) := by decide +kernel
theorem dX4_takeNumber_5 : decode cX4_takeNumber 5 = .ok (.if_icmp .eq 10, 3) := by decide +kernel
theorem dX4_takeNumber_8 : decode cX4_takeNumber 8 = .ok (.aload_n 0, 1) := by decide +kernel
theorem dX4_takeNumber_9 : decode cX4_takeNumber 9 = .ok (.bipush (-2), 2) := by decide +kernel
theorem dX4_takeNumber_11 : decode cX4_takeNumber 11 = .ok (.invokevirtual 72, 3) := by decide +kernel
theorem dX4_takeNumber_14 : decode cX4_takeNumber 14 = .ok (.ireturn, 1) := by decide +kernel
theorem dX4_takeNumber_15 : decode cX4_takeNumber 15 = .ok (.iconst 0, 1) := by decide +kernel
theorem dX4_takeNumber_16 : decode cX4_takeNumber 16 = .ok (.istore_n 3, 1) := by decide +kernel
theorem dX4_takeNumber_17 : decode cX4_takeNumber 17 = .ok (.aload_n 0, 1) := by decide +kernel
theorem dX4_takeNumber_18 : decode cX4_takeNumber 18 = .ok (.getfield 112, 3) := by decide +kernel
theorem dX4_takeNumber_21 : decode cX4_takeNumber 21 = .ok (.istore 4, 2) := by decide +kernel
theorem dX4_takeNumber_23 : decode cX4_takeNumber 23 = .ok (.iload 4, 2) := by decide +kernel
theorem dX4_takeNumber_25 : decode cX4_takeNumber 25 = .ok (.aload_n 0, 1) := by decide +kernel
theorem dX4_takeNumber_26 : decode cX4_takeNumber 26 = .ok (.getfield 46, 3) := by decide +kernel
theorem dX4_takeNumber_29 : decode cX4_takeNumber 29 = .ok (.if_icmp .ge 30, 3) := by decide +kernel
theorem dX4_takeNumber_32 : decode cX4_takeNumber 32 = .ok (.iload_n 3, 1) := by decide +kernel
theorem dX4_takeNumber_33 : decode cX4_takeNumber 33 = .ok (.bipush 10, 2) := by decide +kernel
theorem dX4_takeNumber_35 : decode cX4_takeNumber 35 = .ok (.imul, 1) := by decide +kernel
theorem dX4_takeNumber_36 : decode cX4_takeNumber 36 = .ok (.aload_n 0, 1) := by decide +kernel
theorem dX4_takeNumber_37 : decode cX4_takeNumber 37 = .ok (.getfield 15, 3) := by decide +kernel
theorem dX4_takeNumber_40 : decode cX4_takeNumber 40 = .ok (.iload 4, 2) := by decide +kernel
theorem dX4_takeNumber_42 : decode cX4_takeNumber 42 = .ok (.baload, 1) := by decide +kernel
theorem dX4_takeNumber_43 : decode cX4_takeNumber 43 = .ok (.iadd, 1) := by decide +kernel
theorem dX4_takeNumber_44 : decode cX4_takeNumber 44 = .ok (.bipush 48, 2) := by decide +kernel
theorem dX4_takeNumber_46 : decode cX4_takeNumber 46 = .ok (.isub, 1) := by decide +kernel
theorem dX4_takeNumber_47 : decode cX4_takeNumber 47 = .ok (.ldc 205, 2) := by decide +kernel
theorem dX4_takeNumber_49 : decode cX4_takeNumber 49 = .ok (.invokestatic 19, 3) := by decide +kernel
theorem dX4_takeNumber_52 : decode cX4_takeNumber 52 = .ok (.istore_n 3, 1) := by decide +kernel
theorem dX4_takeNumber_53 : decode cX4_takeNumber 53 = .ok (.iinc 4 1, 3) := by decide +kernel
theorem dX4_takeNumber_56 : decode cX4_takeNumber 56 = .ok (.goto (-33), 3) := by decide +kernel
theorem dX4_takeNumber_59 : decode cX4_takeNumber 59 = .ok (.iload_n 3, 1) := by decide +kernel
theorem dX4_takeNumber_60 : decode cX4_takeNumber 60 = .ok (.iload_n 1, 1) := by decide +kernel
theorem dX4_takeNumber_61 : decode cX4_takeNumber 61 = .ok (.if_icmp .lt 8, 3) := by decide +kernel
theorem dX4_takeNumber_64 : decode cX4_takeNumber 64 = .ok (.iload_n 3, 1) := by decide +kernel
theorem dX4_takeNumber_65 : decode cX4_takeNumber 65 = .ok (.iload_n 2, 1) := by decide +kernel
theorem dX4_takeNumber_66 : decode cX4_takeNumber 66 = .ok (.if_icmp .le 10, 3) := by decide +kernel
theorem dX4_takeNumber_69 : decode cX4_takeNumber 69 = .ok (.aload_n 0, 1) := by decide +kernel
theorem dX4_takeNumber_70 : decode cX4_takeNumber 70 = .ok (.bipush (-3), 2) := by decide +kernel
theorem dX4_takeNumber_72 : decode cX4_takeNumber 72 = .ok (.invokevirtual 72, 3) := by decide +kernel
theorem dX4_takeNumber_75 : decode cX4_takeNumber 75 = .ok (.ireturn, 1) := by decide +kernel
theorem dX4_takeNumber_76 : decode cX4_takeNumber 76 = .ok (.aload_n 0, 1) := by decide +kernel
theorem dX4_takeNumber_77 : decode cX4_takeNumber 77 = .ok (.iload_n 3, 1) := by decide +kernel
theorem dX4_takeNumber_78 : decode cX4_takeNumber 78 = .ok (.putfield 80, 3) := by decide +kernel
theorem dX4_takeNumber_81 : decode cX4_takeNumber 81 = .ok (.aload_n 0, 1) := by decide +kernel
theorem dX4_takeNumber_82 : decode cX4_takeNumber 82 = .ok (.invokevirtual 49, 3) := by decide +kernel
theorem dX4_takeNumber_85 : decode cX4_takeNumber 85 = .ok (.iconst 1, 1) := by decide +kernel
theorem dX4_takeNumber_86 : decode cX4_takeNumber 86 = .ok (.ireturn, 1) := by decide +kernel
theorem dX4_takeSign_0 : decode cX4_takeSign 0 = .ok (.aload_n 0, 1) := by decide +kernel
theorem dX4_takeSign_1 : decode cX4_takeSign 1 = .ok (.iload_n 1, 1) := by decide +kernel
theorem dX4_takeSign_2 : decode cX4_takeSign 2 = .ok (.invokevirtual 178, 3) := by decide +kernel
theorem dX4_takeSign_5 : decode cX4_takeSign 5 = .ok (.ifCond .ne 10, 3) := by decide +kernel
theorem dX4_takeSign_8 : decode cX4_takeSign 8 = .ok (.aload_n 0, 1) := by decide +kernel
theorem dX4_takeSign_9 : decode cX4_takeSign 9 = .ok (.bipush (-2), 2) := by decide +kernel
theorem dX4_takeSign_11 : decode cX4_takeSign 11 = .ok (.invokevirtual 72, 3) := by decide +kernel
theorem dX4_takeSign_14 : decode cX4_takeSign 14 = .ok (.ireturn, 1) := by decide +kernel
theorem dX4_takeSign_15 : decode cX4_takeSign 15 = .ok (.aload_n 0, 1) := by decide +kernel
theorem dX4_takeSign_16 : decode cX4_takeSign 16 = .ok (.invokevirtual 49, 3) := by decide +kernel
theorem dX4_takeSign_19 : decode cX4_takeSign 19 = .ok (.iconst 1, 1) := by decide +kernel
theorem dX4_takeSign_20 : decode cX4_takeSign 20 = .ok (.ireturn, 1) := by decide +kernel
theorem dX4_isName_0 : decode cX4_isName 0 = .ok (.aload_n 0, 1) := by decide +kernel
theorem dX4_isName_1 : decode cX4_isName 1 = .ok (.getfield 56, 3) := by decide +kernel
theorem dX4_isName_4 : decode cX4_isName 4 = .ok (.iconst 2, 1) := by decide +kernel
theorem dX4_isName_5 : decode cX4_isName 5 = .ok (.if_icmp .eq 10, 3) := by decide +kernel
theorem dX4_isName_8 : decode cX4_isName 8 = .ok (.aload_n 0, 1) := by decide +kernel
theorem dX4_isName_9 : decode cX4_isName 9 = .ok (.bipush (-2), 2) := by decide +kernel
theorem dX4_isName_11 : decode cX4_isName 11 = .ok (.invokevirtual 72, 3) := by decide +kernel
theorem dX4_isName_14 : decode cX4_isName 14 = .ok (.ireturn, 1) := by decide +kernel
theorem dX4_isName_15 : decode cX4_isName 15 = .ok (.aload_n 0, 1) := by decide +kernel
theorem dX4_isName_16 : decode cX4_isName 16 = .ok (.getfield 46, 3) := by decide +kernel
theorem dX4_isName_19 : decode cX4_isName 19 = .ok (.aload_n 0, 1) := by decide +kernel
theorem dX4_isName_20 : decode cX4_isName 20 = .ok (.getfield 112, 3) := by decide +kernel
theorem dX4_isName_23 : decode cX4_isName 23 = .ok (.isub, 1) := by decide +kernel
theorem dX4_isName_24 : decode cX4_isName 24 = .ok (.bipush 6, 2) := by decide +kernel
theorem dX4_isName_26 : decode cX4_isName 26 = .ok (.if_icmp .le 12, 3) := by decide +kernel
theorem dX4_isName_29 : decode cX4_isName 29 = .ok (.aload_n 0, 1) := by decide +kernel
theorem dX4_isName_30 : decode cX4_isName 30 = .ok (.bipush (-3), 2) := by decide +kernel
theorem dX4_isName_32 : decode cX4_isName 32 = .ok (.invokevirtual 72, 3) := by decide +kernel
theorem dX4_isName_35 : decode cX4_isName 35 = .ok (.ifCond .eq 7, 3) := by decide +kernel
theorem dX4_isName_38 : decode cX4_isName 38 = .ok (.iconst 1, 1) := by decide +kernel
theorem dX4_isName_39 : decode cX4_isName 39 = .ok (.goto 4, 3) := by decide +kernel
theorem dX4_isName_42 : decode cX4_isName 42 = .ok (.iconst 0, 1) := by decide +kernel
theorem dX4_isName_43 : decode cX4_isName 43 = .ok (.ireturn, 1) := by decide +kernel
theorem dX4_isSign_0 : decode cX4_isSign 0 = .ok (.aload_n 0, 1) := by decide +kernel
theorem dX4_isSign_1 : decode cX4_isSign 1 = .ok (.getfield 56, 3) := by decide +kernel
theorem dX4_isSign_4 : decode cX4_isSign 4 = .ok (.iconst 3, 1) := by decide +kernel
theorem dX4_isSign_5 : decode cX4_isSign 5 = .ok (.if_icmp .ne 20, 3) := by decide +kernel
theorem dX4_isSign_8 : decode cX4_isSign 8 = .ok (.aload_n 0, 1) := by decide +kernel
theorem dX4_isSign_9 : decode cX4_isSign 9 = .ok (.getfield 15, 3) := by decide +kernel
theorem dX4_isSign_12 : decode cX4_isSign 12 = .ok (.aload_n 0, 1) := by decide +kernel
theorem dX4_isSign_13 : decode cX4_isSign 13 = .ok (.getfield 112, 3) := by decide +kernel
theorem dX4_isSign_16 : decode cX4_isSign 16 = .ok (.baload, 1) := by decide +kernel
theorem dX4_isSign_17 : decode cX4_isSign 17 = .ok (.iload_n 1, 1) := by decide +kernel
theorem dX4_isSign_18 : decode cX4_isSign 18 = .ok (.if_icmp .ne 7, 3) := by decide +kernel
theorem dX4_isSign_21 : decode cX4_isSign 21 = .ok (.iconst 1, 1) := by decide +kernel
theorem dX4_isSign_22 : decode cX4_isSign 22 = .ok (.goto 4, 3) := by decide +kernel
theorem dX4_isSign_25 : decode cX4_isSign 25 = .ok (.iconst 0, 1) := by decide +kernel
theorem dX4_isSign_26 : decode cX4_isSign 26 = .ok (.ireturn, 1) := by decide +kernel
theorem dX4_isWord_0 : decode cX4_isWord 0 = .ok (.aload_n 0, 1) := by decide +kernel
theorem dX4_isWord_1 : decode cX4_isWord 1 = .ok (.getfield 56, 3) := by decide +kernel
theorem dX4_isWord_4 : decode cX4_isWord 4 = .ok (.iconst 2, 1) := by decide +kernel
theorem dX4_isWord_5 : decode cX4_isWord 5 = .ok (.if_icmp .ne 19, 3) := by decide +kernel
theorem dX4_isWord_8 : decode cX4_isWord 8 = .ok (.aload_n 0, 1) := by decide +kernel
theorem dX4_isWord_9 : decode cX4_isWord 9 = .ok (.getfield 46, 3) := by decide +kernel
theorem dX4_isWord_12 : decode cX4_isWord 12 = .ok (.aload_n 0, 1) := by decide +kernel
theorem dX4_isWord_13 : decode cX4_isWord 13 = .ok (.getfield 112, 3) := by decide +kernel
theorem dX4_isWord_16 : decode cX4_isWord 16 = .ok (.isub, 1) := by decide +kernel
theorem dX4_isWord_17 : decode cX4_isWord 17 = .ok (.aload_n 1, 1) := by decide +kernel
theorem dX4_isWord_18 : decode cX4_isWord 18 = .ok (.invokevirtual 206, 3) := by decide +kernel
theorem dX4_isWord_21 : decode cX4_isWord 21 = .ok (.if_icmp .eq 5, 3) := by decide +kernel
theorem dX4_isWord_24 : decode cX4_isWord 24 = .ok (.iconst 0, 1) := by decide +kernel
theorem dX4_isWord_25 : decode cX4_isWord 25 = .ok (.ireturn, 1) := by decide +kernel
theorem dX4_isWord_26 : decode cX4_isWord 26 = .ok (.iconst 0, 1) := by decide +kernel
theorem dX4_isWord_27 : decode cX4_isWord 27 = .ok (.istore_n 2, 1) := by decide +kernel
theorem dX4_isWord_28 : decode cX4_isWord 28 = .ok (.iload_n 2, 1) := by decide +kernel
theorem dX4_isWord_29 : decode cX4_isWord 29 = .ok (.aload_n 1, 1) := by decide +kernel
theorem dX4_isWord_30 : decode cX4_isWord 30 = .ok (.invokevirtual 206, 3) := by decide +kernel
theorem dX4_isWord_33 : decode cX4_isWord 33 = .ok (.if_icmp .ge 30, 3) := by decide +kernel
theorem dX4_isWord_36 : decode cX4_isWord 36 = .ok (.aload_n 0, 1) := by decide +kernel
theorem dX4_isWord_37 : decode cX4_isWord 37 = .ok (.getfield 15, 3) := by decide +kernel
theorem dX4_isWord_40 : decode cX4_isWord 40 = .ok (.aload_n 0, 1) := by decide +kernel
theorem dX4_isWord_41 : decode cX4_isWord 41 = .ok (.getfield 112, 3) := by decide +kernel
theorem dX4_isWord_44 : decode cX4_isWord 44 = .ok (.iload_n 2, 1) := by decide +kernel
theorem dX4_isWord_45 : decode cX4_isWord 45 = .ok (.iadd, 1) := by decide +kernel
theorem dX4_isWord_46 : decode cX4_isWord 46 = .ok (.baload, 1) := by decide +kernel
theorem dX4_isWord_47 : decode cX4_isWord 47 = .ok (.aload_n 1, 1) := by decide +kernel
theorem dX4_isWord_48 : decode cX4_isWord 48 = .ok (.iload_n 2, 1) := by decide +kernel
theorem dX4_isWord_49 : decode cX4_isWord 49 = .ok (.invokevirtual 210, 3) := by decide +kernel
theorem dX4_isWord_52 : decode cX4_isWord 52 = .ok (.if_icmp .eq 5, 3) := by decide +kernel
theorem dX4_isWord_55 : decode cX4_isWord 55 = .ok (.iconst 0, 1) := by decide +kernel
theorem dX4_isWord_56 : decode cX4_isWord 56 = .ok (.ireturn, 1) := by decide +kernel
theorem dX4_isWord_57 : decode cX4_isWord 57 = .ok (.iinc 2 1, 3) := by decide +kernel
theorem dX4_isWord_60 : decode cX4_isWord 60 = .ok (.goto (-32), 3) := by decide +kernel
theorem dX4_isWord_63 : decode cX4_isWord 63 = .ok (.iconst 1, 1) := by decide +kernel
theorem dX4_isWord_64 : decode cX4_isWord 64 = .ok (.ireturn, 1) := by decide +kernel
theorem dX4_fail_0 : decode cX4_fail 0 = .ok (.aload_n 0, 1) := by decide +kernel
theorem dX4_fail_1 : decode cX4_fail 1 = .ok (.iload_n 1, 1) := by decide +kernel
theorem dX4_fail_2 : decode cX4_fail 2 = .ok (.putfield 33, 3) := by decide +kernel
theorem dX4_fail_5 : decode cX4_fail 5 = .ok (.aload_n 0, 1) := by decide +kernel
theorem dX4_fail_6 : decode cX4_fail 6 = .ok (.aload_n 0, 1) := by decide +kernel
theorem dX4_fail_7 : decode cX4_fail 7 = .ok (.getfield 112, 3) := by decide +kernel
theorem dX4_fail_10 : decode cX4_fail 10 = .ok (.putfield 36, 3) := by decide +kernel
theorem dX4_fail_13 : decode cX4_fail 13 = .ok (.iconst 0, 1) := by decide +kernel
theorem dX4_fail_14 : decode cX4_fail 14 = .ok (.ireturn, 1) := by decide +kernel
theorem dX4_advance_0 : decode cX4_advance 0 = .ok (.aload_n 0, 1) := by decide +kernel
theorem dX4_advance_1 : decode cX4_advance 1 = .ok (.aload_n 0, 1) := by decide +kernel
theorem dX4_advance_2 : decode cX4_advance 2 = .ok (.getfield 46, 3) := by decide +kernel
theorem dX4_advance_5 : decode cX4_advance 5 = .ok (.putfield 112, 3) := by decide +kernel
theorem dX4_advance_8 : decode cX4_advance 8 = .ok (.aload_n 0, 1) := by decide +kernel
theorem dX4_advance_9 : decode cX4_advance 9 = .ok (.getfield 112, 3) := by decide +kernel
theorem dX4_advance_12 : decode cX4_advance 12 = .ok (.aload_n 0, 1) := by decide +kernel
theorem dX4_advance_13 : decode cX4_advance 13 = .ok (.getfield 25, 3) := by decide +kernel
theorem dX4_advance_16 : decode cX4_advance 16 = .ok (.if_icmp .ge 30, 3) := by decide +kernel
theorem dX4_advance_19 : decode cX4_advance 19 = .ok (.aload_n 0, 1) := by decide +kernel
theorem dX4_advance_20 : decode cX4_advance 20 = .ok (.getfield 15, 3) := by decide +kernel
theorem dX4_advance_23 : decode cX4_advance 23 = .ok (.aload_n 0, 1) := by decide +kernel
theorem dX4_advance_24 : decode cX4_advance 24 = .ok (.getfield 112, 3) := by decide +kernel
theorem dX4_advance_27 : decode cX4_advance 27 = .ok (.baload, 1) := by decide +kernel
theorem dX4_advance_28 : decode cX4_advance 28 = .ok (.bipush 32, 2) := by decide +kernel
theorem dX4_advance_30 : decode cX4_advance 30 = .ok (.if_icmp .ne 16, 3) := by decide +kernel
theorem dX4_advance_33 : decode cX4_advance 33 = .ok (.aload_n 0, 1) := by decide +kernel
theorem dX4_advance_34 : decode cX4_advance 34 = .ok (.dup, 1) := by decide +kernel
theorem dX4_advance_35 : decode cX4_advance 35 = .ok (.getfield 112, 3) := by decide +kernel
theorem dX4_advance_38 : decode cX4_advance 38 = .ok (.iconst 1, 1) := by decide +kernel
theorem dX4_advance_39 : decode cX4_advance 39 = .ok (.iadd, 1) := by decide +kernel
theorem dX4_advance_40 : decode cX4_advance 40 = .ok (.putfield 112, 3) := by decide +kernel
theorem dX4_advance_43 : decode cX4_advance 43 = .ok (.goto (-35), 3) := by decide +kernel
theorem dX4_advance_46 : decode cX4_advance 46 = .ok (.aload_n 0, 1) := by decide +kernel
theorem dX4_advance_47 : decode cX4_advance 47 = .ok (.getfield 112, 3) := by decide +kernel
theorem dX4_advance_50 : decode cX4_advance 50 = .ok (.aload_n 0, 1) := by decide +kernel
theorem dX4_advance_51 : decode cX4_advance 51 = .ok (.getfield 25, 3) := by decide +kernel
theorem dX4_advance_54 : decode cX4_advance 54 = .ok (.if_icmp .lt 17, 3) := by decide +kernel
theorem dX4_advance_57 : decode cX4_advance 57 = .ok (.aload_n 0, 1) := by decide +kernel
theorem dX4_advance_58 : decode cX4_advance 58 = .ok (.iconst 0, 1) := by decide +kernel
theorem dX4_advance_59 : decode cX4_advance 59 = .ok (.putfield 56, 3) := by decide +kernel
theorem dX4_advance_62 : decode cX4_advance 62 = .ok (.aload_n 0, 1) := by decide +kernel
theorem dX4_advance_63 : decode cX4_advance 63 = .ok (.aload_n 0, 1) := by decide +kernel
theorem dX4_advance_64 : decode cX4_advance 64 = .ok (.getfield 112, 3) := by decide +kernel
theorem dX4_advance_67 : decode cX4_advance 67 = .ok (.putfield 46, 3) := by decide +kernel
theorem dX4_advance_70 : decode cX4_advance 70 = .ok (.return_, 1) := by decide +kernel
theorem dX4_advance_71 : decode cX4_advance 71 = .ok (.aload_n 0, 1) := by decide +kernel
theorem dX4_advance_72 : decode cX4_advance 72 = .ok (.iconst 3, 1) := by decide +kernel
theorem dX4_advance_73 : decode cX4_advance 73 = .ok (.putfield 56, 3) := by decide +kernel
theorem dX4_advance_76 : decode cX4_advance 76 = .ok (.aload_n 0, 1) := by decide +kernel
theorem dX4_advance_77 : decode cX4_advance 77 = .ok (.aload_n 0, 1) := by decide +kernel
theorem dX4_advance_78 : decode cX4_advance 78 = .ok (.getfield 112, 3) := by decide +kernel
theorem dX4_advance_81 : decode cX4_advance 81 = .ok (.iconst 1, 1) := by decide +kernel
theorem dX4_advance_82 : decode cX4_advance 82 = .ok (.iadd, 1) := by decide +kernel
theorem dX4_advance_83 : decode cX4_advance 83 = .ok (.putfield 46, 3) := by decide +kernel
theorem dX4_advance_86 : decode cX4_advance 86 = .ok (.aload_n 0, 1) := by decide +kernel
theorem dX4_advance_87 : decode cX4_advance 87 = .ok (.bipush 97, 2) := by decide +kernel
theorem dX4_advance_89 : decode cX4_advance 89 = .ok (.bipush 122, 2) := by decide +kernel
theorem dX4_advance_91 : decode cX4_advance 91 = .ok (.iconst 2, 1) := by decide +kernel
theorem dX4_advance_92 : decode cX4_advance 92 = .ok (.invokevirtual 214, 3) := by decide +kernel
theorem dX4_advance_95 : decode cX4_advance 95 = .ok (.aload_n 0, 1) := by decide +kernel
theorem dX4_advance_96 : decode cX4_advance 96 = .ok (.bipush 48, 2) := by decide +kernel
theorem dX4_advance_98 : decode cX4_advance 98 = .ok (.bipush 57, 2) := by decide +kernel
theorem dX4_advance_100 : decode cX4_advance 100 = .ok (.iconst 1, 1) := by decide +kernel
theorem dX4_advance_101 : decode cX4_advance 101 = .ok (.invokevirtual 214, 3) := by decide +kernel
theorem dX4_advance_104 : decode cX4_advance 104 = .ok (.return_, 1) := by decide +kernel
theorem dX4_takeRun_0 : decode cX4_takeRun 0 = .ok (.aload_n 0, 1) := by decide +kernel
theorem dX4_takeRun_1 : decode cX4_takeRun 1 = .ok (.getfield 15, 3) := by decide +kernel
theorem dX4_takeRun_4 : decode cX4_takeRun 4 = .ok (.aload_n 0, 1) := by decide +kernel
theorem dX4_takeRun_5 : decode cX4_takeRun 5 = .ok (.getfield 112, 3) := by decide +kernel
theorem dX4_takeRun_8 : decode cX4_takeRun 8 = .ok (.baload, 1) := by decide +kernel
theorem dX4_takeRun_9 : decode cX4_takeRun 9 = .ok (.iload_n 1, 1) := by decide +kernel
theorem dX4_takeRun_10 : decode cX4_takeRun 10 = .ok (.if_icmp .lt 16, 3) := by decide +kernel
theorem dX4_takeRun_13 : decode cX4_takeRun 13 = .ok (.aload_n 0, 1) := by decide +kernel
theorem dX4_takeRun_14 : decode cX4_takeRun 14 = .ok (.getfield 15, 3) := by decide +kernel
theorem dX4_takeRun_17 : decode cX4_takeRun 17 = .ok (.aload_n 0, 1) := by decide +kernel
theorem dX4_takeRun_18 : decode cX4_takeRun 18 = .ok (.getfield 112, 3) := by decide +kernel
theorem dX4_takeRun_21 : decode cX4_takeRun 21 = .ok (.baload, 1) := by decide +kernel
theorem dX4_takeRun_22 : decode cX4_takeRun 22 = .ok (.iload_n 2, 1) := by decide +kernel
theorem dX4_takeRun_23 : decode cX4_takeRun 23 = .ok (.if_icmp .le 4, 3) := by decide +kernel
theorem dX4_takeRun_26 : decode cX4_takeRun 26 = .ok (.return_, 1) := by decide +kernel
theorem dX4_takeRun_27 : decode cX4_takeRun 27 = .ok (.aload_n 0, 1) := by decide +kernel
theorem dX4_takeRun_28 : decode cX4_takeRun 28 = .ok (.iload_n 3, 1) := by decide +kernel
theorem dX4_takeRun_29 : decode cX4_takeRun 29 = .ok (.putfield 56, 3) := by decide +kernel
theorem dX4_takeRun_32 : decode cX4_takeRun 32 = .ok (.aload_n 0, 1) := by decide +kernel
theorem dX4_takeRun_33 : decode cX4_takeRun 33 = .ok (.getfield 46, 3) := by decide +kernel
theorem dX4_takeRun_36 : decode cX4_takeRun 36 = .ok (.aload_n 0, 1) := by decide +kernel
theorem dX4_takeRun_37 : decode cX4_takeRun 37 = .ok (.getfield 25, 3) := by decide +kernel
theorem dX4_takeRun_40 : decode cX4_takeRun 40 = .ok (.if_icmp .ge 42, 3) := by decide +kernel
theorem dX4_takeRun_43 : decode cX4_takeRun 43 = .ok (.aload_n 0, 1) := by decide +kernel
theorem dX4_takeRun_44 : decode cX4_takeRun 44 = .ok (.getfield 15, 3) := by decide +kernel
theorem dX4_takeRun_47 : decode cX4_takeRun 47 = .ok (.aload_n 0, 1) := by decide +kernel
theorem dX4_takeRun_48 : decode cX4_takeRun 48 = .ok (.getfield 46, 3) := by decide +kernel
theorem dX4_takeRun_51 : decode cX4_takeRun 51 = .ok (.baload, 1) := by decide +kernel
theorem dX4_takeRun_52 : decode cX4_takeRun 52 = .ok (.iload_n 1, 1) := by decide +kernel
theorem dX4_takeRun_53 : decode cX4_takeRun 53 = .ok (.if_icmp .lt 29, 3) := by decide +kernel
theorem dX4_takeRun_56 : decode cX4_takeRun 56 = .ok (.aload_n 0, 1) := by decide +kernel
theorem dX4_takeRun_57 : decode cX4_takeRun 57 = .ok (.getfield 15, 3) := by decide +kernel
theorem dX4_takeRun_60 : decode cX4_takeRun 60 = .ok (.aload_n 0, 1) := by decide +kernel
theorem dX4_takeRun_61 : decode cX4_takeRun 61 = .ok (.getfield 46, 3) := by decide +kernel
theorem dX4_takeRun_64 : decode cX4_takeRun 64 = .ok (.baload, 1) := by decide +kernel
theorem dX4_takeRun_65 : decode cX4_takeRun 65 = .ok (.iload_n 2, 1) := by decide +kernel
theorem dX4_takeRun_66 : decode cX4_takeRun 66 = .ok (.if_icmp .gt 16, 3) := by decide +kernel
theorem dX4_takeRun_69 : decode cX4_takeRun 69 = .ok (.aload_n 0, 1) := by decide +kernel
theorem dX4_takeRun_70 : decode cX4_takeRun 70 = .ok (.dup, 1) := by decide +kernel
theorem dX4_takeRun_71 : decode cX4_takeRun 71 = .ok (.getfield 46, 3) := by decide +kernel
theorem dX4_takeRun_74 : decode cX4_takeRun 74 = .ok (.iconst 1, 1) := by decide +kernel
theorem dX4_takeRun_75 : decode cX4_takeRun 75 = .ok (.iadd, 1) := by decide +kernel
theorem dX4_takeRun_76 : decode cX4_takeRun 76 = .ok (.putfield 46, 3) := by decide +kernel
theorem dX4_takeRun_79 : decode cX4_takeRun 79 = .ok (.goto (-47), 3) := by decide +kernel
theorem dX4_takeRun_82 : decode cX4_takeRun 82 = .ok (.return_, 1) := by decide +kernel
theorem dX5_init_0 : decode cX5_init 0 = .ok (.aload_n 0, 1) := by decide +kernel
theorem dX5_init_1 : decode cX5_init 1 = .ok (.invokespecial 3, 3) := by decide +kernel
theorem dX5_init_4 : decode cX5_init 4 = .ok (.aload_n 0, 1) := by decide +kernel
theorem dX5_init_5 : decode cX5_init 5 = .ok (.bipush 8, 2) := by decide +kernel
theorem dX5_init_7 : decode cX5_init 7 = .ok (.putfield 9, 3) := by decide +kernel
theorem dX5_init_10 : decode cX5_init 10 = .ok (.aload_n 0, 1) := by decide +kernel
theorem dX5_init_11 : decode cX5_init 11 = .ok (.bipush 8, 2) := by decide +kernel
theorem dX5_init_13 : decode cX5_init 13 = .ok (.putfield 15, 3) := by decide +kernel
theorem dX5_init_16 : decode cX5_init 16 = .ok (.aload_n 0, 1) := by decide +kernel
theorem dX5_init_17 : decode cX5_init 17 = .ok (.iconst 4, 1) := by decide +kernel
theorem dX5_init_18 : decode cX5_init 18 = .ok (.putfield 18, 3) := by decide +kernel
theorem dX5_init_21 : decode cX5_init 21 = .ok (.aload_n 0, 1) := by decide +kernel
theorem dX5_init_22 : decode cX5_init 22 = .ok (.iconst 0, 1) := by decide +kernel
theorem dX5_init_23 : decode cX5_init 23 = .ok (.putfield 21, 3) := by decide +kernel
theorem dX5_init_26 : decode cX5_init 26 = .ok (.aload_n 0, 1) := by decide +kernel
theorem dX5_init_27 : decode cX5_init 27 = .ok (.iconst 4, 1) := by decide +kernel
theorem dX5_init_28 : decode cX5_init 28 = .ok (.anewarray 24, 3) := by decide +kernel
theorem dX5_init_31 : decode cX5_init 31 = .ok (.putfield 26, 3) := by decide +kernel
theorem dX5_init_34 : decode cX5_init 34 = .ok (.aload_n 0, 1) := by decide +kernel
theorem dX5_init_35 : decode cX5_init 35 = .ok (.sipush 192, 3) := by decide +kernel
theorem dX5_init_38 : decode cX5_init 38 = .ok (.newarray .int, 2) := by decide +kernel
theorem dX5_init_40 : decode cX5_init 40 = .ok (.putfield 30, 3) := by decide +kernel
theorem dX5_init_43 : decode cX5_init 43 = .ok (.aload_n 0, 1) := by decide +kernel
theorem dX5_init_44 : decode cX5_init 44 = .ok (.sipush 192, 3) := by decide +kernel
theorem dX5_init_47 : decode cX5_init 47 = .ok (.newarray .int, 2) := by decide +kernel
theorem dX5_init_49 : decode cX5_init 49 = .ok (.putfield 34, 3) := by decide +kernel
theorem dX5_init_52 : decode cX5_init 52 = .ok (.iconst 0, 1) := by decide +kernel
theorem dX5_init_53 : decode cX5_init 53 = .ok (.istore_n 1, 1) := by decide +kernel
theorem dX5_init_54 : decode cX5_init 54 = .ok (.iload_n 1, 1) := by decide +kernel
theorem dX5_init_55 : decode cX5_init 55 = .ok (.iconst 4, 1) := by decide +kernel
theorem dX5_init_56 : decode cX5_init 56 = .ok (.if_icmp .ge 22, 3) := by decide +kernel
theorem dX5_init_59 : decode cX5_init 59 = .ok (.aload_n 0, 1) := by decide +kernel
theorem dX5_init_60 : decode cX5_init 60 = .ok (.getfield 26, 3) := by decide +kernel
theorem dX5_init_63 : decode cX5_init 63 = .ok (.iload_n 1, 1) := by decide +kernel
theorem dX5_init_64 : decode cX5_init 64 = .ok (.new 24, 3) := by decide +kernel
theorem dX5_init_67 : decode cX5_init 67 = .ok (.dup, 1) := by decide +kernel
theorem dX5_init_68 : decode cX5_init 68 = .ok (.invokespecial 37, 3) := by decide +kernel
theorem dX5_init_71 : decode cX5_init 71 = .ok (.aastore, 1) := by decide +kernel
theorem dX5_init_72 : decode cX5_init 72 = .ok (.iinc 1 1, 3) := by decide +kernel
theorem dX5_init_75 : decode cX5_init 75 = .ok (.goto (-21), 3) := by decide +kernel
theorem dX5_init_78 : decode cX5_init 78 = .ok (.return_, 1) := by decide +kernel
theorem dX5_empty_0 : decode cX5_empty 0 = .ok (.aload_n 0, 1) := by decide +kernel
theorem dX5_empty_1 : decode cX5_empty 1 = .ok (.iload_n 1, 1) := by decide +kernel
theorem dX5_empty_2 : decode cX5_empty 2 = .ok (.putfield 9, 3) := by decide +kernel
theorem dX5_empty_5 : decode cX5_empty 5 = .ok (.aload_n 0, 1) := by decide +kernel
theorem dX5_empty_6 : decode cX5_empty 6 = .ok (.iload_n 2, 1) := by decide +kernel
theorem dX5_empty_7 : decode cX5_empty 7 = .ok (.putfield 15, 3) := by decide +kernel
theorem dX5_empty_10 : decode cX5_empty 10 = .ok (.aload_n 0, 1) := by decide +kernel
theorem dX5_empty_11 : decode cX5_empty 11 = .ok (.iconst 4, 1) := by decide +kernel
theorem dX5_empty_12 : decode cX5_empty 12 = .ok (.putfield 18, 3) := by decide +kernel
theorem dX5_empty_15 : decode cX5_empty 15 = .ok (.aload_n 0, 1) := by decide +kernel
theorem dX5_empty_16 : decode cX5_empty 16 = .ok (.iconst 0, 1) := by decide +kernel
theorem dX5_empty_17 : decode cX5_empty 17 = .ok (.putfield 21, 3) := by decide +kernel
theorem dX5_empty_20 : decode cX5_empty 20 = .ok (.aload_n 0, 1) := by decide +kernel
theorem dX5_empty_21 : decode cX5_empty 21 = .ok (.getfield 30, 3) := by decide +kernel
theorem dX5_empty_24 : decode cX5_empty 24 = .ok (.iconst 0, 1) := by decide +kernel
theorem dX5_empty_25 : decode cX5_empty 25 = .ok (.invokestatic 38, 3) := by decide +kernel
theorem dX5_empty_28 : decode cX5_empty 28 = .ok (.aload_n 0, 1) := by decide +kernel
theorem dX5_empty_29 : decode cX5_empty 29 = .ok (.getfield 34, 3) := by decide +kernel
theorem dX5_empty_32 : decode cX5_empty 32 = .ok (.iconst 0, 1) := by decide +kernel
theorem dX5_empty_33 : decode cX5_empty 33 = .ok (.invokestatic 38, 3) := by decide +kernel
theorem dX5_empty_36 : decode cX5_empty 36 = .ok (.return_, 1) := by decide +kernel
theorem dX5_become_0 : decode cX5_become 0 = .ok (.aload_n 0, 1) := by decide +kernel
theorem dX5_become_1 : decode cX5_become 1 = .ok (.aload_n 1, 1) := by decide +kernel
theorem dX5_become_2 : decode cX5_become 2 = .ok (.getfield 9, 3) := by decide +kernel
theorem dX5_become_5 : decode cX5_become 5 = .ok (.putfield 9, 3) := by decide +kernel
theorem dX5_become_8 : decode cX5_become 8 = .ok (.aload_n 0, 1) := by decide +kernel
theorem dX5_become_9 : decode cX5_become 9 = .ok (.aload_n 1, 1) := by decide +kernel
theorem dX5_become_10 : decode cX5_become 10 = .ok (.getfield 15, 3) := by decide +kernel
theorem dX5_become_13 : decode cX5_become 13 = .ok (.putfield 15, 3) := by decide +kernel
theorem dX5_become_16 : decode cX5_become 16 = .ok (.aload_n 0, 1) := by decide +kernel
theorem dX5_become_17 : decode cX5_become 17 = .ok (.aload_n 1, 1) := by decide +kernel
theorem dX5_become_18 : decode cX5_become 18 = .ok (.getfield 18, 3) := by decide +kernel
theorem dX5_become_21 : decode cX5_become 21 = .ok (.putfield 18, 3) := by decide +kernel
theorem dX5_become_24 : decode cX5_become 24 = .ok (.aload_n 0, 1) := by decide +kernel
theorem dX5_become_25 : decode cX5_become 25 = .ok (.aload_n 1, 1) := by decide +kernel
theorem dX5_become_26 : decode cX5_become 26 = .ok (.getfield 21, 3) := by decide +kernel
theorem dX5_become_29 : decode cX5_become 29 = .ok (.putfield 21, 3) := by decide +kernel
theorem dX5_become_32 : decode cX5_become 32 = .ok (.iconst 0, 1) := by decide +kernel
theorem dX5_become_33 : decode cX5_become 33 = .ok (.istore_n 2, 1) := by decide +kernel
theorem dX5_become_34 : decode cX5_become 34 = .ok (.iload_n 2, 1) := by decide +kernel
theorem dX5_become_35 : decode cX5_become 35 = .ok (.aload_n 0, 1) := by decide +kernel
theorem dX5_become_36 : decode cX5_become 36 = .ok (.getfield 21, 3) := by decide +kernel
theorem dX5_become_39 : decode cX5_become 39 = .ok (.if_icmp .ge 24, 3) := by decide +kernel
theorem dX5_become_42 : decode cX5_become 42 = .ok (.aload_n 0, 1) := by decide +kernel
theorem dX5_become_43 : decode cX5_become 43 = .ok (.getfield 26, 3) := by decide +kernel
theorem dX5_become_46 : decode cX5_become 46 = .ok (.iload_n 2, 1) := by decide +kernel
theorem dX5_become_47 : decode cX5_become 47 = .ok (.aaload, 1) := by decide +kernel
theorem dX5_become_48 : decode cX5_become 48 = .ok (.aload_n 1, 1) := by decide +kernel
theorem dX5_become_49 : decode cX5_become 49 = .ok (.getfield 26, 3) := by decide +kernel
theorem dX5_become_52 : decode cX5_become 52 = .ok (.iload_n 2, 1) := by decide +kernel
theorem dX5_become_53 : decode cX5_become 53 = .ok (.aaload, 1) := by decide +kernel
theorem dX5_become_54 : decode cX5_become 54 = .ok (.invokevirtual 44, 3) := by decide +kernel
theorem dX5_become_57 : decode cX5_become 57 = .ok (.iinc 2 1, 3) := by decide +kernel
theorem dX5_become_60 : decode cX5_become 60 = .ok (.goto (-26), 3) := by decide +kernel
theorem dX5_become_63 : decode cX5_become 63 = .ok (.aload_n 1, 1) := by decide +kernel
theorem dX5_become_64 : decode cX5_become 64 = .ok (.getfield 30, 3) := by decide +kernel
theorem dX5_become_67 : decode cX5_become 67 = .ok (.iconst 0, 1) := by decide +kernel
theorem dX5_become_68 : decode cX5_become 68 = .ok (.aload_n 0, 1) := by decide +kernel
theorem dX5_become_69 : decode cX5_become 69 = .ok (.getfield 30, 3) := by decide +kernel
theorem dX5_become_72 : decode cX5_become 72 = .ok (.iconst 0, 1) := by decide +kernel
theorem dX5_become_73 : decode cX5_become 73 = .ok (.sipush 192, 3) := by decide +kernel
theorem dX5_become_76 : decode cX5_become 76 = .ok (.invokestatic 48, 3) := by decide +kernel
theorem dX5_become_79 : decode cX5_become 79 = .ok (.aload_n 1, 1) := by decide +kernel
theorem dX5_become_80 : decode cX5_become 80 = .ok (.getfield 34, 3) := by decide +kernel
theorem dX5_become_83 : decode cX5_become 83 = .ok (.iconst 0, 1) := by decide +kernel
theorem dX5_become_84 : decode cX5_become 84 = .ok (.aload_n 0, 1) := by decide +kernel
theorem dX5_become_85 : decode cX5_become 85 = .ok (.getfield 34, 3) := by decide +kernel
theorem dX5_become_88 : decode cX5_become 88 = .ok (.iconst 0, 1) := by decide +kernel
theorem dX5_become_89 : decode cX5_become 89 = .ok (.sipush 192, 3) := by decide +kernel
theorem dX5_become_92 : decode cX5_become 92 = .ok (.invokestatic 48, 3) := by decide +kernel
theorem dX5_become_95 : decode cX5_become 95 = .ok (.return_, 1) := by decide +kernel
theorem dX5_addPlate_0 : decode cX5_addPlate 0 = .ok (.aload_n 0, 1) := by decide +kernel
theorem dX5_addPlate_1 : decode cX5_addPlate 1 = .ok (.getfield 21, 3) := by decide +kernel
theorem dX5_addPlate_4 : decode cX5_addPlate 4 = .ok (.iconst 4, 1) := by decide +kernel
theorem dX5_addPlate_5 : decode cX5_addPlate 5 = .ok (.if_icmp .lt 4, 3) := by decide +kernel
theorem dX5_addPlate_8 : decode cX5_addPlate 8 = .ok (.return_, 1) := by decide +kernel
theorem dX5_addPlate_9 : decode cX5_addPlate 9 = .ok (.aload_n 0, 1) := by decide +kernel
theorem dX5_addPlate_10 : decode cX5_addPlate 10 = .ok (.getfield 26, 3) := by decide +kernel
theorem dX5_addPlate_13 : decode cX5_addPlate 13 = .ok (.aload_n 0, 1) := by decide +kernel
theorem dX5_addPlate_14 : decode cX5_addPlate 14 = .ok (.getfield 21, 3) := by decide +kernel
theorem dX5_addPlate_17 : decode cX5_addPlate 17 = .ok (.aaload, 1) := by decide +kernel
theorem dX5_addPlate_18 : decode cX5_addPlate 18 = .ok (.astore 7, 2) := by decide +kernel
theorem dX5_addPlate_20 : decode cX5_addPlate 20 = .ok (.aload 7, 2) := by decide +kernel
theorem dX5_addPlate_22 : decode cX5_addPlate 22 = .ok (.lload_n 1, 1) := by decide +kernel
theorem dX5_addPlate_23 : decode cX5_addPlate 23 = .ok (.putfield 54, 3) := by decide +kernel
theorem dX5_addPlate_26 : decode cX5_addPlate 26 = .ok (.aload 7, 2) := by decide +kernel
theorem dX5_addPlate_28 : decode cX5_addPlate 28 = .ok (.iload_n 3, 1) := by decide +kernel
theorem dX5_addPlate_29 : decode cX5_addPlate 29 = .ok (.putfield 58, 3) := by decide +kernel
theorem dX5_addPlate_32 : decode cX5_addPlate 32 = .ok (.aload 7, 2) := by decide +kernel
theorem dX5_addPlate_34 : decode cX5_addPlate 34 = .ok (.iload 4, 2) := by decide +kernel
theorem dX5_addPlate_36 : decode cX5_addPlate 36 = .ok (.putfield 61, 3) := by decide +kernel
theorem dX5_addPlate_39 : decode cX5_addPlate 39 = .ok (.aload 7, 2) := by decide +kernel
theorem dX5_addPlate_41 : decode cX5_addPlate 41 = .ok (.iload 5, 2) := by decide +kernel
theorem dX5_addPlate_43 : decode cX5_addPlate 43 = .ok (.putfield 64, 3) := by decide +kernel
theorem dX5_addPlate_46 : decode cX5_addPlate 46 = .ok (.aload 7, 2) := by decide +kernel
theorem dX5_addPlate_48 : decode cX5_addPlate 48 = .ok (.iconst 0, 1) := by decide +kernel
theorem dX5_addPlate_49 : decode cX5_addPlate 49 = .ok (.putfield 67, 3) := by decide +kernel
theorem dX5_addPlate_52 : decode cX5_addPlate 52 = .ok (.aload 7, 2) := by decide +kernel
theorem dX5_addPlate_54 : decode cX5_addPlate 54 = .ok (.iconst 0, 1) := by decide +kernel
theorem dX5_addPlate_55 : decode cX5_addPlate 55 = .ok (.putfield 70, 3) := by decide +kernel
theorem dX5_addPlate_58 : decode cX5_addPlate 58 = .ok (.aload 7, 2) := by decide +kernel
theorem dX5_addPlate_60 : decode cX5_addPlate 60 = .ok (.sipush 1000, 3) := by decide +kernel
theorem dX5_addPlate_63 : decode cX5_addPlate 63 = .ok (.putfield 73, 3) := by decide +kernel
theorem dX5_addPlate_66 : decode cX5_addPlate 66 = .ok (.aload 7, 2) := by decide +kernel
theorem dX5_addPlate_68 : decode cX5_addPlate 68 = .ok (.aload 6, 2) := by decide +kernel
theorem dX5_addPlate_70 : decode cX5_addPlate 70 = .ok (.putfield 76, 3) := by decide +kernel
theorem dX5_addPlate_73 : decode cX5_addPlate 73 = .ok (.aload_n 0, 1) := by decide +kernel
theorem dX5_addPlate_74 : decode cX5_addPlate 74 = .ok (.dup, 1) := by decide +kernel
theorem dX5_addPlate_75 : decode cX5_addPlate 75 = .ok (.getfield 21, 3) := by decide +kernel
theorem dX5_addPlate_78 : decode cX5_addPlate 78 = .ok (.iconst 1, 1) := by decide +kernel
theorem dX5_addPlate_79 : decode cX5_addPlate 79 = .ok (.iadd, 1) := by decide +kernel
theorem dX5_addPlate_80 : decode cX5_addPlate 80 = .ok (.putfield 21, 3) := by decide +kernel
theorem dX5_addPlate_83 : decode cX5_addPlate 83 = .ok (.return_, 1) := by decide +kernel
theorem dX5_cells_0 : decode cX5_cells 0 = .ok (.aload_n 0, 1) := by decide +kernel
theorem dX5_cells_1 : decode cX5_cells 1 = .ok (.getfield 9, 3) := by decide +kernel
theorem dX5_cells_4 : decode cX5_cells 4 = .ok (.aload_n 0, 1) := by decide +kernel
theorem dX5_cells_5 : decode cX5_cells 5 = .ok (.getfield 15, 3) := by decide +kernel
theorem dX5_cells_8 : decode cX5_cells 8 = .ok (.imul, 1) := by decide +kernel
theorem dX5_cells_9 : decode cX5_cells 9 = .ok (.ireturn, 1) := by decide +kernel
theorem dX5_indexOfCell_0 : decode cX5_indexOfCell 0 = .ok (.iload_n 2, 1) := by decide +kernel
theorem dX5_indexOfCell_1 : decode cX5_indexOfCell 1 = .ok (.aload_n 0, 1) := by decide +kernel
theorem dX5_indexOfCell_2 : decode cX5_indexOfCell 2 = .ok (.getfield 9, 3) := by decide +kernel
theorem dX5_indexOfCell_5 : decode cX5_indexOfCell 5 = .ok (.imul, 1) := by decide +kernel
theorem dX5_indexOfCell_6 : decode cX5_indexOfCell 6 = .ok (.iload_n 1, 1) := by decide +kernel
theorem dX5_indexOfCell_7 : decode cX5_indexOfCell 7 = .ok (.iadd, 1) := by decide +kernel
theorem dX5_indexOfCell_8 : decode cX5_indexOfCell 8 = .ok (.ireturn, 1) := by decide +kernel
theorem dX5_indexOfName_0 : decode cX5_indexOfName 0 = .ok (.iconst 0, 1) := by decide +kernel
theorem dX5_indexOfName_1 : decode cX5_indexOfName 1 = .ok (.istore_n 3, 1) := by decide +kernel
theorem dX5_indexOfName_2 : decode cX5_indexOfName 2 = .ok (.iload_n 3, 1) := by decide +kernel
theorem dX5_indexOfName_3 : decode cX5_indexOfName 3 = .ok (.aload_n 0, 1) := by decide +kernel
theorem dX5_indexOfName_4 : decode cX5_indexOfName 4 = .ok (.getfield 21, 3) := by decide +kernel
theorem dX5_indexOfName_7 : decode cX5_indexOfName 7 = .ok (.if_icmp .ge 25, 3) := by decide +kernel
theorem dX5_indexOfName_10 : decode cX5_indexOfName 10 = .ok (.aload_n 0, 1) := by decide +kernel
theorem dX5_indexOfName_11 : decode cX5_indexOfName 11 = .ok (.getfield 26, 3) := by decide +kernel
theorem dX5_indexOfName_14 : decode cX5_indexOfName 14 = .ok (.iload_n 3, 1) := by decide +kernel
theorem dX5_indexOfName_15 : decode cX5_indexOfName 15 = .ok (.aaload, 1) := by decide +kernel
theorem dX5_indexOfName_16 : decode cX5_indexOfName 16 = .ok (.getfield 54, 3) := by decide +kernel
theorem dX5_indexOfName_19 : decode cX5_indexOfName 19 = .ok (.lload_n 1, 1) := by decide +kernel
theorem dX5_indexOfName_20 : decode cX5_indexOfName 20 = .ok (.lcmp, 1) := by decide +kernel
theorem dX5_indexOfName_21 : decode cX5_indexOfName 21 = .ok (.ifCond .ne 5, 3) := by decide +kernel
theorem dX5_indexOfName_24 : decode cX5_indexOfName 24 = .ok (.iload_n 3, 1) := by decide +kernel
theorem dX5_indexOfName_25 : decode cX5_indexOfName 25 = .ok (.ireturn, 1) := by decide +kernel
theorem dX5_indexOfName_26 : decode cX5_indexOfName 26 = .ok (.iinc 3 1, 3) := by decide +kernel
theorem dX5_indexOfName_29 : decode cX5_indexOfName 29 = .ok (.goto (-27), 3) := by decide +kernel
theorem dX5_indexOfName_32 : decode cX5_indexOfName 32 = .ok (.iconst (-1), 1) := by decide +kernel
theorem dX5_indexOfName_33 : decode cX5_indexOfName 33 = .ok (.ireturn, 1) := by decide +kernel
theorem dX5_isCleaned_0 : decode cX5_isCleaned 0 = .ok (.aload_n 0, 1) := by decide +kernel
theorem dX5_isCleaned_1 : decode cX5_isCleaned 1 = .ok (.getfield 34, 3) := by decide +kernel
theorem dX5_isCleaned_4 : decode cX5_isCleaned 4 = .ok (.iload_n 2, 1) := by decide +kernel
theorem dX5_isCleaned_5 : decode cX5_isCleaned 5 = .ok (.iaload, 1) := by decide +kernel
theorem dX5_isCleaned_6 : decode cX5_isCleaned 6 = .ok (.iload_n 1, 1) := by decide +kernel
theorem dX5_isCleaned_7 : decode cX5_isCleaned 7 = .ok (.ishr, 1) := by decide +kernel
theorem dX5_isCleaned_8 : decode cX5_isCleaned 8 = .ok (.iconst 1, 1) := by decide +kernel
theorem dX5_isCleaned_9 : decode cX5_isCleaned 9 = .ok (.iand, 1) := by decide +kernel
theorem dX5_isCleaned_10 : decode cX5_isCleaned 10 = .ok (.iconst 1, 1) := by decide +kernel
theorem dX5_isCleaned_11 : decode cX5_isCleaned 11 = .ok (.if_icmp .ne 7, 3) := by decide +kernel
theorem dX5_isCleaned_14 : decode cX5_isCleaned 14 = .ok (.iconst 1, 1) := by decide +kernel
theorem dX5_isCleaned_15 : decode cX5_isCleaned 15 = .ok (.goto 4, 3) := by decide +kernel
theorem dX5_isCleaned_18 : decode cX5_isCleaned 18 = .ok (.iconst 0, 1) := by decide +kernel
theorem dX5_isCleaned_19 : decode cX5_isCleaned 19 = .ok (.ireturn, 1) := by decide +kernel
theorem dX5_cleanedOfAll_0 : decode cX5_cleanedOfAll 0 = .ok (.iconst 0, 1) := by decide +kernel
theorem dX5_cleanedOfAll_1 : decode cX5_cleanedOfAll 1 = .ok (.istore_n 1, 1) := by decide +kernel
theorem dX5_cleanedOfAll_2 : decode cX5_cleanedOfAll 2 = .ok (.iconst 0, 1) := by decide +kernel
theorem dX5_cleanedOfAll_3 : decode cX5_cleanedOfAll 3 = .ok (.istore_n 2, 1) := by decide +kernel
theorem dX5_cleanedOfAll_4 : decode cX5_cleanedOfAll 4 = .ok (.iload_n 2, 1) := by decide +kernel
theorem dX5_cleanedOfAll_5 : decode cX5_cleanedOfAll 5 = .ok (.aload_n 0, 1) := by decide +kernel
theorem dX5_cleanedOfAll_6 : decode cX5_cleanedOfAll 6 = .ok (.invokevirtual 80, 3) := by decide +kernel
theorem dX5_cleanedOfAll_9 : decode cX5_cleanedOfAll 9 = .ok (.if_icmp .ge 21, 3) := by decide +kernel
theorem dX5_cleanedOfAll_12 : decode cX5_cleanedOfAll 12 = .ok (.iload_n 1, 1) := by decide +kernel
theorem dX5_cleanedOfAll_13 : decode cX5_cleanedOfAll 13 = .ok (.aload_n 0, 1) := by decide +kernel
theorem dX5_cleanedOfAll_14 : decode cX5_cleanedOfAll 14 = .ok (.getfield 34, 3) := by decide +kernel
theorem dX5_cleanedOfAll_17 : decode cX5_cleanedOfAll 17 = .ok (.iload_n 2, 1) := by decide +kernel
theorem dX5_cleanedOfAll_18 : decode cX5_cleanedOfAll 18 = .ok (.iaload, 1) := by decide +kernel
theorem dX5_cleanedOfAll_19 : decode cX5_cleanedOfAll 19 = .ok (.invokestatic 84, 3) := by decide +kernel
theorem dX5_cleanedOfAll_22 : decode cX5_cleanedOfAll 22 = .ok (.iadd, 1) := by decide +kernel
theorem dX5_cleanedOfAll_23 : decode cX5_cleanedOfAll 23 = .ok (.istore_n 1, 1) := by decide +kernel
theorem dX5_cleanedOfAll_24 : decode cX5_cleanedOfAll 24 = .ok (.iinc 2 1, 3) := by decide +kernel
theorem dX5_cleanedOfAll_27 : decode cX5_cleanedOfAll 27 = .ok (.goto (-23), 3) := by decide +kernel
theorem dX5_cleanedOfAll_30 : decode cX5_cleanedOfAll 30 = .ok (.iload_n 1, 1) := by decide +kernel
theorem dX5_cleanedOfAll_31 : decode cX5_cleanedOfAll 31 = .ok (.ireturn, 1) := by decide +kernel
theorem dX6_init_0 : decode cX6_init 0 = .ok (.aload_n 0, 1) := by decide +kernel
theorem dX6_init_1 : decode cX6_init 1 = .ok (.invokespecial 3, 3) := by decide +kernel
theorem dX6_init_4 : decode cX6_init 4 = .ok (.aload_n 0, 1) := by decide +kernel
theorem dX6_init_5 : decode cX6_init 5 = .ok (.sipush 600, 3) := by decide +kernel
theorem dX6_init_8 : decode cX6_init 8 = .ok (.newarray .byte, 2) := by decide +kernel
theorem dX6_init_10 : decode cX6_init 10 = .ok (.putfield 9, 3) := by decide +kernel
theorem dX6_init_13 : decode cX6_init 13 = .ok (.aload_n 0, 1) := by decide +kernel
theorem dX6_init_14 : decode cX6_init 14 = .ok (.iconst 0, 1) := by decide +kernel
theorem dX6_init_15 : decode cX6_init 15 = .ok (.putfield 13, 3) := by decide +kernel
theorem dX6_init_18 : decode cX6_init 18 = .ok (.aload_n 0, 1) := by decide +kernel
theorem dX6_init_19 : decode cX6_init 19 = .ok (.iconst (-1), 1) := by decide +kernel
theorem dX6_init_20 : decode cX6_init 20 = .ok (.putfield 17, 3) := by decide +kernel
theorem dX6_init_23 : decode cX6_init 23 = .ok (.aload_n 0, 1) := by decide +kernel
theorem dX6_init_24 : decode cX6_init 24 = .ok (.bipush 10, 2) := by decide +kernel
theorem dX6_init_26 : decode cX6_init 26 = .ok (.anewarray 20, 3) := by decide +kernel
theorem dX6_init_29 : decode cX6_init 29 = .ok (.putfield 22, 3) := by decide +kernel
theorem dX6_init_32 : decode cX6_init 32 = .ok (.aload_n 0, 1) := by decide +kernel
theorem dX6_init_33 : decode cX6_init 33 = .ok (.iconst 0, 1) := by decide +kernel
theorem dX6_init_34 : decode cX6_init 34 = .ok (.putfield 26, 3) := by decide +kernel
theorem dX6_init_37 : decode cX6_init 37 = .ok (.aload_n 0, 1) := by decide +kernel
theorem dX6_init_38 : decode cX6_init 38 = .ok (.iconst 0, 1) := by decide +kernel
theorem dX6_init_39 : decode cX6_init 39 = .ok (.putfield 29, 3) := by decide +kernel
theorem dX6_init_42 : decode cX6_init 42 = .ok (.aload_n 0, 1) := by decide +kernel
theorem dX6_init_43 : decode cX6_init 43 = .ok (.new 32, 3) := by decide +kernel
theorem dX6_init_46 : decode cX6_init 46 = .ok (.dup, 1) := by decide +kernel
theorem dX6_init_47 : decode cX6_init 47 = .ok (.invokespecial 34, 3) := by decide +kernel
theorem dX6_init_50 : decode cX6_init 50 = .ok (.putfield 35, 3) := by decide +kernel
theorem dX6_init_53 : decode cX6_init 53 = .ok (.aload_n 0, 1) := by decide +kernel
theorem dX6_init_54 : decode cX6_init 54 = .ok (.new 39, 3) := by decide +kernel
theorem dX6_init_57 : decode cX6_init 57 = .ok (.dup, 1) := by decide +kernel
theorem dX6_init_58 : decode cX6_init 58 = .ok (.invokespecial 41, 3) := by decide +kernel
theorem dX6_init_61 : decode cX6_init 61 = .ok (.putfield 42, 3) := by decide +kernel
theorem dX6_init_64 : decode cX6_init 64 = .ok (.iconst 0, 1) := by decide +kernel
theorem dX6_init_65 : decode cX6_init 65 = .ok (.istore_n 1, 1) := by decide +kernel
theorem dX6_init_66 : decode cX6_init 66 = .ok (.iload_n 1, 1) := by decide +kernel
theorem dX6_init_67 : decode cX6_init 67 = .ok (.bipush 10, 2) := by decide +kernel
theorem dX6_init_69 : decode cX6_init 69 = .ok (.if_icmp .ge 22, 3) := by decide +kernel
theorem dX6_init_72 : decode cX6_init 72 = .ok (.aload_n 0, 1) := by decide +kernel
theorem dX6_init_73 : decode cX6_init 73 = .ok (.getfield 22, 3) := by decide +kernel
theorem dX6_init_76 : decode cX6_init 76 = .ok (.iload_n 1, 1) := by decide +kernel
theorem dX6_init_77 : decode cX6_init 77 = .ok (.new 20, 3) := by decide +kernel
theorem dX6_init_80 : decode cX6_init 80 = .ok (.dup, 1) := by decide +kernel
theorem dX6_init_81 : decode cX6_init 81 = .ok (.invokespecial 46, 3) := by decide +kernel
theorem dX6_init_84 : decode cX6_init 84 = .ok (.aastore, 1) := by decide +kernel
theorem dX6_init_85 : decode cX6_init 85 = .ok (.iinc 1 1, 3) := by decide +kernel
theorem dX6_init_88 : decode cX6_init 88 = .ok (.goto (-22), 3) := by decide +kernel
theorem dX6_init_91 : decode cX6_init 91 = .ok (.aload_n 0, 1) := by decide +kernel
theorem dX6_init_92 : decode cX6_init 92 = .ok (.aload_n 0, 1) := by decide +kernel
theorem dX6_init_93 : decode cX6_init 93 = .ok (.getfield 22, 3) := by decide +kernel
theorem dX6_init_96 : decode cX6_init 96 = .ok (.aload_n 0, 1) := by decide +kernel
theorem dX6_init_97 : decode cX6_init 97 = .ok (.getfield 26, 3) := by decide +kernel
theorem dX6_init_100 : decode cX6_init 100 = .ok (.aaload, 1) := by decide +kernel
theorem dX6_init_101 : decode cX6_init 101 = .ok (.putfield 47, 3) := by decide +kernel
theorem dX6_init_104 : decode cX6_init 104 = .ok (.return_, 1) := by decide +kernel
theorem dX6_append_0 : decode cX6_append 0 = .ok (.aload_n 0, 1) := by decide +kernel
theorem dX6_append_1 : decode cX6_append 1 = .ok (.getfield 13, 3) := by decide +kernel
theorem dX6_append_4 : decode cX6_append 4 = .ok (.sipush 580, 3) := by decide +kernel
theorem dX6_append_7 : decode cX6_append 7 = .ok (.if_icmp .le 5, 3) := by decide +kernel
theorem dX6_append_10 : decode cX6_append 10 = .ok (.iconst (-1), 1) := by decide +kernel
theorem dX6_append_11 : decode cX6_append 11 = .ok (.ireturn, 1) := by decide +kernel
theorem dX6_append_12 : decode cX6_append 12 = .ok (.aload_n 0, 1) := by decide +kernel
theorem dX6_append_13 : decode cX6_append 13 = .ok (.iload_n 1, 1) := by decide +kernel
theorem dX6_append_14 : decode cX6_append 14 = .ok (.invokevirtual 51, 3) := by decide +kernel
theorem dX6_append_17 : decode cX6_append 17 = .ok (.aload_n 0, 1) := by decide +kernel
theorem dX6_append_18 : decode cX6_append 18 = .ok (.iload_n 2, 1) := by decide +kernel
theorem dX6_append_19 : decode cX6_append 19 = .ok (.invokevirtual 51, 3) := by decide +kernel
theorem dX6_append_22 : decode cX6_append 22 = .ok (.aload_n 0, 1) := by decide +kernel
theorem dX6_append_23 : decode cX6_append 23 = .ok (.iload_n 3, 1) := by decide +kernel
theorem dX6_append_24 : decode cX6_append 24 = .ok (.invokevirtual 51, 3) := by decide +kernel
theorem dX6_append_27 : decode cX6_append 27 = .ok (.aload_n 0, 1) := by decide +kernel
theorem dX6_append_28 : decode cX6_append 28 = .ok (.iload 4, 2) := by decide +kernel
theorem dX6_append_30 : decode cX6_append 30 = .ok (.invokevirtual 51, 3) := by decide +kernel
theorem dX6_append_33 : decode cX6_append 33 = .ok (.aload_n 0, 1) := by decide +kernel
theorem dX6_append_34 : decode cX6_append 34 = .ok (.iload 5, 2) := by decide +kernel
theorem dX6_append_36 : decode cX6_append 36 = .ok (.invokevirtual 51, 3) := by decide +kernel
theorem dX6_append_39 : decode cX6_append 39 = .ok (.aload_n 0, 1) := by decide +kernel
theorem dX6_append_40 : decode cX6_append 40 = .ok (.getfield 13, 3) := by decide +kernel
theorem dX6_append_43 : decode cX6_append 43 = .ok (.ireturn, 1) := by decide +kernel
theorem dX6_load_0 : decode cX6_load 0 = .ok (.aload_n 0, 1) := by decide +kernel
theorem dX6_load_1 : decode cX6_load 1 = .ok (.iload_n 1, 1) := by decide +kernel
theorem dX6_load_2 : decode cX6_load 2 = .ok (.invokevirtual 55, 3) := by decide +kernel
theorem dX6_load_5 : decode cX6_load 5 = .ok (.aload_n 0, 1) := by decide +kernel
theorem dX6_load_6 : decode cX6_load 6 = .ok (.iconst 0, 1) := by decide +kernel
theorem dX6_load_7 : decode cX6_load 7 = .ok (.putfield 13, 3) := by decide +kernel
theorem dX6_load_10 : decode cX6_load 10 = .ok (.aload_n 0, 1) := by decide +kernel
theorem dX6_load_11 : decode cX6_load 11 = .ok (.getfield 42, 3) := by decide +kernel
theorem dX6_load_14 : decode cX6_load 14 = .ok (.aload_n 0, 1) := by decide +kernel
theorem dX6_load_15 : decode cX6_load 15 = .ok (.getfield 9, 3) := by decide +kernel
theorem dX6_load_18 : decode cX6_load 18 = .ok (.iload_n 1, 1) := by decide +kernel
theorem dX6_load_19 : decode cX6_load 19 = .ok (.aload_n 0, 1) := by decide +kernel
theorem dX6_load_20 : decode cX6_load 20 = .ok (.invokevirtual 58, 3) := by decide +kernel
theorem dX6_load_23 : decode cX6_load 23 = .ok (.invokevirtual 62, 3) := by decide +kernel
theorem dX6_load_26 : decode cX6_load 26 = .ok (.istore_n 2, 1) := by decide +kernel
theorem dX6_load_27 : decode cX6_load 27 = .ok (.aload_n 0, 1) := by decide +kernel
theorem dX6_load_28 : decode cX6_load 28 = .ok (.aload_n 0, 1) := by decide +kernel
theorem dX6_load_29 : decode cX6_load 29 = .ok (.getfield 42, 3) := by decide +kernel
theorem dX6_load_32 : decode cX6_load 32 = .ok (.getfield 66, 3) := by decide +kernel
theorem dX6_load_35 : decode cX6_load 35 = .ok (.putfield 17, 3) := by decide +kernel
theorem dX6_load_38 : decode cX6_load 38 = .ok (.iload_n 2, 1) := by decide +kernel
theorem dX6_load_39 : decode cX6_load 39 = .ok (.ifCond .ne 11, 3) := by decide +kernel
theorem dX6_load_42 : decode cX6_load 42 = .ok (.aload_n 0, 1) := by decide +kernel
theorem dX6_load_43 : decode cX6_load 43 = .ok (.getfield 42, 3) := by decide +kernel
theorem dX6_load_46 : decode cX6_load 46 = .ok (.getfield 69, 3) := by decide +kernel
theorem dX6_load_49 : decode cX6_load 49 = .ok (.ireturn, 1) := by decide +kernel
theorem dX6_load_50 : decode cX6_load 50 = .ok (.aload_n 0, 1) := by decide +kernel
theorem dX6_load_51 : decode cX6_load 51 = .ok (.invokevirtual 72, 3) := by decide +kernel
theorem dX6_load_54 : decode cX6_load 54 = .ok (.aload_n 0, 1) := by decide +kernel
theorem dX6_load_55 : decode cX6_load 55 = .ok (.getfield 35, 3) := by decide +kernel
theorem dX6_load_58 : decode cX6_load 58 = .ok (.invokevirtual 75, 3) := by decide +kernel
theorem dX6_load_61 : decode cX6_load 61 = .ok (.aload_n 0, 1) := by decide +kernel
theorem dX6_load_62 : decode cX6_load 62 = .ok (.getfield 47, 3) := by decide +kernel
theorem dX6_load_65 : decode cX6_load 65 = .ok (.getfield 78, 3) := by decide +kernel
theorem dX6_load_68 : decode cX6_load 68 = .ok (.ireturn, 1) := by decide +kernel
theorem dX6_errorOffset_0 : decode cX6_errorOffset 0 = .ok (.aload_n 0, 1) := by decide +kernel
theorem dX6_errorOffset_1 : decode cX6_errorOffset 1 = .ok (.getfield 17, 3) := by decide +kernel
theorem dX6_errorOffset_4 : decode cX6_errorOffset 4 = .ok (.ireturn, 1) := by decide +kernel
theorem dX6_state_0 : decode cX6_state 0 = .ok (.iload_n 1, 1) := by decide +kernel
theorem dX6_state_1 : decode cX6_state 1 = .ok (.ifCond .lt 9, 3) := by decide +kernel
theorem dX6_state_4 : decode cX6_state 4 = .ok (.iload_n 1, 1) := by decide +kernel
theorem dX6_state_5 : decode cX6_state 5 = .ok (.bipush 8, 2) := by decide +kernel
theorem dX6_state_7 : decode cX6_state 7 = .ok (.if_icmp .le 13, 3) := by decide +kernel
theorem dX6_state_10 : decode cX6_state 10 = .ok (.new 81, 3) := by decide +kernel
theorem dX6_state_13 : decode cX6_state 13 = .ok (.dup, 1) := by decide +kernel
theorem dX6_state_14 : decode cX6_state 14 = .ok (.ldc 83, 2) := by decide +kernel
theorem dX6_state_16 : decode cX6_state 16 = .ok (.invokespecial 85, 3) := by decide +kernel
theorem dX6_state_19 : decode cX6_state 19 = .ok (.athrow, 1) := by decide +kernel
theorem dX6_state_20 : decode cX6_state 20 = .ok (.aload_n 0, 1) := by decide +kernel
theorem dX6_state_21 : decode cX6_state 21 = .ok (.getfield 35, 3) := by decide +kernel
theorem dX6_state_24 : decode cX6_state 24 = .ok (.aload_n 0, 1) := by decide +kernel
theorem dX6_state_25 : decode cX6_state 25 = .ok (.getfield 47, 3) := by decide +kernel
theorem dX6_state_28 : decode cX6_state 28 = .ok (.invokevirtual 88, 3) := by decide +kernel
theorem dX6_state_31 : decode cX6_state 31 = .ok (.iload_n 1, 1) := by decide +kernel
theorem dX6_state_32 : decode cX6_state 32 = .ok (.tableswitch 156 0 7 #[48, 56, 64, 72, 80, 92, 105, 138], 48) := by decide +kernel
theorem dX6_state_80 : decode cX6_state 80 = .ok (.aload_n 0, 1) := by decide +kernel
theorem dX6_state_81 : decode cX6_state 81 = .ok (.getfield 47, 3) := by decide +kernel
theorem dX6_state_84 : decode cX6_state 84 = .ok (.getfield 92, 3) := by decide +kernel
theorem dX6_state_87 : decode cX6_state 87 = .ok (.ireturn, 1) := by decide +kernel
theorem dX6_state_88 : decode cX6_state 88 = .ok (.aload_n 0, 1) := by decide +kernel
theorem dX6_state_89 : decode cX6_state 89 = .ok (.getfield 47, 3) := by decide +kernel
theorem dX6_state_92 : decode cX6_state 92 = .ok (.getfield 95, 3) := by decide +kernel
theorem dX6_state_95 : decode cX6_state 95 = .ok (.ireturn, 1) := by decide +kernel
theorem dX6_state_96 : decode cX6_state 96 = .ok (.aload_n 0, 1) := by decide +kernel
theorem dX6_state_97 : decode cX6_state 97 = .ok (.getfield 47, 3) := by decide +kernel
theorem dX6_state_100 : decode cX6_state 100 = .ok (.getfield 78, 3) := by decide +kernel
theorem dX6_state_103 : decode cX6_state 103 = .ok (.ireturn, 1) := by decide +kernel
theorem dX6_state_104 : decode cX6_state 104 = .ok (.aload_n 0, 1) := by decide +kernel
theorem dX6_state_105 : decode cX6_state 105 = .ok (.getfield 47, 3) := by decide +kernel
theorem dX6_state_108 : decode cX6_state 108 = .ok (.getfield 98, 3) := by decide +kernel
theorem dX6_state_111 : decode cX6_state 111 = .ok (.ireturn, 1) := by decide +kernel
theorem dX6_state_112 : decode cX6_state 112 = .ok (.aload_n 0, 1) := by decide +kernel
theorem dX6_state_113 : decode cX6_state 113 = .ok (.getfield 35, 3) := by decide +kernel
theorem dX6_state_116 : decode cX6_state 116 = .ok (.aload_n 0, 1) := by decide +kernel
theorem dX6_state_117 : decode cX6_state 117 = .ok (.getfield 47, 3) := by decide +kernel
theorem dX6_state_120 : decode cX6_state 120 = .ok (.invokevirtual 101, 3) := by decide +kernel
theorem dX6_state_123 : decode cX6_state 123 = .ok (.ireturn, 1) := by decide +kernel
theorem dX6_state_124 : decode cX6_state 124 = .ok (.aload_n 0, 1) := by decide +kernel
theorem dX6_state_125 : decode cX6_state 125 = .ok (.getfield 35, 3) := by decide +kernel
theorem dX6_state_128 : decode cX6_state 128 = .ok (.aload_n 0, 1) := by decide +kernel
theorem dX6_state_129 : decode cX6_state 129 = .ok (.getfield 47, 3) := by decide +kernel
theorem dX6_state_132 : decode cX6_state 132 = .ok (.iconst 0, 1) := by decide +kernel
theorem dX6_state_133 : decode cX6_state 133 = .ok (.invokevirtual 105, 3) := by decide +kernel
theorem dX6_state_136 : decode cX6_state 136 = .ok (.ireturn, 1) := by decide +kernel
theorem dX6_state_137 : decode cX6_state 137 = .ok (.aload_n 0, 1) := by decide +kernel
theorem dX6_state_138 : decode cX6_state 138 = .ok (.getfield 47, 3) := by decide +kernel
theorem dX6_state_141 : decode cX6_state 141 = .ok (.getfield 78, 3) := by decide +kernel
theorem dX6_state_144 : decode cX6_state 144 = .ok (.ifCond .ne 7, 3) := by decide +kernel
theorem dX6_state_147 : decode cX6_state 147 = .ok (.iconst 0, 1) := by decide +kernel
theorem dX6_state_148 : decode cX6_state 148 = .ok (.goto 21, 3) := by decide +kernel
theorem dX6_state_151 : decode cX6_state 151 = .ok (.aload_n 0, 1) := by decide +kernel
theorem dX6_state_152 : decode cX6_state 152 = .ok (.getfield 35, 3) := by decide +kernel
theorem dX6_state_155 : decode cX6_state 155 = .ok (.aload_n 0, 1) := by decide +kernel
theorem dX6_state_156 : decode cX6_state 156 = .ok (.getfield 47, 3) := by decide +kernel
theorem dX6_state_159 : decode cX6_state 159 = .ok (.aload_n 0, 1) := by decide +kernel
theorem dX6_state_160 : decode cX6_state 160 = .ok (.getfield 47, 3) := by decide +kernel
theorem dX6_state_163 : decode cX6_state 163 = .ok (.getfield 78, 3) := by decide +kernel
theorem dX6_state_166 : decode cX6_state 166 = .ok (.invokevirtual 105, 3) := by decide +kernel
theorem dX6_state_169 : decode cX6_state 169 = .ok (.ireturn, 1) := by decide +kernel
theorem dX6_state_170 : decode cX6_state 170 = .ok (.aload_n 0, 1) := by decide +kernel
theorem dX6_state_171 : decode cX6_state 171 = .ok (.getfield 47, 3) := by decide +kernel
theorem dX6_state_174 : decode cX6_state 174 = .ok (.getfield 109, 3) := by decide +kernel
theorem dX6_state_177 : decode cX6_state 177 = .ok (.aload_n 0, 1) := by decide +kernel
theorem dX6_state_178 : decode cX6_state 178 = .ok (.getfield 47, 3) := by decide +kernel
theorem dX6_state_181 : decode cX6_state 181 = .ok (.invokevirtual 113, 3) := by decide +kernel
theorem dX6_state_184 : decode cX6_state 184 = .ok (.invokestatic 117, 3) := by decide +kernel
theorem dX6_state_187 : decode cX6_state 187 = .ok (.ireturn, 1) := by decide +kernel
theorem dX6_state_188 : decode cX6_state 188 = .ok (.aload_n 0, 1) := by decide +kernel
theorem dX6_state_189 : decode cX6_state 189 = .ok (.getfield 47, 3) := by decide +kernel
theorem dX6_state_192 : decode cX6_state 192 = .ok (.invokevirtual 121, 3) := by decide +kernel
theorem dX6_state_195 : decode cX6_state 195 = .ok (.ireturn, 1) := by decide +kernel
theorem dX6_find_0 : decode cX6_find 0 = .ok (.aload_n 0, 1) := by decide +kernel
theorem dX6_find_1 : decode cX6_find 1 = .ok (.iload_n 1, 1) := by decide +kernel
theorem dX6_find_2 : decode cX6_find 2 = .ok (.invokevirtual 55, 3) := by decide +kernel
theorem dX6_find_5 : decode cX6_find 5 = .ok (.iload_n 1, 1) := by decide +kernel
theorem dX6_find_6 : decode cX6_find 6 = .ok (.iconst 1, 1) := by decide +kernel
theorem dX6_find_7 : decode cX6_find 7 = .ok (.if_icmp .lt 9, 3) := by decide +kernel
theorem dX6_find_10 : decode cX6_find 10 = .ok (.iload_n 1, 1) := by decide +kernel
theorem dX6_find_11 : decode cX6_find 11 = .ok (.bipush 6, 2) := by decide +kernel
theorem dX6_find_13 : decode cX6_find 13 = .ok (.if_icmp .le 5, 3) := by decide +kernel
theorem dX6_find_16 : decode cX6_find 16 = .ok (.iconst (-1), 1) := by decide +kernel
theorem dX6_find_17 : decode cX6_find 17 = .ok (.ireturn, 1) := by decide +kernel
theorem dX6_find_18 : decode cX6_find 18 = .ok (.aload_n 0, 1) := by decide +kernel
theorem dX6_find_19 : decode cX6_find 19 = .ok (.getfield 47, 3) := by decide +kernel
theorem dX6_find_22 : decode cX6_find 22 = .ok (.aload_n 0, 1) := by decide +kernel
theorem dX6_find_23 : decode cX6_find 23 = .ok (.getfield 9, 3) := by decide +kernel
theorem dX6_find_26 : decode cX6_find 26 = .ok (.iconst 0, 1) := by decide +kernel
theorem dX6_find_27 : decode cX6_find 27 = .ok (.iload_n 1, 1) := by decide +kernel
theorem dX6_find_28 : decode cX6_find 28 = .ok (.invokestatic 124, 3) := by decide +kernel
theorem dX6_find_31 : decode cX6_find 31 = .ok (.invokevirtual 128, 3) := by decide +kernel
theorem dX6_find_34 : decode cX6_find 34 = .ok (.ireturn, 1) := by decide +kernel
theorem dX6_plate_0 : decode cX6_plate 0 = .ok (.aload_n 0, 1) := by decide +kernel
theorem dX6_plate_1 : decode cX6_plate 1 = .ok (.iload_n 1, 1) := by decide +kernel
theorem dX6_plate_2 : decode cX6_plate 2 = .ok (.invokevirtual 132, 3) := by decide +kernel
theorem dX6_plate_5 : decode cX6_plate 5 = .ok (.iload_n 2, 1) := by decide +kernel
theorem dX6_plate_6 : decode cX6_plate 6 = .ok (.ifCond .lt 9, 3) := by decide +kernel
theorem dX6_plate_9 : decode cX6_plate 9 = .ok (.iload_n 2, 1) := by decide +kernel
theorem dX6_plate_10 : decode cX6_plate 10 = .ok (.bipush 10, 2) := by decide +kernel
theorem dX6_plate_12 : decode cX6_plate 12 = .ok (.if_icmp .le 13, 3) := by decide +kernel
theorem dX6_plate_15 : decode cX6_plate 15 = .ok (.new 81, 3) := by decide +kernel
theorem dX6_plate_18 : decode cX6_plate 18 = .ok (.dup, 1) := by decide +kernel
theorem dX6_plate_19 : decode cX6_plate 19 = .ok (.ldc 135, 2) := by decide +kernel
theorem dX6_plate_21 : decode cX6_plate 21 = .ok (.invokespecial 85, 3) := by decide +kernel
theorem dX6_plate_24 : decode cX6_plate 24 = .ok (.athrow, 1) := by decide +kernel
theorem dX6_plate_25 : decode cX6_plate 25 = .ok (.aload_n 0, 1) := by decide +kernel
theorem dX6_plate_26 : decode cX6_plate 26 = .ok (.getfield 47, 3) := by decide +kernel
theorem dX6_plate_29 : decode cX6_plate 29 = .ok (.getfield 137, 3) := by decide +kernel
theorem dX6_plate_32 : decode cX6_plate 32 = .ok (.iload_n 1, 1) := by decide +kernel
theorem dX6_plate_33 : decode cX6_plate 33 = .ok (.aaload, 1) := by decide +kernel
theorem dX6_plate_34 : decode cX6_plate 34 = .ok (.astore_n 3, 1) := by decide +kernel
theorem dX6_plate_35 : decode cX6_plate 35 = .ok (.aload_n 0, 1) := by decide +kernel
theorem dX6_plate_36 : decode cX6_plate 36 = .ok (.getfield 35, 3) := by decide +kernel
theorem dX6_plate_39 : decode cX6_plate 39 = .ok (.aload_n 0, 1) := by decide +kernel
theorem dX6_plate_40 : decode cX6_plate 40 = .ok (.getfield 47, 3) := by decide +kernel
theorem dX6_plate_43 : decode cX6_plate 43 = .ok (.invokevirtual 88, 3) := by decide +kernel
theorem dX6_plate_46 : decode cX6_plate 46 = .ok (.iload_n 2, 1) := by decide +kernel
theorem dX6_plate_47 : decode cX6_plate 47 = .ok (.tableswitch 141 0 9 #[53, 58, 63, 68, 73, 78, 83, 88, 98, 111], 53) := by decide +kernel
theorem dX6_plate_100 : decode cX6_plate 100 = .ok (.aload_n 3, 1) := by decide +kernel
theorem dX6_plate_101 : decode cX6_plate 101 = .ok (.getfield 141, 3) := by decide +kernel
theorem dX6_plate_104 : decode cX6_plate 104 = .ok (.ireturn, 1) := by decide +kernel
theorem dX6_plate_105 : decode cX6_plate 105 = .ok (.aload_n 3, 1) := by decide +kernel
theorem dX6_plate_106 : decode cX6_plate 106 = .ok (.getfield 146, 3) := by decide +kernel
theorem dX6_plate_109 : decode cX6_plate 109 = .ok (.ireturn, 1) := by decide +kernel
theorem dX6_plate_110 : decode cX6_plate 110 = .ok (.aload_n 3, 1) := by decide +kernel
theorem dX6_plate_111 : decode cX6_plate 111 = .ok (.invokevirtual 149, 3) := by decide +kernel
theorem dX6_plate_114 : decode cX6_plate 114 = .ok (.ireturn, 1) := by decide +kernel
theorem dX6_plate_115 : decode cX6_plate 115 = .ok (.aload_n 3, 1) := by decide +kernel
theorem dX6_plate_116 : decode cX6_plate 116 = .ok (.getfield 152, 3) := by decide +kernel
theorem dX6_plate_119 : decode cX6_plate 119 = .ok (.ireturn, 1) := by decide +kernel
theorem dX6_plate_120 : decode cX6_plate 120 = .ok (.aload_n 3, 1) := by decide +kernel
theorem dX6_plate_121 : decode cX6_plate 121 = .ok (.getfield 155, 3) := by decide +kernel
theorem dX6_plate_124 : decode cX6_plate 124 = .ok (.ireturn, 1) := by decide +kernel
theorem dX6_plate_125 : decode cX6_plate 125 = .ok (.aload_n 3, 1) := by decide +kernel
theorem dX6_plate_126 : decode cX6_plate 126 = .ok (.getfield 158, 3) := by decide +kernel
theorem dX6_plate_129 : decode cX6_plate 129 = .ok (.ireturn, 1) := by decide +kernel
theorem dX6_plate_130 : decode cX6_plate 130 = .ok (.aload_n 3, 1) := by decide +kernel
theorem dX6_plate_131 : decode cX6_plate 131 = .ok (.getfield 161, 3) := by decide +kernel
theorem dX6_plate_134 : decode cX6_plate 134 = .ok (.ireturn, 1) := by decide +kernel
theorem dX6_plate_135 : decode cX6_plate 135 = .ok (.aload_n 0, 1) := by decide +kernel
theorem dX6_plate_136 : decode cX6_plate 136 = .ok (.getfield 35, 3) := by decide +kernel
theorem dX6_plate_139 : decode cX6_plate 139 = .ok (.getfield 164, 3) := by decide +kernel
theorem dX6_plate_142 : decode cX6_plate 142 = .ok (.iload_n 1, 1) := by decide +kernel
theorem dX6_plate_143 : decode cX6_plate 143 = .ok (.iaload, 1) := by decide +kernel
theorem dX6_plate_144 : decode cX6_plate 144 = .ok (.ireturn, 1) := by decide +kernel
theorem dX6_plate_145 : decode cX6_plate 145 = .ok (.aload_n 0, 1) := by decide +kernel
theorem dX6_plate_146 : decode cX6_plate 146 = .ok (.getfield 35, 3) := by decide +kernel
theorem dX6_plate_149 : decode cX6_plate 149 = .ok (.aload_n 0, 1) := by decide +kernel
theorem dX6_plate_150 : decode cX6_plate 150 = .ok (.getfield 47, 3) := by decide +kernel
theorem dX6_plate_153 : decode cX6_plate 153 = .ok (.iload_n 1, 1) := by decide +kernel
theorem dX6_plate_154 : decode cX6_plate 154 = .ok (.invokevirtual 167, 3) := by decide +kernel
theorem dX6_plate_157 : decode cX6_plate 157 = .ok (.ireturn, 1) := by decide +kernel
theorem dX6_plate_158 : decode cX6_plate 158 = .ok (.aload_n 0, 1) := by decide +kernel
theorem dX6_plate_159 : decode cX6_plate 159 = .ok (.getfield 47, 3) := by decide +kernel
theorem dX6_plate_162 : decode cX6_plate 162 = .ok (.getfield 92, 3) := by decide +kernel
theorem dX6_plate_165 : decode cX6_plate 165 = .ok (.aload_n 3, 1) := by decide +kernel
theorem dX6_plate_166 : decode cX6_plate 166 = .ok (.invokevirtual 149, 3) := by decide +kernel
theorem dX6_plate_169 : decode cX6_plate 169 = .ok (.invokestatic 170, 3) := by decide +kernel
theorem dX6_plate_172 : decode cX6_plate 172 = .ok (.aload_n 0, 1) := by decide +kernel
theorem dX6_plate_173 : decode cX6_plate 173 = .ok (.getfield 47, 3) := by decide +kernel
theorem dX6_plate_176 : decode cX6_plate 176 = .ok (.getfield 95, 3) := by decide +kernel
theorem dX6_plate_179 : decode cX6_plate 179 = .ok (.aload_n 3, 1) := by decide +kernel
theorem dX6_plate_180 : decode cX6_plate 180 = .ok (.invokevirtual 149, 3) := by decide +kernel
theorem dX6_plate_183 : decode cX6_plate 183 = .ok (.invokestatic 170, 3) := by decide +kernel
theorem dX6_plate_186 : decode cX6_plate 186 = .ok (.imul, 1) := by decide +kernel
theorem dX6_plate_187 : decode cX6_plate 187 = .ok (.ireturn, 1) := by decide +kernel
theorem dX6_plate_188 : decode cX6_plate 188 = .ok (.aload_n 0, 1) := by decide +kernel
theorem dX6_plate_189 : decode cX6_plate 189 = .ok (.getfield 35, 3) := by decide +kernel
theorem dX6_plate_192 : decode cX6_plate 192 = .ok (.getfield 174, 3) := by decide +kernel
theorem dX6_plate_195 : decode cX6_plate 195 = .ok (.iload_n 1, 1) := by decide +kernel
theorem dX6_plate_196 : decode cX6_plate 196 = .ok (.aaload, 1) := by decide +kernel
theorem dX6_plate_197 : decode cX6_plate 197 = .ok (.aload_n 0, 1) := by decide +kernel
theorem dX6_plate_198 : decode cX6_plate 198 = .ok (.getfield 47, 3) := by decide +kernel
theorem dX6_plate_201 : decode cX6_plate 201 = .ok (.invokevirtual 113, 3) := by decide +kernel
theorem dX6_plate_204 : decode cX6_plate 204 = .ok (.invokestatic 117, 3) := by decide +kernel
theorem dX6_plate_207 : decode cX6_plate 207 = .ok (.ireturn, 1) := by decide +kernel
theorem dX6_cell_0 : decode cX6_cell 0 = .ok (.aload_n 0, 1) := by decide +kernel
theorem dX6_cell_1 : decode cX6_cell 1 = .ok (.iload_n 1, 1) := by decide +kernel
theorem dX6_cell_2 : decode cX6_cell 2 = .ok (.invokevirtual 132, 3) := by decide +kernel
theorem dX6_cell_5 : decode cX6_cell 5 = .ok (.aload_n 0, 1) := by decide +kernel
theorem dX6_cell_6 : decode cX6_cell 6 = .ok (.iload_n 2, 1) := by decide +kernel
theorem dX6_cell_7 : decode cX6_cell 7 = .ok (.iload_n 3, 1) := by decide +kernel
theorem dX6_cell_8 : decode cX6_cell 8 = .ok (.invokevirtual 177, 3) := by decide +kernel
theorem dX6_cell_11 : decode cX6_cell 11 = .ok (.iload 4, 2) := by decide +kernel
theorem dX6_cell_13 : decode cX6_cell 13 = .ok (.ifCond .lt 9, 3) := by decide +kernel
theorem dX6_cell_16 : decode cX6_cell 16 = .ok (.iload 4, 2) := by decide +kernel
theorem dX6_cell_18 : decode cX6_cell 18 = .ok (.iconst 4, 1) := by decide +kernel
theorem dX6_cell_19 : decode cX6_cell 19 = .ok (.if_icmp .le 13, 3) := by decide +kernel
theorem dX6_cell_22 : decode cX6_cell 22 = .ok (.new 81, 3) := by decide +kernel
theorem dX6_cell_25 : decode cX6_cell 25 = .ok (.dup, 1) := by decide +kernel
theorem dX6_cell_26 : decode cX6_cell 26 = .ok (.ldc 181, 2) := by decide +kernel
theorem dX6_cell_28 : decode cX6_cell 28 = .ok (.invokespecial 85, 3) := by decide +kernel
theorem dX6_cell_31 : decode cX6_cell 31 = .ok (.athrow, 1) := by decide +kernel
theorem dX6_cell_32 : decode cX6_cell 32 = .ok (.aload_n 0, 1) := by decide +kernel
theorem dX6_cell_33 : decode cX6_cell 33 = .ok (.getfield 35, 3) := by decide +kernel
theorem dX6_cell_36 : decode cX6_cell 36 = .ok (.aload_n 0, 1) := by decide +kernel
theorem dX6_cell_37 : decode cX6_cell 37 = .ok (.getfield 47, 3) := by decide +kernel
theorem dX6_cell_40 : decode cX6_cell 40 = .ok (.invokevirtual 88, 3) := by decide +kernel
theorem dX6_cell_43 : decode cX6_cell 43 = .ok (.aload_n 0, 1) := by decide +kernel
theorem dX6_cell_44 : decode cX6_cell 44 = .ok (.getfield 47, 3) := by decide +kernel
theorem dX6_cell_47 : decode cX6_cell 47 = .ok (.iload_n 2, 1) := by decide +kernel
theorem dX6_cell_48 : decode cX6_cell 48 = .ok (.iload_n 3, 1) := by decide +kernel
theorem dX6_cell_49 : decode cX6_cell 49 = .ok (.invokevirtual 183, 3) := by decide +kernel
theorem dX6_cell_52 : decode cX6_cell 52 = .ok (.istore 5, 2) := by decide +kernel
theorem dX6_cell_54 : decode cX6_cell 54 = .ok (.iload 4, 2) := by decide +kernel
theorem dX6_cell_56 : decode cX6_cell 56 = .ok (.tableswitch 102 0 3 #[32, 47, 60, 79], 32) := by decide +kernel
theorem dX6_cell_88 : decode cX6_cell 88 = .ok (.aload_n 0, 1) := by decide +kernel
theorem dX6_cell_89 : decode cX6_cell 89 = .ok (.getfield 35, 3) := by decide +kernel
theorem dX6_cell_92 : decode cX6_cell 92 = .ok (.aload_n 0, 1) := by decide +kernel
theorem dX6_cell_93 : decode cX6_cell 93 = .ok (.getfield 47, 3) := by decide +kernel
theorem dX6_cell_96 : decode cX6_cell 96 = .ok (.iload_n 1, 1) := by decide +kernel
theorem dX6_cell_97 : decode cX6_cell 97 = .ok (.iload_n 2, 1) := by decide +kernel
theorem dX6_cell_98 : decode cX6_cell 98 = .ok (.iload_n 3, 1) := by decide +kernel
theorem dX6_cell_99 : decode cX6_cell 99 = .ok (.invokevirtual 186, 3) := by decide +kernel
theorem dX6_cell_102 : decode cX6_cell 102 = .ok (.ireturn, 1) := by decide +kernel
theorem dX6_cell_103 : decode cX6_cell 103 = .ok (.aload_n 0, 1) := by decide +kernel
theorem dX6_cell_104 : decode cX6_cell 104 = .ok (.getfield 35, 3) := by decide +kernel
theorem dX6_cell_107 : decode cX6_cell 107 = .ok (.getfield 174, 3) := by decide +kernel
theorem dX6_cell_110 : decode cX6_cell 110 = .ok (.iload_n 1, 1) := by decide +kernel
theorem dX6_cell_111 : decode cX6_cell 111 = .ok (.aaload, 1) := by decide +kernel
theorem dX6_cell_112 : decode cX6_cell 112 = .ok (.iload 5, 2) := by decide +kernel
theorem dX6_cell_114 : decode cX6_cell 114 = .ok (.iaload, 1) := by decide +kernel
theorem dX6_cell_115 : decode cX6_cell 115 = .ok (.ireturn, 1) := by decide +kernel
theorem dX6_cell_116 : decode cX6_cell 116 = .ok (.aload_n 0, 1) := by decide +kernel
theorem dX6_cell_117 : decode cX6_cell 117 = .ok (.getfield 35, 3) := by decide +kernel
theorem dX6_cell_120 : decode cX6_cell 120 = .ok (.iload_n 1, 1) := by decide +kernel
theorem dX6_cell_121 : decode cX6_cell 121 = .ok (.iload 5, 2) := by decide +kernel
theorem dX6_cell_123 : decode cX6_cell 123 = .ok (.invokevirtual 190, 3) := by decide +kernel
theorem dX6_cell_126 : decode cX6_cell 126 = .ok (.ifCond .eq 7, 3) := by decide +kernel
theorem dX6_cell_129 : decode cX6_cell 129 = .ok (.iconst 1, 1) := by decide +kernel
theorem dX6_cell_130 : decode cX6_cell 130 = .ok (.goto 4, 3) := by decide +kernel
theorem dX6_cell_133 : decode cX6_cell 133 = .ok (.iconst 0, 1) := by decide +kernel
theorem dX6_cell_134 : decode cX6_cell 134 = .ok (.ireturn, 1) := by decide +kernel
theorem dX6_cell_135 : decode cX6_cell 135 = .ok (.aload_n 0, 1) := by decide +kernel
theorem dX6_cell_136 : decode cX6_cell 136 = .ok (.getfield 35, 3) := by decide +kernel
theorem dX6_cell_139 : decode cX6_cell 139 = .ok (.aload_n 0, 1) := by decide +kernel
theorem dX6_cell_140 : decode cX6_cell 140 = .ok (.getfield 47, 3) := by decide +kernel
theorem dX6_cell_143 : decode cX6_cell 143 = .ok (.iload_n 1, 1) := by decide +kernel
theorem dX6_cell_144 : decode cX6_cell 144 = .ok (.iload_n 2, 1) := by decide +kernel
theorem dX6_cell_145 : decode cX6_cell 145 = .ok (.iload_n 3, 1) := by decide +kernel
theorem dX6_cell_146 : decode cX6_cell 146 = .ok (.invokevirtual 194, 3) := by decide +kernel
theorem dX6_cell_149 : decode cX6_cell 149 = .ok (.ifCond .eq 7, 3) := by decide +kernel
theorem dX6_cell_152 : decode cX6_cell 152 = .ok (.iconst 1, 1) := by decide +kernel
theorem dX6_cell_153 : decode cX6_cell 153 = .ok (.goto 4, 3) := by decide +kernel
theorem dX6_cell_156 : decode cX6_cell 156 = .ok (.iconst 0, 1) := by decide +kernel
theorem dX6_cell_157 : decode cX6_cell 157 = .ok (.ireturn, 1) := by decide +kernel
theorem dX6_cell_158 : decode cX6_cell 158 = .ok (.aload_n 0, 1) := by decide +kernel
theorem dX6_cell_159 : decode cX6_cell 159 = .ok (.getfield 47, 3) := by decide +kernel
theorem dX6_cell_162 : decode cX6_cell 162 = .ok (.iload_n 1, 1) := by decide +kernel
theorem dX6_cell_163 : decode cX6_cell 163 = .ok (.iload 5, 2) := by decide +kernel
theorem dX6_cell_165 : decode cX6_cell 165 = .ok (.invokevirtual 198, 3) := by decide +kernel
theorem dX6_cell_168 : decode cX6_cell 168 = .ok (.ifCond .eq 7, 3) := by decide +kernel
theorem dX6_cell_171 : decode cX6_cell 171 = .ok (.iconst 1, 1) := by decide +kernel
theorem dX6_cell_172 : decode cX6_cell 172 = .ok (.goto 4, 3) := by decide +kernel
theorem dX6_cell_175 : decode cX6_cell 175 = .ok (.iconst 0, 1) := by decide +kernel
theorem dX6_cell_176 : decode cX6_cell 176 = .ok (.ireturn, 1) := by decide +kernel
theorem dX6_tone_0 : decode cX6_tone 0 = .ok (.aload_n 0, 1) := by decide +kernel
theorem dX6_tone_1 : decode cX6_tone 1 = .ok (.iload_n 1, 1) := by decide +kernel
theorem dX6_tone_2 : decode cX6_tone 2 = .ok (.iload_n 2, 1) := by decide +kernel
theorem dX6_tone_3 : decode cX6_tone 3 = .ok (.invokevirtual 177, 3) := by decide +kernel
theorem dX6_tone_6 : decode cX6_tone 6 = .ok (.aload_n 0, 1) := by decide +kernel
theorem dX6_tone_7 : decode cX6_tone 7 = .ok (.getfield 47, 3) := by decide +kernel
theorem dX6_tone_10 : decode cX6_tone 10 = .ok (.getfield 109, 3) := by decide +kernel
theorem dX6_tone_13 : decode cX6_tone 13 = .ok (.aload_n 0, 1) := by decide +kernel
theorem dX6_tone_14 : decode cX6_tone 14 = .ok (.getfield 47, 3) := by decide +kernel
theorem dX6_tone_17 : decode cX6_tone 17 = .ok (.iload_n 1, 1) := by decide +kernel
theorem dX6_tone_18 : decode cX6_tone 18 = .ok (.iload_n 2, 1) := by decide +kernel
theorem dX6_tone_19 : decode cX6_tone 19 = .ok (.invokevirtual 183, 3) := by decide +kernel
theorem dX6_tone_22 : decode cX6_tone 22 = .ok (.iaload, 1) := by decide +kernel
theorem dX6_tone_23 : decode cX6_tone 23 = .ok (.ireturn, 1) := by decide +kernel
theorem dX6_inks_0 : decode cX6_inks 0 = .ok (.aload_n 0, 1) := by decide +kernel
theorem dX6_inks_1 : decode cX6_inks 1 = .ok (.iload_n 1, 1) := by decide +kernel
theorem dX6_inks_2 : decode cX6_inks 2 = .ok (.iload_n 2, 1) := by decide +kernel
theorem dX6_inks_3 : decode cX6_inks 3 = .ok (.invokevirtual 177, 3) := by decide +kernel
theorem dX6_inks_6 : decode cX6_inks 6 = .ok (.aload_n 0, 1) := by decide +kernel
theorem dX6_inks_7 : decode cX6_inks 7 = .ok (.getfield 35, 3) := by decide +kernel
theorem dX6_inks_10 : decode cX6_inks 10 = .ok (.aload_n 0, 1) := by decide +kernel
theorem dX6_inks_11 : decode cX6_inks 11 = .ok (.getfield 47, 3) := by decide +kernel
theorem dX6_inks_14 : decode cX6_inks 14 = .ok (.invokevirtual 88, 3) := by decide +kernel
theorem dX6_inks_17 : decode cX6_inks 17 = .ok (.aload_n 0, 1) := by decide +kernel
theorem dX6_inks_18 : decode cX6_inks 18 = .ok (.getfield 35, 3) := by decide +kernel
theorem dX6_inks_21 : decode cX6_inks 21 = .ok (.getfield 201, 3) := by decide +kernel
theorem dX6_inks_24 : decode cX6_inks 24 = .ok (.aload_n 0, 1) := by decide +kernel
theorem dX6_inks_25 : decode cX6_inks 25 = .ok (.getfield 47, 3) := by decide +kernel
theorem dX6_inks_28 : decode cX6_inks 28 = .ok (.iload_n 1, 1) := by decide +kernel
theorem dX6_inks_29 : decode cX6_inks 29 = .ok (.iload_n 2, 1) := by decide +kernel
theorem dX6_inks_30 : decode cX6_inks 30 = .ok (.invokevirtual 183, 3) := by decide +kernel
theorem dX6_inks_33 : decode cX6_inks 33 = .ok (.iaload, 1) := by decide +kernel
theorem dX6_inks_34 : decode cX6_inks 34 = .ok (.ireturn, 1) := by decide +kernel
theorem dX6_why_0 : decode cX6_why 0 = .ok (.aload_n 0, 1) := by decide +kernel
theorem dX6_why_1 : decode cX6_why 1 = .ok (.iload_n 1, 1) := by decide +kernel
theorem dX6_why_2 : decode cX6_why 2 = .ok (.invokevirtual 132, 3) := by decide +kernel
theorem dX6_why_5 : decode cX6_why 5 = .ok (.aload_n 0, 1) := by decide +kernel
theorem dX6_why_6 : decode cX6_why 6 = .ok (.iload_n 2, 1) := by decide +kernel
theorem dX6_why_7 : decode cX6_why 7 = .ok (.iload_n 3, 1) := by decide +kernel
theorem dX6_why_8 : decode cX6_why 8 = .ok (.invokevirtual 177, 3) := by decide +kernel
theorem dX6_why_11 : decode cX6_why 11 = .ok (.aload_n 0, 1) := by decide +kernel
theorem dX6_why_12 : decode cX6_why 12 = .ok (.getfield 35, 3) := by decide +kernel
theorem dX6_why_15 : decode cX6_why 15 = .ok (.aload_n 0, 1) := by decide +kernel
theorem dX6_why_16 : decode cX6_why 16 = .ok (.getfield 47, 3) := by decide +kernel
theorem dX6_why_19 : decode cX6_why 19 = .ok (.invokevirtual 88, 3) := by decide +kernel
theorem dX6_why_22 : decode cX6_why 22 = .ok (.aload_n 0, 1) := by decide +kernel
theorem dX6_why_23 : decode cX6_why 23 = .ok (.getfield 47, 3) := by decide +kernel
theorem dX6_why_26 : decode cX6_why 26 = .ok (.iload_n 2, 1) := by decide +kernel
theorem dX6_why_27 : decode cX6_why 27 = .ok (.iload_n 3, 1) := by decide +kernel
theorem dX6_why_28 : decode cX6_why 28 = .ok (.invokevirtual 183, 3) := by decide +kernel
theorem dX6_why_31 : decode cX6_why 31 = .ok (.istore 4, 2) := by decide +kernel
theorem dX6_why_33 : decode cX6_why 33 = .ok (.aload_n 0, 1) := by decide +kernel
theorem dX6_why_34 : decode cX6_why 34 = .ok (.getfield 35, 3) := by decide +kernel
theorem dX6_why_37 : decode cX6_why 37 = .ok (.iload_n 1, 1) := by decide +kernel
theorem dX6_why_38 : decode cX6_why 38 = .ok (.iload 4, 2) := by decide +kernel
theorem dX6_why_40 : decode cX6_why 40 = .ok (.invokevirtual 190, 3) := by decide +kernel
theorem dX6_why_43 : decode cX6_why 43 = .ok (.ifCond .eq 5, 3) := by decide +kernel
theorem dX6_why_46 : decode cX6_why 46 = .ok (.iconst 0, 1) := by decide +kernel
theorem dX6_why_47 : decode cX6_why 47 = .ok (.ireturn, 1) := by decide +kernel
theorem dX6_why_48 : decode cX6_why 48 = .ok (.aload_n 0, 1) := by decide +kernel
theorem dX6_why_49 : decode cX6_why 49 = .ok (.getfield 47, 3) := by decide +kernel
theorem dX6_why_52 : decode cX6_why 52 = .ok (.iload_n 1, 1) := by decide +kernel
theorem dX6_why_53 : decode cX6_why 53 = .ok (.iload 4, 2) := by decide +kernel
theorem dX6_why_55 : decode cX6_why 55 = .ok (.invokevirtual 198, 3) := by decide +kernel
theorem dX6_why_58 : decode cX6_why 58 = .ok (.ifCond .eq 5, 3) := by decide +kernel
theorem dX6_why_61 : decode cX6_why 61 = .ok (.iconst 1, 1) := by decide +kernel
theorem dX6_why_62 : decode cX6_why 62 = .ok (.ireturn, 1) := by decide +kernel
theorem dX6_why_63 : decode cX6_why 63 = .ok (.aload_n 0, 1) := by decide +kernel
theorem dX6_why_64 : decode cX6_why 64 = .ok (.getfield 35, 3) := by decide +kernel
theorem dX6_why_67 : decode cX6_why 67 = .ok (.aload_n 0, 1) := by decide +kernel
theorem dX6_why_68 : decode cX6_why 68 = .ok (.getfield 47, 3) := by decide +kernel
theorem dX6_why_71 : decode cX6_why 71 = .ok (.iload_n 1, 1) := by decide +kernel
theorem dX6_why_72 : decode cX6_why 72 = .ok (.iload_n 2, 1) := by decide +kernel
theorem dX6_why_73 : decode cX6_why 73 = .ok (.iload_n 3, 1) := by decide +kernel
theorem dX6_why_74 : decode cX6_why 74 = .ok (.invokevirtual 204, 3) := by decide +kernel
theorem dX6_why_77 : decode cX6_why 77 = .ok (.ifCond .eq 7, 3) := by decide +kernel
theorem dX6_why_80 : decode cX6_why 80 = .ok (.iconst 3, 1) := by decide +kernel
theorem dX6_why_81 : decode cX6_why 81 = .ok (.goto 4, 3) := by decide +kernel
theorem dX6_why_84 : decode cX6_why 84 = .ok (.iconst 2, 1) := by decide +kernel
theorem dX6_why_85 : decode cX6_why 85 = .ok (.ireturn, 1) := by decide +kernel
theorem dX6_off_0 : decode cX6_off 0 = .ok (.aload_n 0, 1) := by decide +kernel
theorem dX6_off_1 : decode cX6_off 1 = .ok (.iload_n 1, 1) := by decide +kernel
theorem dX6_off_2 : decode cX6_off 2 = .ok (.invokevirtual 132, 3) := by decide +kernel
theorem dX6_off_5 : decode cX6_off 5 = .ok (.aload_n 0, 1) := by decide +kernel
theorem dX6_off_6 : decode cX6_off 6 = .ok (.getfield 47, 3) := by decide +kernel
theorem dX6_off_9 : decode cX6_off 9 = .ok (.getfield 137, 3) := by decide +kernel
theorem dX6_off_12 : decode cX6_off 12 = .ok (.iload_n 1, 1) := by decide +kernel
theorem dX6_off_13 : decode cX6_off 13 = .ok (.aaload, 1) := by decide +kernel
theorem dX6_off_14 : decode cX6_off 14 = .ok (.invokevirtual 149, 3) := by decide +kernel
theorem dX6_off_17 : decode cX6_off 17 = .ok (.istore_n 3, 1) := by decide +kernel
theorem dX6_off_18 : decode cX6_off 18 = .ok (.aload_n 0, 1) := by decide +kernel
theorem dX6_off_19 : decode cX6_off 19 = .ok (.getfield 47, 3) := by decide +kernel
theorem dX6_off_22 : decode cX6_off 22 = .ok (.getfield 92, 3) := by decide +kernel
theorem dX6_off_25 : decode cX6_off 25 = .ok (.iload_n 3, 1) := by decide +kernel
theorem dX6_off_26 : decode cX6_off 26 = .ok (.invokestatic 170, 3) := by decide +kernel
theorem dX6_off_29 : decode cX6_off 29 = .ok (.istore 4, 2) := by decide +kernel
theorem dX6_off_31 : decode cX6_off 31 = .ok (.iload 4, 2) := by decide +kernel
theorem dX6_off_33 : decode cX6_off 33 = .ok (.aload_n 0, 1) := by decide +kernel
theorem dX6_off_34 : decode cX6_off 34 = .ok (.getfield 47, 3) := by decide +kernel
theorem dX6_off_37 : decode cX6_off 37 = .ok (.getfield 95, 3) := by decide +kernel
theorem dX6_off_40 : decode cX6_off 40 = .ok (.iload_n 3, 1) := by decide +kernel
theorem dX6_off_41 : decode cX6_off 41 = .ok (.invokestatic 170, 3) := by decide +kernel
theorem dX6_off_44 : decode cX6_off 44 = .ok (.imul, 1) := by decide +kernel
theorem dX6_off_45 : decode cX6_off 45 = .ok (.istore 5, 2) := by decide +kernel
theorem dX6_off_47 : decode cX6_off 47 = .ok (.iload_n 2, 1) := by decide +kernel
theorem dX6_off_48 : decode cX6_off 48 = .ok (.ifCond .lt 15, 3) := by decide +kernel
theorem dX6_off_51 : decode cX6_off 51 = .ok (.iload_n 2, 1) := by decide +kernel
theorem dX6_off_52 : decode cX6_off 52 = .ok (.iload 5, 2) := by decide +kernel
theorem dX6_off_54 : decode cX6_off 54 = .ok (.if_icmp .ge 9, 3) := by decide +kernel
theorem dX6_off_57 : decode cX6_off 57 = .ok (.iload 4, 2) := by decide +kernel
theorem dX6_off_59 : decode cX6_off 59 = .ok (.iconst 1, 1) := by decide +kernel
theorem dX6_off_60 : decode cX6_off 60 = .ok (.if_icmp .ge 13, 3) := by decide +kernel
theorem dX6_off_63 : decode cX6_off 63 = .ok (.new 207, 3) := by decide +kernel
theorem dX6_off_66 : decode cX6_off 66 = .ok (.dup, 1) := by decide +kernel
theorem dX6_off_67 : decode cX6_off 67 = .ok (.ldc 209, 2) := by decide +kernel
theorem dX6_off_69 : decode cX6_off 69 = .ok (.invokespecial 211, 3) := by decide +kernel
theorem dX6_off_72 : decode cX6_off 72 = .ok (.athrow, 1) := by decide +kernel
theorem dX6_off_73 : decode cX6_off 73 = .ok (.aload_n 0, 1) := by decide +kernel
theorem dX6_off_74 : decode cX6_off 74 = .ok (.getfield 35, 3) := by decide +kernel
theorem dX6_off_77 : decode cX6_off 77 = .ok (.aload_n 0, 1) := by decide +kernel
theorem dX6_off_78 : decode cX6_off 78 = .ok (.getfield 47, 3) := by decide +kernel
theorem dX6_off_81 : decode cX6_off 81 = .ok (.invokevirtual 88, 3) := by decide +kernel
theorem dX6_off_84 : decode cX6_off 84 = .ok (.aload_n 0, 1) := by decide +kernel
theorem dX6_off_85 : decode cX6_off 85 = .ok (.getfield 35, 3) := by decide +kernel
theorem dX6_off_88 : decode cX6_off 88 = .ok (.aload_n 0, 1) := by decide +kernel
theorem dX6_off_89 : decode cX6_off 89 = .ok (.getfield 47, 3) := by decide +kernel
theorem dX6_off_92 : decode cX6_off 92 = .ok (.iload_n 1, 1) := by decide +kernel
theorem dX6_off_93 : decode cX6_off 93 = .ok (.iload_n 2, 1) := by decide +kernel
theorem dX6_off_94 : decode cX6_off 94 = .ok (.iload 4, 2) := by decide +kernel
theorem dX6_off_96 : decode cX6_off 96 = .ok (.irem, 1) := by decide +kernel
theorem dX6_off_97 : decode cX6_off 97 = .ok (.iload_n 3, 1) := by decide +kernel
theorem dX6_off_98 : decode cX6_off 98 = .ok (.imul, 1) := by decide +kernel
theorem dX6_off_99 : decode cX6_off 99 = .ok (.iload_n 2, 1) := by decide +kernel
theorem dX6_off_100 : decode cX6_off 100 = .ok (.iload 4, 2) := by decide +kernel
theorem dX6_off_102 : decode cX6_off 102 = .ok (.idiv, 1) := by decide +kernel
theorem dX6_off_103 : decode cX6_off 103 = .ok (.iload_n 3, 1) := by decide +kernel
theorem dX6_off_104 : decode cX6_off 104 = .ok (.imul, 1) := by decide +kernel
theorem dX6_off_105 : decode cX6_off 105 = .ok (.invokevirtual 212, 3) := by decide +kernel
theorem dX6_off_108 : decode cX6_off 108 = .ok (.ireturn, 1) := by decide +kernel
theorem dX6_covered_0 : decode cX6_covered 0 = .ok (.aload_n 0, 1) := by decide +kernel
theorem dX6_covered_1 : decode cX6_covered 1 = .ok (.iload_n 1, 1) := by decide +kernel
theorem dX6_covered_2 : decode cX6_covered 2 = .ok (.invokevirtual 132, 3) := by decide +kernel
theorem dX6_covered_5 : decode cX6_covered 5 = .ok (.aload_n 0, 1) := by decide +kernel
theorem dX6_covered_6 : decode cX6_covered 6 = .ok (.getfield 35, 3) := by decide +kernel
theorem dX6_covered_9 : decode cX6_covered 9 = .ok (.aload_n 0, 1) := by decide +kernel
theorem dX6_covered_10 : decode cX6_covered 10 = .ok (.getfield 47, 3) := by decide +kernel
theorem dX6_covered_13 : decode cX6_covered 13 = .ok (.invokevirtual 88, 3) := by decide +kernel
theorem dX6_covered_16 : decode cX6_covered 16 = .ok (.aload_n 0, 1) := by decide +kernel
theorem dX6_covered_17 : decode cX6_covered 17 = .ok (.getfield 47, 3) := by decide +kernel
theorem dX6_covered_20 : decode cX6_covered 20 = .ok (.invokevirtual 113, 3) := by decide +kernel
theorem dX6_covered_23 : decode cX6_covered 23 = .ok (.i2f, 1) := by decide +kernel
theorem dX6_covered_24 : decode cX6_covered 24 = .ok (.fstore_n 2, 1) := by decide +kernel
theorem dX6_covered_25 : decode cX6_covered 25 = .ok (.fload_n 2, 1) := by decide +kernel
theorem dX6_covered_26 : decode cX6_covered 26 = .ok (.fconst 0, 1) := by decide +kernel
theorem dX6_covered_27 : decode cX6_covered 27 = .ok (.fcmp .l, 1) := by decide +kernel
theorem dX6_covered_28 : decode cX6_covered 28 = .ok (.ifCond .le 18, 3) := by decide +kernel
theorem dX6_covered_31 : decode cX6_covered 31 = .ok (.aload_n 0, 1) := by decide +kernel
theorem dX6_covered_32 : decode cX6_covered 32 = .ok (.getfield 35, 3) := by decide +kernel
theorem dX6_covered_35 : decode cX6_covered 35 = .ok (.getfield 164, 3) := by decide +kernel
theorem dX6_covered_38 : decode cX6_covered 38 = .ok (.iload_n 1, 1) := by decide +kernel
theorem dX6_covered_39 : decode cX6_covered 39 = .ok (.iaload, 1) := by decide +kernel
theorem dX6_covered_40 : decode cX6_covered 40 = .ok (.i2f, 1) := by decide +kernel
theorem dX6_covered_41 : decode cX6_covered 41 = .ok (.fload_n 2, 1) := by decide +kernel
theorem dX6_covered_42 : decode cX6_covered 42 = .ok (.fdiv, 1) := by decide +kernel
theorem dX6_covered_43 : decode cX6_covered 43 = .ok (.goto 4, 3) := by decide +kernel
theorem dX6_covered_46 : decode cX6_covered 46 = .ok (.fconst 0, 1) := by decide +kernel
theorem dX6_covered_47 : decode cX6_covered 47 = .ok (.freturn, 1) := by decide +kernel
theorem dX6_moire_0 : decode cX6_moire 0 = .ok (.aload_n 0, 1) := by decide +kernel
theorem dX6_moire_1 : decode cX6_moire 1 = .ok (.iload_n 1, 1) := by decide +kernel
theorem dX6_moire_2 : decode cX6_moire 2 = .ok (.invokevirtual 132, 3) := by decide +kernel
theorem dX6_moire_5 : decode cX6_moire 5 = .ok (.aload_n 0, 1) := by decide +kernel
theorem dX6_moire_6 : decode cX6_moire 6 = .ok (.iload_n 2, 1) := by decide +kernel
theorem dX6_moire_7 : decode cX6_moire 7 = .ok (.invokevirtual 132, 3) := by decide +kernel
theorem dX6_moire_10 : decode cX6_moire 10 = .ok (.aload_n 0, 1) := by decide +kernel
theorem dX6_moire_11 : decode cX6_moire 11 = .ok (.getfield 47, 3) := by decide +kernel
theorem dX6_moire_14 : decode cX6_moire 14 = .ok (.getfield 137, 3) := by decide +kernel
theorem dX6_moire_17 : decode cX6_moire 17 = .ok (.iload_n 2, 1) := by decide +kernel
theorem dX6_moire_18 : decode cX6_moire 18 = .ok (.aaload, 1) := by decide +kernel
theorem dX6_moire_19 : decode cX6_moire 19 = .ok (.astore_n 3, 1) := by decide +kernel
theorem dX6_moire_20 : decode cX6_moire 20 = .ok (.aload_n 3, 1) := by decide +kernel
theorem dX6_moire_21 : decode cX6_moire 21 = .ok (.aload_n 0, 1) := by decide +kernel
theorem dX6_moire_22 : decode cX6_moire 22 = .ok (.getfield 47, 3) := by decide +kernel
theorem dX6_moire_25 : decode cX6_moire 25 = .ok (.getfield 137, 3) := by decide +kernel
theorem dX6_moire_28 : decode cX6_moire 28 = .ok (.iload_n 1, 1) := by decide +kernel
theorem dX6_moire_29 : decode cX6_moire 29 = .ok (.aaload, 1) := by decide +kernel
theorem dX6_moire_30 : decode cX6_moire 30 = .ok (.getfield 141, 3) := by decide +kernel
theorem dX6_moire_33 : decode cX6_moire 33 = .ok (.aload_n 0, 1) := by decide +kernel
theorem dX6_moire_34 : decode cX6_moire 34 = .ok (.getfield 47, 3) := by decide +kernel
theorem dX6_moire_37 : decode cX6_moire 37 = .ok (.getfield 137, 3) := by decide +kernel
theorem dX6_moire_40 : decode cX6_moire 40 = .ok (.iload_n 1, 1) := by decide +kernel
theorem dX6_moire_41 : decode cX6_moire 41 = .ok (.aaload, 1) := by decide +kernel
theorem dX6_moire_42 : decode cX6_moire 42 = .ok (.getfield 146, 3) := by decide +kernel
theorem dX6_moire_45 : decode cX6_moire 45 = .ok (.invokestatic 215, 3) := by decide +kernel
theorem dX6_moire_48 : decode cX6_moire 48 = .ok (.dreturn, 1) := by decide +kernel
theorem dX6_worst_0 : decode cX6_worst 0 = .ok (.iconst (-1), 1) := by decide +kernel
theorem dX6_worst_1 : decode cX6_worst 1 = .ok (.istore_n 2, 1) := by decide +kernel
theorem dX6_worst_2 : decode cX6_worst 2 = .ok (.ldc2_w 219, 3) := by decide +kernel
theorem dX6_worst_5 : decode cX6_worst 5 = .ok (.dstore_n 3, 1) := by decide +kernel
theorem dX6_worst_6 : decode cX6_worst 6 = .ok (.iconst 0, 1) := by decide +kernel
theorem dX6_worst_7 : decode cX6_worst 7 = .ok (.istore 5, 2) := by decide +kernel
theorem dX6_worst_9 : decode cX6_worst 9 = .ok (.iload 5, 2) := by decide +kernel
theorem dX6_worst_11 : decode cX6_worst 11 = .ok (.aload_n 0, 1) := by decide +kernel
theorem dX6_worst_12 : decode cX6_worst 12 = .ok (.getfield 47, 3) := by decide +kernel
theorem dX6_worst_15 : decode cX6_worst 15 = .ok (.getfield 78, 3) := by decide +kernel
theorem dX6_worst_18 : decode cX6_worst 18 = .ok (.if_icmp .ge 96, 3) := by decide +kernel
theorem dX6_worst_21 : decode cX6_worst 21 = .ok (.iload 5, 2) := by decide +kernel
theorem dX6_worst_23 : decode cX6_worst 23 = .ok (.iconst 1, 1) := by decide +kernel
theorem dX6_worst_24 : decode cX6_worst 24 = .ok (.iadd, 1) := by decide +kernel
theorem dX6_worst_25 : decode cX6_worst 25 = .ok (.istore 6, 2) := by decide +kernel
theorem dX6_worst_27 : decode cX6_worst 27 = .ok (.iload 6, 2) := by decide +kernel
theorem dX6_worst_29 : decode cX6_worst 29 = .ok (.aload_n 0, 1) := by decide +kernel
theorem dX6_worst_30 : decode cX6_worst 30 = .ok (.getfield 47, 3) := by decide +kernel
theorem dX6_worst_33 : decode cX6_worst 33 = .ok (.getfield 78, 3) := by decide +kernel
theorem dX6_worst_36 : decode cX6_worst 36 = .ok (.if_icmp .ge 72, 3) := by decide +kernel
theorem dX6_worst_39 : decode cX6_worst 39 = .ok (.aload_n 0, 1) := by decide +kernel
theorem dX6_worst_40 : decode cX6_worst 40 = .ok (.getfield 47, 3) := by decide +kernel
theorem dX6_worst_43 : decode cX6_worst 43 = .ok (.getfield 137, 3) := by decide +kernel
theorem dX6_worst_46 : decode cX6_worst 46 = .ok (.iload 6, 2) := by decide +kernel
theorem dX6_worst_48 : decode cX6_worst 48 = .ok (.aaload, 1) := by decide +kernel
theorem dX6_worst_49 : decode cX6_worst 49 = .ok (.aload_n 0, 1) := by decide +kernel
theorem dX6_worst_50 : decode cX6_worst 50 = .ok (.getfield 47, 3) := by decide +kernel
theorem dX6_worst_53 : decode cX6_worst 53 = .ok (.getfield 137, 3) := by decide +kernel
theorem dX6_worst_56 : decode cX6_worst 56 = .ok (.iload 5, 2) := by decide +kernel
theorem dX6_worst_58 : decode cX6_worst 58 = .ok (.aaload, 1) := by decide +kernel
theorem dX6_worst_59 : decode cX6_worst 59 = .ok (.getfield 141, 3) := by decide +kernel
theorem dX6_worst_62 : decode cX6_worst 62 = .ok (.aload_n 0, 1) := by decide +kernel
theorem dX6_worst_63 : decode cX6_worst 63 = .ok (.getfield 47, 3) := by decide +kernel
theorem dX6_worst_66 : decode cX6_worst 66 = .ok (.getfield 137, 3) := by decide +kernel
theorem dX6_worst_69 : decode cX6_worst 69 = .ok (.iload 5, 2) := by decide +kernel
theorem dX6_worst_71 : decode cX6_worst 71 = .ok (.aaload, 1) := by decide +kernel
theorem dX6_worst_72 : decode cX6_worst 72 = .ok (.getfield 146, 3) := by decide +kernel
theorem dX6_worst_75 : decode cX6_worst 75 = .ok (.invokestatic 215, 3) := by decide +kernel
theorem dX6_worst_78 : decode cX6_worst 78 = .ok (.dstore 7, 2) := by decide +kernel
theorem dX6_worst_80 : decode cX6_worst 80 = .ok (.dload 7, 2) := by decide +kernel
theorem dX6_worst_82 : decode cX6_worst 82 = .ok (.dload_n 3, 1) := by decide +kernel
theorem dX6_worst_83 : decode cX6_worst 83 = .ok (.dcmp .l, 1) := by decide +kernel
theorem dX6_worst_84 : decode cX6_worst 84 = .ok (.ifCond .le 18, 3) := by decide +kernel
theorem dX6_worst_87 : decode cX6_worst 87 = .ok (.dload 7, 2) := by decide +kernel
theorem dX6_worst_89 : decode cX6_worst 89 = .ok (.dstore_n 3, 1) := by decide +kernel
theorem dX6_worst_90 : decode cX6_worst 90 = .ok (.iload_n 1, 1) := by decide +kernel
theorem dX6_worst_91 : decode cX6_worst 91 = .ok (.ifCond .eq 8, 3) := by decide +kernel
theorem dX6_worst_94 : decode cX6_worst 94 = .ok (.iload 6, 2) := by decide +kernel
theorem dX6_worst_96 : decode cX6_worst 96 = .ok (.goto 5, 3) := by decide +kernel
theorem dX6_worst_99 : decode cX6_worst 99 = .ok (.iload 5, 2) := by decide +kernel
theorem dX6_worst_101 : decode cX6_worst 101 = .ok (.istore_n 2, 1) := by decide +kernel
theorem dX6_worst_102 : decode cX6_worst 102 = .ok (.iinc 6 1, 3) := by decide +kernel
theorem dX6_worst_105 : decode cX6_worst 105 = .ok (.goto (-78), 3) := by decide +kernel
theorem dX6_worst_108 : decode cX6_worst 108 = .ok (.iinc 5 1, 3) := by decide +kernel
theorem dX6_worst_111 : decode cX6_worst 111 = .ok (.goto (-102), 3) := by decide +kernel
theorem dX6_worst_114 : decode cX6_worst 114 = .ok (.iload_n 2, 1) := by decide +kernel
theorem dX6_worst_115 : decode cX6_worst 115 = .ok (.ireturn, 1) := by decide +kernel
theorem dX6_bestTurn_0 : decode cX6_bestTurn 0 = .ok (.aload_n 0, 1) := by decide +kernel
theorem dX6_bestTurn_1 : decode cX6_bestTurn 1 = .ok (.iload_n 1, 1) := by decide +kernel
theorem dX6_bestTurn_2 : decode cX6_bestTurn 2 = .ok (.invokevirtual 132, 3) := by decide +kernel
theorem dX6_bestTurn_5 : decode cX6_bestTurn 5 = .ok (.aload_n 0, 1) := by decide +kernel
theorem dX6_bestTurn_6 : decode cX6_bestTurn 6 = .ok (.getfield 47, 3) := by decide +kernel
theorem dX6_bestTurn_9 : decode cX6_bestTurn 9 = .ok (.getfield 78, 3) := by decide +kernel
theorem dX6_bestTurn_12 : decode cX6_bestTurn 12 = .ok (.iconst 2, 1) := by decide +kernel
theorem dX6_bestTurn_13 : decode cX6_bestTurn 13 = .ok (.if_icmp .ge 32, 3) := by decide +kernel
theorem dX6_bestTurn_16 : decode cX6_bestTurn 16 = .ok (.bipush 10, 2) := by decide +kernel
theorem dX6_bestTurn_18 : decode cX6_bestTurn 18 = .ok (.aload_n 0, 1) := by decide +kernel
theorem dX6_bestTurn_19 : decode cX6_bestTurn 19 = .ok (.getfield 47, 3) := by decide +kernel
theorem dX6_bestTurn_22 : decode cX6_bestTurn 22 = .ok (.getfield 137, 3) := by decide +kernel
theorem dX6_bestTurn_25 : decode cX6_bestTurn 25 = .ok (.iload_n 1, 1) := by decide +kernel
theorem dX6_bestTurn_26 : decode cX6_bestTurn 26 = .ok (.aaload, 1) := by decide +kernel
theorem dX6_bestTurn_27 : decode cX6_bestTurn 27 = .ok (.getfield 141, 3) := by decide +kernel
theorem dX6_bestTurn_30 : decode cX6_bestTurn 30 = .ok (.imul, 1) := by decide +kernel
theorem dX6_bestTurn_31 : decode cX6_bestTurn 31 = .ok (.aload_n 0, 1) := by decide +kernel
theorem dX6_bestTurn_32 : decode cX6_bestTurn 32 = .ok (.getfield 47, 3) := by decide +kernel
theorem dX6_bestTurn_35 : decode cX6_bestTurn 35 = .ok (.getfield 137, 3) := by decide +kernel
theorem dX6_bestTurn_38 : decode cX6_bestTurn 38 = .ok (.iload_n 1, 1) := by decide +kernel
theorem dX6_bestTurn_39 : decode cX6_bestTurn 39 = .ok (.aaload, 1) := by decide +kernel
theorem dX6_bestTurn_40 : decode cX6_bestTurn 40 = .ok (.getfield 146, 3) := by decide +kernel
theorem dX6_bestTurn_43 : decode cX6_bestTurn 43 = .ok (.iadd, 1) := by decide +kernel
theorem dX6_bestTurn_44 : decode cX6_bestTurn 44 = .ok (.ireturn, 1) := by decide +kernel
theorem dX6_bestTurn_45 : decode cX6_bestTurn 45 = .ok (.iconst (-1), 1) := by decide +kernel
theorem dX6_bestTurn_46 : decode cX6_bestTurn 46 = .ok (.istore_n 2, 1) := by decide +kernel
theorem dX6_bestTurn_47 : decode cX6_bestTurn 47 = .ok (.dconst 0, 1) := by decide +kernel
theorem dX6_bestTurn_48 : decode cX6_bestTurn 48 = .ok (.dstore_n 3, 1) := by decide +kernel
theorem dX6_bestTurn_49 : decode cX6_bestTurn 49 = .ok (.iconst 0, 1) := by decide +kernel
theorem dX6_bestTurn_50 : decode cX6_bestTurn 50 = .ok (.istore 5, 2) := by decide +kernel
theorem dX6_bestTurn_52 : decode cX6_bestTurn 52 = .ok (.iload 5, 2) := by decide +kernel
theorem dX6_bestTurn_54 : decode cX6_bestTurn 54 = .ok (.iconst 3, 1) := by decide +kernel
theorem dX6_bestTurn_55 : decode cX6_bestTurn 55 = .ok (.if_icmp .gt 67, 3) := by decide +kernel
theorem dX6_bestTurn_58 : decode cX6_bestTurn 58 = .ok (.iload 5, 2) := by decide +kernel
theorem dX6_bestTurn_60 : decode cX6_bestTurn 60 = .ok (.ifCond .ne 7, 3) := by decide +kernel
theorem dX6_bestTurn_63 : decode cX6_bestTurn 63 = .ok (.iconst 1, 1) := by decide +kernel
theorem dX6_bestTurn_64 : decode cX6_bestTurn 64 = .ok (.goto 4, 3) := by decide +kernel
theorem dX6_bestTurn_67 : decode cX6_bestTurn 67 = .ok (.iconst 0, 1) := by decide +kernel
theorem dX6_bestTurn_68 : decode cX6_bestTurn 68 = .ok (.istore 6, 2) := by decide +kernel
theorem dX6_bestTurn_70 : decode cX6_bestTurn 70 = .ok (.iload 6, 2) := by decide +kernel
theorem dX6_bestTurn_72 : decode cX6_bestTurn 72 = .ok (.iconst 3, 1) := by decide +kernel
theorem dX6_bestTurn_73 : decode cX6_bestTurn 73 = .ok (.if_icmp .gt 43, 3) := by decide +kernel
theorem dX6_bestTurn_76 : decode cX6_bestTurn 76 = .ok (.aload_n 0, 1) := by decide +kernel
theorem dX6_bestTurn_77 : decode cX6_bestTurn 77 = .ok (.iload_n 1, 1) := by decide +kernel
theorem dX6_bestTurn_78 : decode cX6_bestTurn 78 = .ok (.iload 5, 2) := by decide +kernel
theorem dX6_bestTurn_80 : decode cX6_bestTurn 80 = .ok (.iload 6, 2) := by decide +kernel
theorem dX6_bestTurn_82 : decode cX6_bestTurn 82 = .ok (.invokevirtual 221, 3) := by decide +kernel
theorem dX6_bestTurn_85 : decode cX6_bestTurn 85 = .ok (.dstore 7, 2) := by decide +kernel
theorem dX6_bestTurn_87 : decode cX6_bestTurn 87 = .ok (.iload_n 2, 1) := by decide +kernel
theorem dX6_bestTurn_88 : decode cX6_bestTurn 88 = .ok (.ifCond .lt 10, 3) := by decide +kernel
theorem dX6_bestTurn_91 : decode cX6_bestTurn 91 = .ok (.dload 7, 2) := by decide +kernel
theorem dX6_bestTurn_93 : decode cX6_bestTurn 93 = .ok (.dload_n 3, 1) := by decide +kernel
theorem dX6_bestTurn_94 : decode cX6_bestTurn 94 = .ok (.dcmp .g, 1) := by decide +kernel
theorem dX6_bestTurn_95 : decode cX6_bestTurn 95 = .ok (.ifCond .ge 15, 3) := by decide +kernel
theorem dX6_bestTurn_98 : decode cX6_bestTurn 98 = .ok (.bipush 10, 2) := by decide +kernel
theorem dX6_bestTurn_100 : decode cX6_bestTurn 100 = .ok (.iload 5, 2) := by decide +kernel
theorem dX6_bestTurn_102 : decode cX6_bestTurn 102 = .ok (.imul, 1) := by decide +kernel
theorem dX6_bestTurn_103 : decode cX6_bestTurn 103 = .ok (.iload 6, 2) := by decide +kernel
theorem dX6_bestTurn_105 : decode cX6_bestTurn 105 = .ok (.iadd, 1) := by decide +kernel
theorem dX6_bestTurn_106 : decode cX6_bestTurn 106 = .ok (.istore_n 2, 1) := by decide +kernel
theorem dX6_bestTurn_107 : decode cX6_bestTurn 107 = .ok (.dload 7, 2) := by decide +kernel
theorem dX6_bestTurn_109 : decode cX6_bestTurn 109 = .ok (.dstore_n 3, 1) := by decide +kernel
theorem dX6_bestTurn_110 : decode cX6_bestTurn 110 = .ok (.iinc 6 1, 3) := by decide +kernel
theorem dX6_bestTurn_113 : decode cX6_bestTurn 113 = .ok (.goto (-43), 3) := by decide +kernel
theorem dX6_bestTurn_116 : decode cX6_bestTurn 116 = .ok (.iinc 5 1, 3) := by decide +kernel
theorem dX6_bestTurn_119 : decode cX6_bestTurn 119 = .ok (.goto (-67), 3) := by decide +kernel
theorem dX6_bestTurn_122 : decode cX6_bestTurn 122 = .ok (.iload_n 2, 1) := by decide +kernel
theorem dX6_bestTurn_123 : decode cX6_bestTurn 123 = .ok (.ireturn, 1) := by decide +kernel
theorem dX6_copies_0 : decode cX6_copies 0 = .ok (.aload_n 0, 1) := by decide +kernel
theorem dX6_copies_1 : decode cX6_copies 1 = .ok (.getfield 35, 3) := by decide +kernel
theorem dX6_copies_4 : decode cX6_copies 4 = .ok (.aload_n 0, 1) := by decide +kernel
theorem dX6_copies_5 : decode cX6_copies 5 = .ok (.getfield 47, 3) := by decide +kernel
theorem dX6_copies_8 : decode cX6_copies 8 = .ok (.invokevirtual 88, 3) := by decide +kernel
theorem dX6_copies_11 : decode cX6_copies 11 = .ok (.iconst (-1), 1) := by decide +kernel
theorem dX6_copies_12 : decode cX6_copies 12 = .ok (.istore_n 1, 1) := by decide +kernel
theorem dX6_copies_13 : decode cX6_copies 13 = .ok (.iconst 0, 1) := by decide +kernel
theorem dX6_copies_14 : decode cX6_copies 14 = .ok (.istore_n 2, 1) := by decide +kernel
theorem dX6_copies_15 : decode cX6_copies 15 = .ok (.iload_n 2, 1) := by decide +kernel
theorem dX6_copies_16 : decode cX6_copies 16 = .ok (.aload_n 0, 1) := by decide +kernel
theorem dX6_copies_17 : decode cX6_copies 17 = .ok (.getfield 47, 3) := by decide +kernel
theorem dX6_copies_20 : decode cX6_copies 20 = .ok (.getfield 78, 3) := by decide +kernel
theorem dX6_copies_23 : decode cX6_copies 23 = .ok (.if_icmp .ge 55, 3) := by decide +kernel
theorem dX6_copies_26 : decode cX6_copies 26 = .ok (.aload_n 0, 1) := by decide +kernel
theorem dX6_copies_27 : decode cX6_copies 27 = .ok (.getfield 35, 3) := by decide +kernel
theorem dX6_copies_30 : decode cX6_copies 30 = .ok (.getfield 164, 3) := by decide +kernel
theorem dX6_copies_33 : decode cX6_copies 33 = .ok (.iload_n 2, 1) := by decide +kernel
theorem dX6_copies_34 : decode cX6_copies 34 = .ok (.iaload, 1) := by decide +kernel
theorem dX6_copies_35 : decode cX6_copies 35 = .ok (.istore_n 3, 1) := by decide +kernel
theorem dX6_copies_36 : decode cX6_copies 36 = .ok (.iload_n 3, 1) := by decide +kernel
theorem dX6_copies_37 : decode cX6_copies 37 = .ok (.ifCond .le 35, 3) := by decide +kernel
theorem dX6_copies_40 : decode cX6_copies 40 = .ok (.aload_n 0, 1) := by decide +kernel
theorem dX6_copies_41 : decode cX6_copies 41 = .ok (.getfield 47, 3) := by decide +kernel
theorem dX6_copies_44 : decode cX6_copies 44 = .ok (.getfield 137, 3) := by decide +kernel
theorem dX6_copies_47 : decode cX6_copies 47 = .ok (.iload_n 2, 1) := by decide +kernel
theorem dX6_copies_48 : decode cX6_copies 48 = .ok (.aaload, 1) := by decide +kernel
theorem dX6_copies_49 : decode cX6_copies 49 = .ok (.getfield 161, 3) := by decide +kernel
theorem dX6_copies_52 : decode cX6_copies 52 = .ok (.iload_n 3, 1) := by decide +kernel
theorem dX6_copies_53 : decode cX6_copies 53 = .ok (.idiv, 1) := by decide +kernel
theorem dX6_copies_54 : decode cX6_copies 54 = .ok (.istore 4, 2) := by decide +kernel
theorem dX6_copies_56 : decode cX6_copies 56 = .ok (.iload_n 1, 1) := by decide +kernel
theorem dX6_copies_57 : decode cX6_copies 57 = .ok (.ifCond .ge 8, 3) := by decide +kernel
theorem dX6_copies_60 : decode cX6_copies 60 = .ok (.iload 4, 2) := by decide +kernel
theorem dX6_copies_62 : decode cX6_copies 62 = .ok (.goto 9, 3) := by decide +kernel
theorem dX6_copies_65 : decode cX6_copies 65 = .ok (.iload_n 1, 1) := by decide +kernel
theorem dX6_copies_66 : decode cX6_copies 66 = .ok (.iload 4, 2) := by decide +kernel
theorem dX6_copies_68 : decode cX6_copies 68 = .ok (.invokestatic 225, 3) := by decide +kernel
theorem dX6_copies_71 : decode cX6_copies 71 = .ok (.istore_n 1, 1) := by decide +kernel
theorem dX6_copies_72 : decode cX6_copies 72 = .ok (.iinc 2 1, 3) := by decide +kernel
theorem dX6_copies_75 : decode cX6_copies 75 = .ok (.goto (-60), 3) := by decide +kernel
theorem dX6_copies_78 : decode cX6_copies 78 = .ok (.iload_n 1, 1) := by decide +kernel
theorem dX6_copies_79 : decode cX6_copies 79 = .ok (.ireturn, 1) := by decide +kernel
theorem dX6_cellsWith_0 : decode cX6_cellsWith 0 = .ok (.iload_n 1, 1) := by decide +kernel
theorem dX6_cellsWith_1 : decode cX6_cellsWith 1 = .ok (.ifCond .lt 8, 3) := by decide +kernel
theorem dX6_cellsWith_4 : decode cX6_cellsWith 4 = .ok (.iload_n 1, 1) := by decide +kernel
theorem dX6_cellsWith_5 : decode cX6_cellsWith 5 = .ok (.iconst 4, 1) := by decide +kernel
theorem dX6_cellsWith_6 : decode cX6_cellsWith 6 = .ok (.if_icmp .le 13, 3) := by decide +kernel
theorem dX6_cellsWith_9 : decode cX6_cellsWith 9 = .ok (.new 81, 3) := by decide +kernel
theorem dX6_cellsWith_12 : decode cX6_cellsWith 12 = .ok (.dup, 1) := by decide +kernel
theorem dX6_cellsWith_13 : decode cX6_cellsWith 13 = .ok (.ldc 230, 2) := by decide +kernel
theorem dX6_cellsWith_15 : decode cX6_cellsWith 15 = .ok (.invokespecial 85, 3) := by decide +kernel
theorem dX6_cellsWith_18 : decode cX6_cellsWith 18 = .ok (.athrow, 1) := by decide +kernel
theorem dX6_cellsWith_19 : decode cX6_cellsWith 19 = .ok (.aload_n 0, 1) := by decide +kernel
theorem dX6_cellsWith_20 : decode cX6_cellsWith 20 = .ok (.getfield 35, 3) := by decide +kernel
theorem dX6_cellsWith_23 : decode cX6_cellsWith 23 = .ok (.aload_n 0, 1) := by decide +kernel
theorem dX6_cellsWith_24 : decode cX6_cellsWith 24 = .ok (.getfield 47, 3) := by decide +kernel
theorem dX6_cellsWith_27 : decode cX6_cellsWith 27 = .ok (.invokevirtual 88, 3) := by decide +kernel
theorem dX6_cellsWith_30 : decode cX6_cellsWith 30 = .ok (.aload_n 0, 1) := by decide +kernel
theorem dX6_cellsWith_31 : decode cX6_cellsWith 31 = .ok (.getfield 35, 3) := by decide +kernel
theorem dX6_cellsWith_34 : decode cX6_cellsWith 34 = .ok (.aload_n 0, 1) := by decide +kernel
theorem dX6_cellsWith_35 : decode cX6_cellsWith 35 = .ok (.getfield 47, 3) := by decide +kernel
theorem dX6_cellsWith_38 : decode cX6_cellsWith 38 = .ok (.iload_n 1, 1) := by decide +kernel
theorem dX6_cellsWith_39 : decode cX6_cellsWith 39 = .ok (.invokevirtual 105, 3) := by decide +kernel
theorem dX6_cellsWith_42 : decode cX6_cellsWith 42 = .ok (.ireturn, 1) := by decide +kernel
theorem dX6_paint_0 : decode cX6_paint 0 = .ok (.aload_n 0, 1) := by decide +kernel
theorem dX6_paint_1 : decode cX6_paint 1 = .ok (.iload_n 1, 1) := by decide +kernel
theorem dX6_paint_2 : decode cX6_paint 2 = .ok (.iload_n 2, 1) := by decide +kernel
theorem dX6_paint_3 : decode cX6_paint 3 = .ok (.invokevirtual 177, 3) := by decide +kernel
theorem dX6_paint_6 : decode cX6_paint 6 = .ok (.iload_n 3, 1) := by decide +kernel
theorem dX6_paint_7 : decode cX6_paint 7 = .ok (.iconst 1, 1) := by decide +kernel
theorem dX6_paint_8 : decode cX6_paint 8 = .ok (.if_icmp .lt 36, 3) := by decide +kernel
theorem dX6_paint_11 : decode cX6_paint 11 = .ok (.iload 4, 2) := by decide +kernel
theorem dX6_paint_13 : decode cX6_paint 13 = .ok (.iconst 1, 1) := by decide +kernel
theorem dX6_paint_14 : decode cX6_paint 14 = .ok (.if_icmp .lt 30, 3) := by decide +kernel
theorem dX6_paint_17 : decode cX6_paint 17 = .ok (.iload_n 3, 1) := by decide +kernel
theorem dX6_paint_18 : decode cX6_paint 18 = .ok (.aload_n 0, 1) := by decide +kernel
theorem dX6_paint_19 : decode cX6_paint 19 = .ok (.getfield 47, 3) := by decide +kernel
theorem dX6_paint_22 : decode cX6_paint 22 = .ok (.getfield 92, 3) := by decide +kernel
theorem dX6_paint_25 : decode cX6_paint 25 = .ok (.iload_n 1, 1) := by decide +kernel
theorem dX6_paint_26 : decode cX6_paint 26 = .ok (.isub, 1) := by decide +kernel
theorem dX6_paint_27 : decode cX6_paint 27 = .ok (.if_icmp .gt 17, 3) := by decide +kernel
theorem dX6_paint_30 : decode cX6_paint 30 = .ok (.iload 4, 2) := by decide +kernel
theorem dX6_paint_32 : decode cX6_paint 32 = .ok (.aload_n 0, 1) := by decide +kernel
theorem dX6_paint_33 : decode cX6_paint 33 = .ok (.getfield 47, 3) := by decide +kernel
theorem dX6_paint_36 : decode cX6_paint 36 = .ok (.getfield 95, 3) := by decide +kernel
theorem dX6_paint_39 : decode cX6_paint 39 = .ok (.iload_n 2, 1) := by decide +kernel
theorem dX6_paint_40 : decode cX6_paint 40 = .ok (.isub, 1) := by decide +kernel
theorem dX6_paint_41 : decode cX6_paint 41 = .ok (.if_icmp .le 13, 3) := by decide +kernel
theorem dX6_paint_44 : decode cX6_paint 44 = .ok (.new 81, 3) := by decide +kernel
theorem dX6_paint_47 : decode cX6_paint 47 = .ok (.dup, 1) := by decide +kernel
theorem dX6_paint_48 : decode cX6_paint 48 = .ok (.ldc 232, 2) := by decide +kernel
theorem dX6_paint_50 : decode cX6_paint 50 = .ok (.invokespecial 85, 3) := by decide +kernel
theorem dX6_paint_53 : decode cX6_paint 53 = .ok (.athrow, 1) := by decide +kernel
theorem dX6_paint_54 : decode cX6_paint 54 = .ok (.iload 5, 2) := by decide +kernel
theorem dX6_paint_56 : decode cX6_paint 56 = .ok (.ifCond .lt 10, 3) := by decide +kernel
theorem dX6_paint_59 : decode cX6_paint 59 = .ok (.iload 5, 2) := by decide +kernel
theorem dX6_paint_61 : decode cX6_paint 61 = .ok (.bipush 100, 2) := by decide +kernel
theorem dX6_paint_63 : decode cX6_paint 63 = .ok (.if_icmp .le 13, 3) := by decide +kernel
theorem dX6_paint_66 : decode cX6_paint 66 = .ok (.new 81, 3) := by decide +kernel
theorem dX6_paint_69 : decode cX6_paint 69 = .ok (.dup, 1) := by decide +kernel
theorem dX6_paint_70 : decode cX6_paint 70 = .ok (.ldc 234, 2) := by decide +kernel
theorem dX6_paint_72 : decode cX6_paint 72 = .ok (.invokespecial 85, 3) := by decide +kernel
theorem dX6_paint_75 : decode cX6_paint 75 = .ok (.athrow, 1) := by decide +kernel
theorem dX6_paint_76 : decode cX6_paint 76 = .ok (.aload_n 0, 1) := by decide +kernel
theorem dX6_paint_77 : decode cX6_paint 77 = .ok (.invokevirtual 236, 3) := by decide +kernel
theorem dX6_paint_80 : decode cX6_paint 80 = .ok (.iload_n 2, 1) := by decide +kernel
theorem dX6_paint_81 : decode cX6_paint 81 = .ok (.istore 6, 2) := by decide +kernel
theorem dX6_paint_83 : decode cX6_paint 83 = .ok (.iload 6, 2) := by decide +kernel
theorem dX6_paint_85 : decode cX6_paint 85 = .ok (.iload_n 2, 1) := by decide +kernel
theorem dX6_paint_86 : decode cX6_paint 86 = .ok (.iload 4, 2) := by decide +kernel
theorem dX6_paint_88 : decode cX6_paint 88 = .ok (.iadd, 1) := by decide +kernel
theorem dX6_paint_89 : decode cX6_paint 89 = .ok (.if_icmp .ge 47, 3) := by decide +kernel
theorem dX6_paint_92 : decode cX6_paint 92 = .ok (.iload_n 1, 1) := by decide +kernel
theorem dX6_paint_93 : decode cX6_paint 93 = .ok (.istore 7, 2) := by decide +kernel
theorem dX6_paint_95 : decode cX6_paint 95 = .ok (.iload 7, 2) := by decide +kernel
theorem dX6_paint_97 : decode cX6_paint 97 = .ok (.iload_n 1, 1) := by decide +kernel
theorem dX6_paint_98 : decode cX6_paint 98 = .ok (.iload_n 3, 1) := by decide +kernel
theorem dX6_paint_99 : decode cX6_paint 99 = .ok (.iadd, 1) := by decide +kernel
theorem dX6_paint_100 : decode cX6_paint 100 = .ok (.if_icmp .ge 30, 3) := by decide +kernel
theorem dX6_paint_103 : decode cX6_paint 103 = .ok (.aload_n 0, 1) := by decide +kernel
theorem dX6_paint_104 : decode cX6_paint 104 = .ok (.getfield 47, 3) := by decide +kernel
theorem dX6_paint_107 : decode cX6_paint 107 = .ok (.getfield 109, 3) := by decide +kernel
theorem dX6_paint_110 : decode cX6_paint 110 = .ok (.aload_n 0, 1) := by decide +kernel
theorem dX6_paint_111 : decode cX6_paint 111 = .ok (.getfield 47, 3) := by decide +kernel
theorem dX6_paint_114 : decode cX6_paint 114 = .ok (.iload 7, 2) := by decide +kernel
theorem dX6_paint_116 : decode cX6_paint 116 = .ok (.iload 6, 2) := by decide +kernel
theorem dX6_paint_118 : decode cX6_paint 118 = .ok (.invokevirtual 183, 3) := by decide +kernel
theorem dX6_paint_121 : decode cX6_paint 121 = .ok (.iload 5, 2) := by decide +kernel
theorem dX6_paint_123 : decode cX6_paint 123 = .ok (.iastore, 1) := by decide +kernel
theorem dX6_paint_124 : decode cX6_paint 124 = .ok (.iinc 7 1, 3) := by decide +kernel
theorem dX6_paint_127 : decode cX6_paint 127 = .ok (.goto (-32), 3) := by decide +kernel
theorem dX6_paint_130 : decode cX6_paint 130 = .ok (.iinc 6 1, 3) := by decide +kernel
theorem dX6_paint_133 : decode cX6_paint 133 = .ok (.goto (-50), 3) := by decide +kernel
theorem dX6_paint_136 : decode cX6_paint 136 = .ok (.aload_n 0, 1) := by decide +kernel
theorem dX6_paint_137 : decode cX6_paint 137 = .ok (.getfield 35, 3) := by decide +kernel
theorem dX6_paint_140 : decode cX6_paint 140 = .ok (.invokevirtual 75, 3) := by decide +kernel
theorem dX6_paint_143 : decode cX6_paint 143 = .ok (.aload_n 0, 1) := by decide +kernel
theorem dX6_paint_144 : decode cX6_paint 144 = .ok (.getfield 35, 3) := by decide +kernel
theorem dX6_paint_147 : decode cX6_paint 147 = .ok (.aload_n 0, 1) := by decide +kernel
theorem dX6_paint_148 : decode cX6_paint 148 = .ok (.getfield 47, 3) := by decide +kernel
theorem dX6_paint_151 : decode cX6_paint 151 = .ok (.invokevirtual 88, 3) := by decide +kernel
theorem dX6_paint_154 : decode cX6_paint 154 = .ok (.aload_n 0, 1) := by decide +kernel
theorem dX6_paint_155 : decode cX6_paint 155 = .ok (.getfield 35, 3) := by decide +kernel
theorem dX6_paint_158 : decode cX6_paint 158 = .ok (.aload_n 0, 1) := by decide +kernel
theorem dX6_paint_159 : decode cX6_paint 159 = .ok (.getfield 47, 3) := by decide +kernel
theorem dX6_paint_162 : decode cX6_paint 162 = .ok (.invokevirtual 101, 3) := by decide +kernel
theorem dX6_paint_165 : decode cX6_paint 165 = .ok (.ireturn, 1) := by decide +kernel
theorem dX6_turn_0 : decode cX6_turn 0 = .ok (.aload_n 0, 1) := by decide +kernel
theorem dX6_turn_1 : decode cX6_turn 1 = .ok (.iload_n 1, 1) := by decide +kernel
theorem dX6_turn_2 : decode cX6_turn 2 = .ok (.invokevirtual 132, 3) := by decide +kernel
theorem dX6_turn_5 : decode cX6_turn 5 = .ok (.iload_n 2, 1) := by decide +kernel
theorem dX6_turn_6 : decode cX6_turn 6 = .ok (.ifCond .lt 25, 3) := by decide +kernel
theorem dX6_turn_9 : decode cX6_turn 9 = .ok (.iload_n 2, 1) := by decide +kernel
theorem dX6_turn_10 : decode cX6_turn 10 = .ok (.iconst 3, 1) := by decide +kernel
theorem dX6_turn_11 : decode cX6_turn 11 = .ok (.if_icmp .gt 20, 3) := by decide +kernel
theorem dX6_turn_14 : decode cX6_turn 14 = .ok (.iload_n 3, 1) := by decide +kernel
theorem dX6_turn_15 : decode cX6_turn 15 = .ok (.ifCond .lt 16, 3) := by decide +kernel
theorem dX6_turn_18 : decode cX6_turn 18 = .ok (.iload_n 3, 1) := by decide +kernel
theorem dX6_turn_19 : decode cX6_turn 19 = .ok (.iconst 3, 1) := by decide +kernel
theorem dX6_turn_20 : decode cX6_turn 20 = .ok (.if_icmp .gt 11, 3) := by decide +kernel
theorem dX6_turn_23 : decode cX6_turn 23 = .ok (.iload_n 2, 1) := by decide +kernel
theorem dX6_turn_24 : decode cX6_turn 24 = .ok (.ifCond .ne 17, 3) := by decide +kernel
theorem dX6_turn_27 : decode cX6_turn 27 = .ok (.iload_n 3, 1) := by decide +kernel
theorem dX6_turn_28 : decode cX6_turn 28 = .ok (.ifCond .ne 13, 3) := by decide +kernel
theorem dX6_turn_31 : decode cX6_turn 31 = .ok (.new 81, 3) := by decide +kernel
theorem dX6_turn_34 : decode cX6_turn 34 = .ok (.dup, 1) := by decide +kernel
theorem dX6_turn_35 : decode cX6_turn 35 = .ok (.ldc 239, 2) := by decide +kernel
theorem dX6_turn_37 : decode cX6_turn 37 = .ok (.invokespecial 85, 3) := by decide +kernel
theorem dX6_turn_40 : decode cX6_turn 40 = .ok (.athrow, 1) := by decide +kernel
theorem dX6_turn_41 : decode cX6_turn 41 = .ok (.aload_n 0, 1) := by decide +kernel
theorem dX6_turn_42 : decode cX6_turn 42 = .ok (.invokevirtual 236, 3) := by decide +kernel
theorem dX6_turn_45 : decode cX6_turn 45 = .ok (.aload_n 0, 1) := by decide +kernel
theorem dX6_turn_46 : decode cX6_turn 46 = .ok (.getfield 47, 3) := by decide +kernel
theorem dX6_turn_49 : decode cX6_turn 49 = .ok (.getfield 137, 3) := by decide +kernel
theorem dX6_turn_52 : decode cX6_turn 52 = .ok (.iload_n 1, 1) := by decide +kernel
theorem dX6_turn_53 : decode cX6_turn 53 = .ok (.aaload, 1) := by decide +kernel
theorem dX6_turn_54 : decode cX6_turn 54 = .ok (.iload_n 2, 1) := by decide +kernel
theorem dX6_turn_55 : decode cX6_turn 55 = .ok (.putfield 141, 3) := by decide +kernel
theorem dX6_turn_58 : decode cX6_turn 58 = .ok (.aload_n 0, 1) := by decide +kernel
theorem dX6_turn_59 : decode cX6_turn 59 = .ok (.getfield 47, 3) := by decide +kernel
theorem dX6_turn_62 : decode cX6_turn 62 = .ok (.getfield 137, 3) := by decide +kernel
theorem dX6_turn_65 : decode cX6_turn 65 = .ok (.iload_n 1, 1) := by decide +kernel
theorem dX6_turn_66 : decode cX6_turn 66 = .ok (.aaload, 1) := by decide +kernel
theorem dX6_turn_67 : decode cX6_turn 67 = .ok (.iload_n 3, 1) := by decide +kernel
theorem dX6_turn_68 : decode cX6_turn 68 = .ok (.putfield 146, 3) := by decide +kernel
theorem dX6_turn_71 : decode cX6_turn 71 = .ok (.aload_n 0, 1) := by decide +kernel
theorem dX6_turn_72 : decode cX6_turn 72 = .ok (.getfield 47, 3) := by decide +kernel
theorem dX6_turn_75 : decode cX6_turn 75 = .ok (.getfield 137, 3) := by decide +kernel
theorem dX6_turn_78 : decode cX6_turn 78 = .ok (.iload_n 1, 1) := by decide +kernel
theorem dX6_turn_79 : decode cX6_turn 79 = .ok (.aaload, 1) := by decide +kernel
theorem dX6_turn_80 : decode cX6_turn 80 = .ok (.invokevirtual 149, 3) := by decide +kernel
theorem dX6_turn_83 : decode cX6_turn 83 = .ok (.ireturn, 1) := by decide +kernel
theorem dX6_shape_0 : decode cX6_shape 0 = .ok (.aload_n 0, 1) := by decide +kernel
theorem dX6_shape_1 : decode cX6_shape 1 = .ok (.iload_n 1, 1) := by decide +kernel
theorem dX6_shape_2 : decode cX6_shape 2 = .ok (.invokevirtual 132, 3) := by decide +kernel
theorem dX6_shape_5 : decode cX6_shape 5 = .ok (.iload_n 2, 1) := by decide +kernel
theorem dX6_shape_6 : decode cX6_shape 6 = .ok (.ifCond .lt 8, 3) := by decide +kernel
theorem dX6_shape_9 : decode cX6_shape 9 = .ok (.iload_n 2, 1) := by decide +kernel
theorem dX6_shape_10 : decode cX6_shape 10 = .ok (.iconst 3, 1) := by decide +kernel
theorem dX6_shape_11 : decode cX6_shape 11 = .ok (.if_icmp .le 13, 3) := by decide +kernel
theorem dX6_shape_14 : decode cX6_shape 14 = .ok (.new 81, 3) := by decide +kernel
theorem dX6_shape_17 : decode cX6_shape 17 = .ok (.dup, 1) := by decide +kernel
theorem dX6_shape_18 : decode cX6_shape 18 = .ok (.ldc 241, 2) := by decide +kernel
theorem dX6_shape_20 : decode cX6_shape 20 = .ok (.invokespecial 85, 3) := by decide +kernel
theorem dX6_shape_23 : decode cX6_shape 23 = .ok (.athrow, 1) := by decide +kernel
theorem dX6_shape_24 : decode cX6_shape 24 = .ok (.aload_n 0, 1) := by decide +kernel
theorem dX6_shape_25 : decode cX6_shape 25 = .ok (.invokevirtual 236, 3) := by decide +kernel
theorem dX6_shape_28 : decode cX6_shape 28 = .ok (.aload_n 0, 1) := by decide +kernel
theorem dX6_shape_29 : decode cX6_shape 29 = .ok (.getfield 47, 3) := by decide +kernel
theorem dX6_shape_32 : decode cX6_shape 32 = .ok (.getfield 137, 3) := by decide +kernel
theorem dX6_shape_35 : decode cX6_shape 35 = .ok (.iload_n 1, 1) := by decide +kernel
theorem dX6_shape_36 : decode cX6_shape 36 = .ok (.aaload, 1) := by decide +kernel
theorem dX6_shape_37 : decode cX6_shape 37 = .ok (.getfield 152, 3) := by decide +kernel
theorem dX6_shape_40 : decode cX6_shape 40 = .ok (.istore_n 3, 1) := by decide +kernel
theorem dX6_shape_41 : decode cX6_shape 41 = .ok (.aload_n 0, 1) := by decide +kernel
theorem dX6_shape_42 : decode cX6_shape 42 = .ok (.getfield 47, 3) := by decide +kernel
theorem dX6_shape_45 : decode cX6_shape 45 = .ok (.getfield 137, 3) := by decide +kernel
theorem dX6_shape_48 : decode cX6_shape 48 = .ok (.iload_n 1, 1) := by decide +kernel
theorem dX6_shape_49 : decode cX6_shape 49 = .ok (.aaload, 1) := by decide +kernel
theorem dX6_shape_50 : decode cX6_shape 50 = .ok (.iload_n 2, 1) := by decide +kernel
theorem dX6_shape_51 : decode cX6_shape 51 = .ok (.putfield 152, 3) := by decide +kernel
theorem dX6_shape_54 : decode cX6_shape 54 = .ok (.iload_n 3, 1) := by decide +kernel
theorem dX6_shape_55 : decode cX6_shape 55 = .ok (.ireturn, 1) := by decide +kernel
theorem dX6_shift_0 : decode cX6_shift 0 = .ok (.aload_n 0, 1) := by decide +kernel
theorem dX6_shift_1 : decode cX6_shift 1 = .ok (.iload_n 1, 1) := by decide +kernel
theorem dX6_shift_2 : decode cX6_shift 2 = .ok (.invokevirtual 132, 3) := by decide +kernel
theorem dX6_shift_5 : decode cX6_shift 5 = .ok (.iload_n 2, 1) := by decide +kernel
theorem dX6_shift_6 : decode cX6_shift 6 = .ok (.ifCond .lt 19, 3) := by decide +kernel
theorem dX6_shift_9 : decode cX6_shift 9 = .ok (.iload_n 2, 1) := by decide +kernel
theorem dX6_shift_10 : decode cX6_shift 10 = .ok (.bipush 17, 2) := by decide +kernel
theorem dX6_shift_12 : decode cX6_shift 12 = .ok (.if_icmp .gt 13, 3) := by decide +kernel
theorem dX6_shift_15 : decode cX6_shift 15 = .ok (.iload_n 3, 1) := by decide +kernel
theorem dX6_shift_16 : decode cX6_shift 16 = .ok (.ifCond .lt 9, 3) := by decide +kernel
theorem dX6_shift_19 : decode cX6_shift 19 = .ok (.iload_n 3, 1) := by decide +kernel
theorem dX6_shift_20 : decode cX6_shift 20 = .ok (.bipush 17, 2) := by decide +kernel
theorem dX6_shift_22 : decode cX6_shift 22 = .ok (.if_icmp .le 13, 3) := by decide +kernel
theorem dX6_shift_25 : decode cX6_shift 25 = .ok (.new 81, 3) := by decide +kernel
theorem dX6_shift_28 : decode cX6_shift 28 = .ok (.dup, 1) := by decide +kernel
theorem dX6_shift_29 : decode cX6_shift 29 = .ok (.ldc 243, 2) := by decide +kernel
theorem dX6_shift_31 : decode cX6_shift 31 = .ok (.invokespecial 85, 3) := by decide +kernel
theorem dX6_shift_34 : decode cX6_shift 34 = .ok (.athrow, 1) := by decide +kernel
theorem dX6_shift_35 : decode cX6_shift 35 = .ok (.aload_n 0, 1) := by decide +kernel
theorem dX6_shift_36 : decode cX6_shift 36 = .ok (.invokevirtual 236, 3) := by decide +kernel
theorem dX6_shift_39 : decode cX6_shift 39 = .ok (.aload_n 0, 1) := by decide +kernel
theorem dX6_shift_40 : decode cX6_shift 40 = .ok (.getfield 47, 3) := by decide +kernel
theorem dX6_shift_43 : decode cX6_shift 43 = .ok (.getfield 137, 3) := by decide +kernel
theorem dX6_shift_46 : decode cX6_shift 46 = .ok (.iload_n 1, 1) := by decide +kernel
theorem dX6_shift_47 : decode cX6_shift 47 = .ok (.aaload, 1) := by decide +kernel
theorem dX6_shift_48 : decode cX6_shift 48 = .ok (.iload_n 2, 1) := by decide +kernel
theorem dX6_shift_49 : decode cX6_shift 49 = .ok (.putfield 155, 3) := by decide +kernel
theorem dX6_shift_52 : decode cX6_shift 52 = .ok (.aload_n 0, 1) := by decide +kernel
theorem dX6_shift_53 : decode cX6_shift 53 = .ok (.getfield 47, 3) := by decide +kernel
theorem dX6_shift_56 : decode cX6_shift 56 = .ok (.getfield 137, 3) := by decide +kernel
theorem dX6_shift_59 : decode cX6_shift 59 = .ok (.iload_n 1, 1) := by decide +kernel
theorem dX6_shift_60 : decode cX6_shift 60 = .ok (.aaload, 1) := by decide +kernel
theorem dX6_shift_61 : decode cX6_shift 61 = .ok (.iload_n 3, 1) := by decide +kernel
theorem dX6_shift_62 : decode cX6_shift 62 = .ok (.putfield 158, 3) := by decide +kernel
theorem dX6_shift_65 : decode cX6_shift 65 = .ok (.aload_n 0, 1) := by decide +kernel
theorem dX6_shift_66 : decode cX6_shift 66 = .ok (.getfield 35, 3) := by decide +kernel
theorem dX6_shift_69 : decode cX6_shift 69 = .ok (.aload_n 0, 1) := by decide +kernel
theorem dX6_shift_70 : decode cX6_shift 70 = .ok (.getfield 47, 3) := by decide +kernel
theorem dX6_shift_73 : decode cX6_shift 73 = .ok (.invokevirtual 88, 3) := by decide +kernel
theorem dX6_shift_76 : decode cX6_shift 76 = .ok (.aload_n 0, 1) := by decide +kernel
theorem dX6_shift_77 : decode cX6_shift 77 = .ok (.getfield 35, 3) := by decide +kernel
theorem dX6_shift_80 : decode cX6_shift 80 = .ok (.aload_n 0, 1) := by decide +kernel
theorem dX6_shift_81 : decode cX6_shift 81 = .ok (.getfield 47, 3) := by decide +kernel
theorem dX6_shift_84 : decode cX6_shift 84 = .ok (.invokevirtual 101, 3) := by decide +kernel
theorem dX6_shift_87 : decode cX6_shift 87 = .ok (.ireturn, 1) := by decide +kernel
theorem dX6_limit_0 : decode cX6_limit 0 = .ok (.iload_n 1, 1) := by decide +kernel
theorem dX6_limit_1 : decode cX6_limit 1 = .ok (.iconst 1, 1) := by decide +kernel
theorem dX6_limit_2 : decode cX6_limit 2 = .ok (.if_icmp .lt 8, 3) := by decide +kernel
theorem dX6_limit_5 : decode cX6_limit 5 = .ok (.iload_n 1, 1) := by decide +kernel
theorem dX6_limit_6 : decode cX6_limit 6 = .ok (.iconst 4, 1) := by decide +kernel
theorem dX6_limit_7 : decode cX6_limit 7 = .ok (.if_icmp .le 13, 3) := by decide +kernel
theorem dX6_limit_10 : decode cX6_limit 10 = .ok (.new 81, 3) := by decide +kernel
theorem dX6_limit_13 : decode cX6_limit 13 = .ok (.dup, 1) := by decide +kernel
theorem dX6_limit_14 : decode cX6_limit 14 = .ok (.ldc 245, 2) := by decide +kernel
theorem dX6_limit_16 : decode cX6_limit 16 = .ok (.invokespecial 85, 3) := by decide +kernel
theorem dX6_limit_19 : decode cX6_limit 19 = .ok (.athrow, 1) := by decide +kernel
theorem dX6_limit_20 : decode cX6_limit 20 = .ok (.aload_n 0, 1) := by decide +kernel
theorem dX6_limit_21 : decode cX6_limit 21 = .ok (.invokevirtual 236, 3) := by decide +kernel
theorem dX6_limit_24 : decode cX6_limit 24 = .ok (.aload_n 0, 1) := by decide +kernel
theorem dX6_limit_25 : decode cX6_limit 25 = .ok (.getfield 47, 3) := by decide +kernel
theorem dX6_limit_28 : decode cX6_limit 28 = .ok (.getfield 98, 3) := by decide +kernel
theorem dX6_limit_31 : decode cX6_limit 31 = .ok (.istore_n 2, 1) := by decide +kernel
theorem dX6_limit_32 : decode cX6_limit 32 = .ok (.aload_n 0, 1) := by decide +kernel
theorem dX6_limit_33 : decode cX6_limit 33 = .ok (.getfield 47, 3) := by decide +kernel
theorem dX6_limit_36 : decode cX6_limit 36 = .ok (.iload_n 1, 1) := by decide +kernel
theorem dX6_limit_37 : decode cX6_limit 37 = .ok (.putfield 98, 3) := by decide +kernel
theorem dX6_limit_40 : decode cX6_limit 40 = .ok (.iload_n 2, 1) := by decide +kernel
theorem dX6_limit_41 : decode cX6_limit 41 = .ok (.ireturn, 1) := by decide +kernel
theorem dX6_clean_0 : decode cX6_clean 0 = .ok (.aload_n 0, 1) := by decide +kernel
theorem dX6_clean_1 : decode cX6_clean 1 = .ok (.iload_n 1, 1) := by decide +kernel
theorem dX6_clean_2 : decode cX6_clean 2 = .ok (.invokevirtual 132, 3) := by decide +kernel
theorem dX6_clean_5 : decode cX6_clean 5 = .ok (.aload_n 0, 1) := by decide +kernel
theorem dX6_clean_6 : decode cX6_clean 6 = .ok (.getfield 35, 3) := by decide +kernel
theorem dX6_clean_9 : decode cX6_clean 9 = .ok (.aload_n 0, 1) := by decide +kernel
theorem dX6_clean_10 : decode cX6_clean 10 = .ok (.getfield 47, 3) := by decide +kernel
theorem dX6_clean_13 : decode cX6_clean 13 = .ok (.invokevirtual 88, 3) := by decide +kernel
theorem dX6_clean_16 : decode cX6_clean 16 = .ok (.aload_n 0, 1) := by decide +kernel
theorem dX6_clean_17 : decode cX6_clean 17 = .ok (.invokevirtual 236, 3) := by decide +kernel
theorem dX6_clean_20 : decode cX6_clean 20 = .ok (.iconst 0, 1) := by decide +kernel
theorem dX6_clean_21 : decode cX6_clean 21 = .ok (.istore_n 2, 1) := by decide +kernel
theorem dX6_clean_22 : decode cX6_clean 22 = .ok (.iconst 0, 1) := by decide +kernel
theorem dX6_clean_23 : decode cX6_clean 23 = .ok (.istore_n 3, 1) := by decide +kernel
theorem dX6_clean_24 : decode cX6_clean 24 = .ok (.iload_n 3, 1) := by decide +kernel
theorem dX6_clean_25 : decode cX6_clean 25 = .ok (.aload_n 0, 1) := by decide +kernel
theorem dX6_clean_26 : decode cX6_clean 26 = .ok (.getfield 47, 3) := by decide +kernel
theorem dX6_clean_29 : decode cX6_clean 29 = .ok (.getfield 95, 3) := by decide +kernel
theorem dX6_clean_32 : decode cX6_clean 32 = .ok (.if_icmp .ge 75, 3) := by decide +kernel
theorem dX6_clean_35 : decode cX6_clean 35 = .ok (.iconst 0, 1) := by decide +kernel
theorem dX6_clean_36 : decode cX6_clean 36 = .ok (.istore 4, 2) := by decide +kernel
theorem dX6_clean_38 : decode cX6_clean 38 = .ok (.iload 4, 2) := by decide +kernel
theorem dX6_clean_40 : decode cX6_clean 40 = .ok (.aload_n 0, 1) := by decide +kernel
theorem dX6_clean_41 : decode cX6_clean 41 = .ok (.getfield 47, 3) := by decide +kernel
theorem dX6_clean_44 : decode cX6_clean 44 = .ok (.getfield 92, 3) := by decide +kernel
theorem dX6_clean_47 : decode cX6_clean 47 = .ok (.if_icmp .ge 54, 3) := by decide +kernel
theorem dX6_clean_50 : decode cX6_clean 50 = .ok (.aload_n 0, 1) := by decide +kernel
theorem dX6_clean_51 : decode cX6_clean 51 = .ok (.getfield 35, 3) := by decide +kernel
theorem dX6_clean_54 : decode cX6_clean 54 = .ok (.aload_n 0, 1) := by decide +kernel
theorem dX6_clean_55 : decode cX6_clean 55 = .ok (.getfield 47, 3) := by decide +kernel
theorem dX6_clean_58 : decode cX6_clean 58 = .ok (.iload_n 1, 1) := by decide +kernel
theorem dX6_clean_59 : decode cX6_clean 59 = .ok (.iload 4, 2) := by decide +kernel
theorem dX6_clean_61 : decode cX6_clean 61 = .ok (.iload_n 3, 1) := by decide +kernel
theorem dX6_clean_62 : decode cX6_clean 62 = .ok (.invokevirtual 194, 3) := by decide +kernel
theorem dX6_clean_65 : decode cX6_clean 65 = .ok (.ifCond .eq 30, 3) := by decide +kernel
theorem dX6_clean_68 : decode cX6_clean 68 = .ok (.aload_n 0, 1) := by decide +kernel
theorem dX6_clean_69 : decode cX6_clean 69 = .ok (.getfield 47, 3) := by decide +kernel
theorem dX6_clean_72 : decode cX6_clean 72 = .ok (.getfield 247, 3) := by decide +kernel
theorem dX6_clean_75 : decode cX6_clean 75 = .ok (.aload_n 0, 1) := by decide +kernel
theorem dX6_clean_76 : decode cX6_clean 76 = .ok (.getfield 47, 3) := by decide +kernel
theorem dX6_clean_79 : decode cX6_clean 79 = .ok (.iload 4, 2) := by decide +kernel
theorem dX6_clean_81 : decode cX6_clean 81 = .ok (.iload_n 3, 1) := by decide +kernel
theorem dX6_clean_82 : decode cX6_clean 82 = .ok (.invokevirtual 183, 3) := by decide +kernel
theorem dX6_clean_85 : decode cX6_clean 85 = .ok (.dup2, 1) := by decide +kernel
theorem dX6_clean_86 : decode cX6_clean 86 = .ok (.iaload, 1) := by decide +kernel
theorem dX6_clean_87 : decode cX6_clean 87 = .ok (.iconst 1, 1) := by decide +kernel
theorem dX6_clean_88 : decode cX6_clean 88 = .ok (.iload_n 1, 1) := by decide +kernel
theorem dX6_clean_89 : decode cX6_clean 89 = .ok (.ishl, 1) := by decide +kernel
theorem dX6_clean_90 : decode cX6_clean 90 = .ok (.ior, 1) := by decide +kernel
theorem dX6_clean_91 : decode cX6_clean 91 = .ok (.iastore, 1) := by decide +kernel
theorem dX6_clean_92 : decode cX6_clean 92 = .ok (.iinc 2 1, 3) := by decide +kernel
theorem dX6_clean_95 : decode cX6_clean 95 = .ok (.iinc 4 1, 3) := by decide +kernel
theorem dX6_clean_98 : decode cX6_clean 98 = .ok (.goto (-60), 3) := by decide +kernel
theorem dX6_clean_101 : decode cX6_clean 101 = .ok (.iinc 3 1, 3) := by decide +kernel
theorem dX6_clean_104 : decode cX6_clean 104 = .ok (.goto (-80), 3) := by decide +kernel
theorem dX6_clean_107 : decode cX6_clean 107 = .ok (.iload_n 2, 1) := by decide +kernel
theorem dX6_clean_108 : decode cX6_clean 108 = .ok (.ireturn, 1) := by decide +kernel
theorem dX6_dirty_0 : decode cX6_dirty 0 = .ok (.aload_n 0, 1) := by decide +kernel
theorem dX6_dirty_1 : decode cX6_dirty 1 = .ok (.iload_n 1, 1) := by decide +kernel
theorem dX6_dirty_2 : decode cX6_dirty 2 = .ok (.invokevirtual 132, 3) := by decide +kernel
theorem dX6_dirty_5 : decode cX6_dirty 5 = .ok (.aload_n 0, 1) := by decide +kernel
theorem dX6_dirty_6 : decode cX6_dirty 6 = .ok (.invokevirtual 236, 3) := by decide +kernel
theorem dX6_dirty_9 : decode cX6_dirty 9 = .ok (.iconst 0, 1) := by decide +kernel
theorem dX6_dirty_10 : decode cX6_dirty 10 = .ok (.istore_n 2, 1) := by decide +kernel
theorem dX6_dirty_11 : decode cX6_dirty 11 = .ok (.iconst 0, 1) := by decide +kernel
theorem dX6_dirty_12 : decode cX6_dirty 12 = .ok (.istore_n 3, 1) := by decide +kernel
theorem dX6_dirty_13 : decode cX6_dirty 13 = .ok (.iload_n 3, 1) := by decide +kernel
theorem dX6_dirty_14 : decode cX6_dirty 14 = .ok (.aload_n 0, 1) := by decide +kernel
theorem dX6_dirty_15 : decode cX6_dirty 15 = .ok (.getfield 47, 3) := by decide +kernel
theorem dX6_dirty_18 : decode cX6_dirty 18 = .ok (.invokevirtual 113, 3) := by decide +kernel
theorem dX6_dirty_21 : decode cX6_dirty 21 = .ok (.if_icmp .ge 41, 3) := by decide +kernel
theorem dX6_dirty_24 : decode cX6_dirty 24 = .ok (.aload_n 0, 1) := by decide +kernel
theorem dX6_dirty_25 : decode cX6_dirty 25 = .ok (.getfield 47, 3) := by decide +kernel
theorem dX6_dirty_28 : decode cX6_dirty 28 = .ok (.iload_n 1, 1) := by decide +kernel
theorem dX6_dirty_29 : decode cX6_dirty 29 = .ok (.iload_n 3, 1) := by decide +kernel
theorem dX6_dirty_30 : decode cX6_dirty 30 = .ok (.invokevirtual 198, 3) := by decide +kernel
theorem dX6_dirty_33 : decode cX6_dirty 33 = .ok (.ifCond .eq 23, 3) := by decide +kernel
theorem dX6_dirty_36 : decode cX6_dirty 36 = .ok (.aload_n 0, 1) := by decide +kernel
theorem dX6_dirty_37 : decode cX6_dirty 37 = .ok (.getfield 47, 3) := by decide +kernel
theorem dX6_dirty_40 : decode cX6_dirty 40 = .ok (.getfield 247, 3) := by decide +kernel
theorem dX6_dirty_43 : decode cX6_dirty 43 = .ok (.iload_n 3, 1) := by decide +kernel
theorem dX6_dirty_44 : decode cX6_dirty 44 = .ok (.dup2, 1) := by decide +kernel
theorem dX6_dirty_45 : decode cX6_dirty 45 = .ok (.iaload, 1) := by decide +kernel
theorem dX6_dirty_46 : decode cX6_dirty 46 = .ok (.iconst 1, 1) := by decide +kernel
theorem dX6_dirty_47 : decode cX6_dirty 47 = .ok (.iload_n 1, 1) := by decide +kernel
theorem dX6_dirty_48 : decode cX6_dirty 48 = .ok (.ishl, 1) := by decide +kernel
theorem dX6_dirty_49 : decode cX6_dirty 49 = .ok (.iconst (-1), 1) := by decide +kernel
theorem dX6_dirty_50 : decode cX6_dirty 50 = .ok (.ixor, 1) := by decide +kernel
theorem dX6_dirty_51 : decode cX6_dirty 51 = .ok (.iand, 1) := by decide +kernel
theorem dX6_dirty_52 : decode cX6_dirty 52 = .ok (.iastore, 1) := by decide +kernel
theorem dX6_dirty_53 : decode cX6_dirty 53 = .ok (.iinc 2 1, 3) := by decide +kernel
theorem dX6_dirty_56 : decode cX6_dirty 56 = .ok (.iinc 3 1, 3) := by decide +kernel
theorem dX6_dirty_59 : decode cX6_dirty 59 = .ok (.goto (-46), 3) := by decide +kernel
theorem dX6_dirty_62 : decode cX6_dirty 62 = .ok (.iload_n 2, 1) := by decide +kernel
theorem dX6_dirty_63 : decode cX6_dirty 63 = .ok (.ireturn, 1) := by decide +kernel
theorem dX6_fill_0 : decode cX6_fill 0 = .ok (.aload_n 0, 1) := by decide +kernel
theorem dX6_fill_1 : decode cX6_fill 1 = .ok (.iload_n 1, 1) := by decide +kernel
theorem dX6_fill_2 : decode cX6_fill 2 = .ok (.invokevirtual 132, 3) := by decide +kernel
theorem dX6_fill_5 : decode cX6_fill 5 = .ok (.iload_n 2, 1) := by decide +kernel
theorem dX6_fill_6 : decode cX6_fill 6 = .ok (.iconst 1, 1) := by decide +kernel
theorem dX6_fill_7 : decode cX6_fill 7 = .ok (.if_icmp .lt 10, 3) := by decide +kernel
theorem dX6_fill_10 : decode cX6_fill 10 = .ok (.iload_n 2, 1) := by decide +kernel
theorem dX6_fill_11 : decode cX6_fill 11 = .ok (.sipush 9999, 3) := by decide +kernel
theorem dX6_fill_14 : decode cX6_fill 14 = .ok (.if_icmp .le 13, 3) := by decide +kernel
theorem dX6_fill_17 : decode cX6_fill 17 = .ok (.new 81, 3) := by decide +kernel
theorem dX6_fill_20 : decode cX6_fill 20 = .ok (.dup, 1) := by decide +kernel
theorem dX6_fill_21 : decode cX6_fill 21 = .ok (.ldc 250, 2) := by decide +kernel
theorem dX6_fill_23 : decode cX6_fill 23 = .ok (.invokespecial 85, 3) := by decide +kernel
theorem dX6_fill_26 : decode cX6_fill 26 = .ok (.athrow, 1) := by decide +kernel
theorem dX6_fill_27 : decode cX6_fill 27 = .ok (.aload_n 0, 1) := by decide +kernel
theorem dX6_fill_28 : decode cX6_fill 28 = .ok (.invokevirtual 236, 3) := by decide +kernel
theorem dX6_fill_31 : decode cX6_fill 31 = .ok (.aload_n 0, 1) := by decide +kernel
theorem dX6_fill_32 : decode cX6_fill 32 = .ok (.getfield 47, 3) := by decide +kernel
theorem dX6_fill_35 : decode cX6_fill 35 = .ok (.getfield 137, 3) := by decide +kernel
theorem dX6_fill_38 : decode cX6_fill 38 = .ok (.iload_n 1, 1) := by decide +kernel
theorem dX6_fill_39 : decode cX6_fill 39 = .ok (.aaload, 1) := by decide +kernel
theorem dX6_fill_40 : decode cX6_fill 40 = .ok (.astore_n 3, 1) := by decide +kernel
theorem dX6_fill_41 : decode cX6_fill 41 = .ok (.aload_n 3, 1) := by decide +kernel
theorem dX6_fill_42 : decode cX6_fill 42 = .ok (.aload_n 3, 1) := by decide +kernel
theorem dX6_fill_43 : decode cX6_fill 43 = .ok (.getfield 161, 3) := by decide +kernel
theorem dX6_fill_46 : decode cX6_fill 46 = .ok (.iload_n 2, 1) := by decide +kernel
theorem dX6_fill_47 : decode cX6_fill 47 = .ok (.iadd, 1) := by decide +kernel
theorem dX6_fill_48 : decode cX6_fill 48 = .ok (.ldc 252, 2) := by decide +kernel
theorem dX6_fill_50 : decode cX6_fill 50 = .ok (.invokestatic 225, 3) := by decide +kernel
theorem dX6_fill_53 : decode cX6_fill 53 = .ok (.putfield 161, 3) := by decide +kernel
theorem dX6_fill_56 : decode cX6_fill 56 = .ok (.aload_n 3, 1) := by decide +kernel
theorem dX6_fill_57 : decode cX6_fill 57 = .ok (.getfield 161, 3) := by decide +kernel
theorem dX6_fill_60 : decode cX6_fill 60 = .ok (.ireturn, 1) := by decide +kernel
theorem dX6_press_0 : decode cX6_press 0 = .ok (.iload_n 1, 1) := by decide +kernel
theorem dX6_press_1 : decode cX6_press 1 = .ok (.iconst 1, 1) := by decide +kernel
theorem dX6_press_2 : decode cX6_press 2 = .ok (.if_icmp .lt 10, 3) := by decide +kernel
theorem dX6_press_5 : decode cX6_press 5 = .ok (.iload_n 1, 1) := by decide +kernel
theorem dX6_press_6 : decode cX6_press 6 = .ok (.sipush 1000, 3) := by decide +kernel
theorem dX6_press_9 : decode cX6_press 9 = .ok (.if_icmp .le 13, 3) := by decide +kernel
theorem dX6_press_12 : decode cX6_press 12 = .ok (.new 81, 3) := by decide +kernel
theorem dX6_press_15 : decode cX6_press 15 = .ok (.dup, 1) := by decide +kernel
theorem dX6_press_16 : decode cX6_press 16 = .ok (.ldc 253, 2) := by decide +kernel
theorem dX6_press_18 : decode cX6_press 18 = .ok (.invokespecial 85, 3) := by decide +kernel
theorem dX6_press_21 : decode cX6_press 21 = .ok (.athrow, 1) := by decide +kernel
theorem dX6_press_22 : decode cX6_press 22 = .ok (.aload_n 0, 1) := by decide +kernel
theorem dX6_press_23 : decode cX6_press 23 = .ok (.invokevirtual 255, 3) := by decide +kernel
theorem dX6_press_26 : decode cX6_press 26 = .ok (.istore_n 2, 1) := by decide +kernel
theorem dX6_press_27 : decode cX6_press 27 = .ok (.iload_n 2, 1) := by decide +kernel
theorem dX6_press_28 : decode cX6_press 28 = .ok (.ifCond .ge 14, 3) := by decide +kernel
theorem dX6_press_31 : decode cX6_press 31 = .ok (.new 258, 3) := by decide +kernel
theorem dX6_press_34 : decode cX6_press 34 = .ok (.dup, 1) := by decide +kernel
theorem dX6_press_35 : decode cX6_press 35 = .ok (.ldc_w 260, 3) := by decide +kernel
theorem dX6_press_38 : decode cX6_press 38 = .ok (.invokespecial 262, 3) := by decide +kernel
theorem dX6_press_41 : decode cX6_press 41 = .ok (.athrow, 1) := by decide +kernel
theorem dX6_press_42 : decode cX6_press 42 = .ok (.iload_n 1, 1) := by decide +kernel
theorem dX6_press_43 : decode cX6_press 43 = .ok (.iload_n 2, 1) := by decide +kernel
theorem dX6_press_44 : decode cX6_press 44 = .ok (.invokestatic 225, 3) := by decide +kernel
theorem dX6_press_47 : decode cX6_press 47 = .ok (.istore_n 3, 1) := by decide +kernel
theorem dX6_press_48 : decode cX6_press 48 = .ok (.aload_n 0, 1) := by decide +kernel
theorem dX6_press_49 : decode cX6_press 49 = .ok (.invokevirtual 236, 3) := by decide +kernel
theorem dX6_press_52 : decode cX6_press 52 = .ok (.iconst 0, 1) := by decide +kernel
theorem dX6_press_53 : decode cX6_press 53 = .ok (.istore 4, 2) := by decide +kernel
theorem dX6_press_55 : decode cX6_press 55 = .ok (.iload 4, 2) := by decide +kernel
theorem dX6_press_57 : decode cX6_press 57 = .ok (.aload_n 0, 1) := by decide +kernel
theorem dX6_press_58 : decode cX6_press 58 = .ok (.getfield 47, 3) := by decide +kernel
theorem dX6_press_61 : decode cX6_press 61 = .ok (.getfield 78, 3) := by decide +kernel
theorem dX6_press_64 : decode cX6_press 64 = .ok (.if_icmp .ge 39, 3) := by decide +kernel
theorem dX6_press_67 : decode cX6_press 67 = .ok (.aload_n 0, 1) := by decide +kernel
theorem dX6_press_68 : decode cX6_press 68 = .ok (.getfield 47, 3) := by decide +kernel
theorem dX6_press_71 : decode cX6_press 71 = .ok (.getfield 137, 3) := by decide +kernel
theorem dX6_press_74 : decode cX6_press 74 = .ok (.iload 4, 2) := by decide +kernel
theorem dX6_press_76 : decode cX6_press 76 = .ok (.aaload, 1) := by decide +kernel
theorem dX6_press_77 : decode cX6_press 77 = .ok (.dup, 1) := by decide +kernel
theorem dX6_press_78 : decode cX6_press 78 = .ok (.getfield 161, 3) := by decide +kernel
theorem dX6_press_81 : decode cX6_press 81 = .ok (.iload_n 3, 1) := by decide +kernel
theorem dX6_press_82 : decode cX6_press 82 = .ok (.aload_n 0, 1) := by decide +kernel
theorem dX6_press_83 : decode cX6_press 83 = .ok (.getfield 35, 3) := by decide +kernel
theorem dX6_press_86 : decode cX6_press 86 = .ok (.getfield 164, 3) := by decide +kernel
theorem dX6_press_89 : decode cX6_press 89 = .ok (.iload 4, 2) := by decide +kernel
theorem dX6_press_91 : decode cX6_press 91 = .ok (.iaload, 1) := by decide +kernel
theorem dX6_press_92 : decode cX6_press 92 = .ok (.imul, 1) := by decide +kernel
theorem dX6_press_93 : decode cX6_press 93 = .ok (.isub, 1) := by decide +kernel
theorem dX6_press_94 : decode cX6_press 94 = .ok (.putfield 161, 3) := by decide +kernel
theorem dX6_press_97 : decode cX6_press 97 = .ok (.iinc 4 1, 3) := by decide +kernel
theorem dX6_press_100 : decode cX6_press 100 = .ok (.goto (-45), 3) := by decide +kernel
theorem dX6_press_103 : decode cX6_press 103 = .ok (.iload_n 3, 1) := by decide +kernel
theorem dX6_press_104 : decode cX6_press 104 = .ok (.ireturn, 1) := by decide +kernel
theorem dX6_undo_0 : decode cX6_undo 0 = .ok (.aload_n 0, 1) := by decide +kernel
theorem dX6_undo_1 : decode cX6_undo 1 = .ok (.getfield 29, 3) := by decide +kernel
theorem dX6_undo_4 : decode cX6_undo 4 = .ok (.iconst 1, 1) := by decide +kernel
theorem dX6_undo_5 : decode cX6_undo 5 = .ok (.if_icmp .ge 5, 3) := by decide +kernel
theorem dX6_undo_8 : decode cX6_undo 8 = .ok (.iconst (-1), 1) := by decide +kernel
theorem dX6_undo_9 : decode cX6_undo 9 = .ok (.ireturn, 1) := by decide +kernel
theorem dX6_undo_10 : decode cX6_undo 10 = .ok (.aload_n 0, 1) := by decide +kernel
theorem dX6_undo_11 : decode cX6_undo 11 = .ok (.dup, 1) := by decide +kernel
theorem dX6_undo_12 : decode cX6_undo 12 = .ok (.getfield 29, 3) := by decide +kernel
theorem dX6_undo_15 : decode cX6_undo 15 = .ok (.iconst 1, 1) := by decide +kernel
theorem dX6_undo_16 : decode cX6_undo 16 = .ok (.isub, 1) := by decide +kernel
theorem dX6_undo_17 : decode cX6_undo 17 = .ok (.putfield 29, 3) := by decide +kernel
theorem dX6_undo_20 : decode cX6_undo 20 = .ok (.aload_n 0, 1) := by decide +kernel
theorem dX6_undo_21 : decode cX6_undo 21 = .ok (.aload_n 0, 1) := by decide +kernel
theorem dX6_undo_22 : decode cX6_undo 22 = .ok (.getfield 26, 3) := by decide +kernel
theorem dX6_undo_25 : decode cX6_undo 25 = .ok (.bipush 10, 2) := by decide +kernel
theorem dX6_undo_27 : decode cX6_undo 27 = .ok (.iadd, 1) := by decide +kernel
theorem dX6_undo_28 : decode cX6_undo 28 = .ok (.iconst 1, 1) := by decide +kernel
theorem dX6_undo_29 : decode cX6_undo 29 = .ok (.isub, 1) := by decide +kernel
theorem dX6_undo_30 : decode cX6_undo 30 = .ok (.bipush 10, 2) := by decide +kernel
theorem dX6_undo_32 : decode cX6_undo 32 = .ok (.irem, 1) := by decide +kernel
theorem dX6_undo_33 : decode cX6_undo 33 = .ok (.putfield 26, 3) := by decide +kernel
theorem dX6_undo_36 : decode cX6_undo 36 = .ok (.aload_n 0, 1) := by decide +kernel
theorem dX6_undo_37 : decode cX6_undo 37 = .ok (.aload_n 0, 1) := by decide +kernel
theorem dX6_undo_38 : decode cX6_undo 38 = .ok (.getfield 22, 3) := by decide +kernel
theorem dX6_undo_41 : decode cX6_undo 41 = .ok (.aload_n 0, 1) := by decide +kernel
theorem dX6_undo_42 : decode cX6_undo 42 = .ok (.getfield 26, 3) := by decide +kernel
theorem dX6_undo_45 : decode cX6_undo 45 = .ok (.aaload, 1) := by decide +kernel
theorem dX6_undo_46 : decode cX6_undo 46 = .ok (.putfield 47, 3) := by decide +kernel
theorem dX6_undo_49 : decode cX6_undo 49 = .ok (.aload_n 0, 1) := by decide +kernel
theorem dX6_undo_50 : decode cX6_undo 50 = .ok (.getfield 35, 3) := by decide +kernel
theorem dX6_undo_53 : decode cX6_undo 53 = .ok (.invokevirtual 75, 3) := by decide +kernel
theorem dX6_undo_56 : decode cX6_undo 56 = .ok (.aload_n 0, 1) := by decide +kernel
theorem dX6_undo_57 : decode cX6_undo 57 = .ok (.getfield 29, 3) := by decide +kernel
theorem dX6_undo_60 : decode cX6_undo 60 = .ok (.ireturn, 1) := by decide +kernel
theorem dX6_checksum_0 : decode cX6_checksum 0 = .ok (.lconst 0, 1) := by decide +kernel
theorem dX6_checksum_1 : decode cX6_checksum 1 = .ok (.lstore_n 1, 1) := by decide +kernel
theorem dX6_checksum_2 : decode cX6_checksum 2 = .ok (.iconst 0, 1) := by decide +kernel
theorem dX6_checksum_3 : decode cX6_checksum 3 = .ok (.istore_n 3, 1) := by decide +kernel
theorem dX6_checksum_4 : decode cX6_checksum 4 = .ok (.iload_n 3, 1) := by decide +kernel
theorem dX6_checksum_5 : decode cX6_checksum 5 = .ok (.bipush 8, 2) := by decide +kernel
theorem dX6_checksum_7 : decode cX6_checksum 7 = .ok (.if_icmp .gt 22, 3) := by decide +kernel
theorem dX6_checksum_10 : decode cX6_checksum 10 = .ok (.ldc2_w 263, 3) := by decide +kernel
theorem dX6_checksum_13 : decode cX6_checksum 13 = .ok (.lload_n 1, 1) := by decide +kernel
theorem dX6_checksum_14 : decode cX6_checksum 14 = .ok (.lmul, 1) := by decide +kernel
theorem dX6_checksum_15 : decode cX6_checksum 15 = .ok (.aload_n 0, 1) := by decide +kernel
theorem dX6_checksum_16 : decode cX6_checksum 16 = .ok (.iload_n 3, 1) := by decide +kernel
theorem dX6_checksum_17 : decode cX6_checksum 17 = .ok (.invokevirtual 265, 3) := by decide +kernel
theorem dX6_checksum_20 : decode cX6_checksum 20 = .ok (.i2l, 1) := by decide +kernel
theorem dX6_checksum_21 : decode cX6_checksum 21 = .ok (.ladd, 1) := by decide +kernel
theorem dX6_checksum_22 : decode cX6_checksum 22 = .ok (.lstore_n 1, 1) := by decide +kernel
theorem dX6_checksum_23 : decode cX6_checksum 23 = .ok (.iinc 3 1, 3) := by decide +kernel
theorem dX6_checksum_26 : decode cX6_checksum 26 = .ok (.goto (-22), 3) := by decide +kernel
theorem dX6_checksum_29 : decode cX6_checksum 29 = .ok (.iconst 0, 1) := by decide +kernel
theorem dX6_checksum_30 : decode cX6_checksum 30 = .ok (.istore_n 3, 1) := by decide +kernel
theorem dX6_checksum_31 : decode cX6_checksum 31 = .ok (.iload_n 3, 1) := by decide +kernel
theorem dX6_checksum_32 : decode cX6_checksum 32 = .ok (.aload_n 0, 1) := by decide +kernel
theorem dX6_checksum_33 : decode cX6_checksum 33 = .ok (.getfield 47, 3) := by decide +kernel
theorem dX6_checksum_36 : decode cX6_checksum 36 = .ok (.getfield 78, 3) := by decide +kernel
theorem dX6_checksum_39 : decode cX6_checksum 39 = .ok (.if_icmp .ge 40, 3) := by decide +kernel
theorem dX6_checksum_42 : decode cX6_checksum 42 = .ok (.iconst 0, 1) := by decide +kernel
theorem dX6_checksum_43 : decode cX6_checksum 43 = .ok (.istore 4, 2) := by decide +kernel
theorem dX6_checksum_45 : decode cX6_checksum 45 = .ok (.iload 4, 2) := by decide +kernel
theorem dX6_checksum_47 : decode cX6_checksum 47 = .ok (.bipush 10, 2) := by decide +kernel
theorem dX6_checksum_49 : decode cX6_checksum 49 = .ok (.if_icmp .gt 24, 3) := by decide +kernel
theorem dX6_checksum_52 : decode cX6_checksum 52 = .ok (.ldc2_w 263, 3) := by decide +kernel
theorem dX6_checksum_55 : decode cX6_checksum 55 = .ok (.lload_n 1, 1) := by decide +kernel
theorem dX6_checksum_56 : decode cX6_checksum 56 = .ok (.lmul, 1) := by decide +kernel
theorem dX6_checksum_57 : decode cX6_checksum 57 = .ok (.aload_n 0, 1) := by decide +kernel
theorem dX6_checksum_58 : decode cX6_checksum 58 = .ok (.iload_n 3, 1) := by decide +kernel
theorem dX6_checksum_59 : decode cX6_checksum 59 = .ok (.iload 4, 2) := by decide +kernel
theorem dX6_checksum_61 : decode cX6_checksum 61 = .ok (.invokevirtual 269, 3) := by decide +kernel
theorem dX6_checksum_64 : decode cX6_checksum 64 = .ok (.i2l, 1) := by decide +kernel
theorem dX6_checksum_65 : decode cX6_checksum 65 = .ok (.ladd, 1) := by decide +kernel
theorem dX6_checksum_66 : decode cX6_checksum 66 = .ok (.lstore_n 1, 1) := by decide +kernel
theorem dX6_checksum_67 : decode cX6_checksum 67 = .ok (.iinc 4 1, 3) := by decide +kernel
theorem dX6_checksum_70 : decode cX6_checksum 70 = .ok (.goto (-25), 3) := by decide +kernel
theorem dX6_checksum_73 : decode cX6_checksum 73 = .ok (.iinc 3 1, 3) := by decide +kernel
theorem dX6_checksum_76 : decode cX6_checksum 76 = .ok (.goto (-45), 3) := by decide +kernel
theorem dX6_checksum_79 : decode cX6_checksum 79 = .ok (.iconst 0, 1) := by decide +kernel
theorem dX6_checksum_80 : decode cX6_checksum 80 = .ok (.istore_n 3, 1) := by decide +kernel
theorem dX6_checksum_81 : decode cX6_checksum 81 = .ok (.iload_n 3, 1) := by decide +kernel
theorem dX6_checksum_82 : decode cX6_checksum 82 = .ok (.aload_n 0, 1) := by decide +kernel
theorem dX6_checksum_83 : decode cX6_checksum 83 = .ok (.getfield 47, 3) := by decide +kernel
theorem dX6_checksum_86 : decode cX6_checksum 86 = .ok (.invokevirtual 113, 3) := by decide +kernel
theorem dX6_checksum_89 : decode cX6_checksum 89 = .ok (.if_icmp .ge 43, 3) := by decide +kernel
theorem dX6_checksum_92 : decode cX6_checksum 92 = .ok (.ldc2_w 263, 3) := by decide +kernel
theorem dX6_checksum_95 : decode cX6_checksum 95 = .ok (.lload_n 1, 1) := by decide +kernel
theorem dX6_checksum_96 : decode cX6_checksum 96 = .ok (.lmul, 1) := by decide +kernel
theorem dX6_checksum_97 : decode cX6_checksum 97 = .ok (.aload_n 0, 1) := by decide +kernel
theorem dX6_checksum_98 : decode cX6_checksum 98 = .ok (.getfield 47, 3) := by decide +kernel
theorem dX6_checksum_101 : decode cX6_checksum 101 = .ok (.getfield 109, 3) := by decide +kernel
theorem dX6_checksum_104 : decode cX6_checksum 104 = .ok (.iload_n 3, 1) := by decide +kernel
theorem dX6_checksum_105 : decode cX6_checksum 105 = .ok (.iaload, 1) := by decide +kernel
theorem dX6_checksum_106 : decode cX6_checksum 106 = .ok (.i2l, 1) := by decide +kernel
theorem dX6_checksum_107 : decode cX6_checksum 107 = .ok (.ladd, 1) := by decide +kernel
theorem dX6_checksum_108 : decode cX6_checksum 108 = .ok (.lstore_n 1, 1) := by decide +kernel
theorem dX6_checksum_109 : decode cX6_checksum 109 = .ok (.ldc2_w 263, 3) := by decide +kernel
theorem dX6_checksum_112 : decode cX6_checksum 112 = .ok (.lload_n 1, 1) := by decide +kernel
theorem dX6_checksum_113 : decode cX6_checksum 113 = .ok (.lmul, 1) := by decide +kernel
theorem dX6_checksum_114 : decode cX6_checksum 114 = .ok (.aload_n 0, 1) := by decide +kernel
theorem dX6_checksum_115 : decode cX6_checksum 115 = .ok (.getfield 35, 3) := by decide +kernel
theorem dX6_checksum_118 : decode cX6_checksum 118 = .ok (.getfield 201, 3) := by decide +kernel
theorem dX6_checksum_121 : decode cX6_checksum 121 = .ok (.iload_n 3, 1) := by decide +kernel
theorem dX6_checksum_122 : decode cX6_checksum 122 = .ok (.iaload, 1) := by decide +kernel
theorem dX6_checksum_123 : decode cX6_checksum 123 = .ok (.i2l, 1) := by decide +kernel
theorem dX6_checksum_124 : decode cX6_checksum 124 = .ok (.ladd, 1) := by decide +kernel
theorem dX6_checksum_125 : decode cX6_checksum 125 = .ok (.lstore_n 1, 1) := by decide +kernel
theorem dX6_checksum_126 : decode cX6_checksum 126 = .ok (.iinc 3 1, 3) := by decide +kernel
theorem dX6_checksum_129 : decode cX6_checksum 129 = .ok (.goto (-48), 3) := by decide +kernel
theorem dX6_checksum_132 : decode cX6_checksum 132 = .ok (.lload_n 1, 1) := by decide +kernel
theorem dX6_checksum_133 : decode cX6_checksum 133 = .ok (.lreturn, 1) := by decide +kernel
theorem dX6_appendWord_0 : decode cX6_appendWord 0 = .ok (.bipush 24, 2) := by decide +kernel
theorem dX6_appendWord_2 : decode cX6_appendWord 2 = .ok (.istore_n 2, 1) := by decide +kernel
theorem dX6_appendWord_3 : decode cX6_appendWord 3 = .ok (.iload_n 2, 1) := by decide +kernel
theorem dX6_appendWord_4 : decode cX6_appendWord 4 = .ok (.ifCond .lt 42, 3) := by decide +kernel
theorem dX6_appendWord_7 : decode cX6_appendWord 7 = .ok (.aload_n 0, 1) := by decide +kernel
theorem dX6_appendWord_8 : decode cX6_appendWord 8 = .ok (.getfield 13, 3) := by decide +kernel
theorem dX6_appendWord_11 : decode cX6_appendWord 11 = .ok (.sipush 600, 3) := by decide +kernel
theorem dX6_appendWord_14 : decode cX6_appendWord 14 = .ok (.if_icmp .ge 32, 3) := by decide +kernel
theorem dX6_appendWord_17 : decode cX6_appendWord 17 = .ok (.aload_n 0, 1) := by decide +kernel
theorem dX6_appendWord_18 : decode cX6_appendWord 18 = .ok (.getfield 9, 3) := by decide +kernel
theorem dX6_appendWord_21 : decode cX6_appendWord 21 = .ok (.aload_n 0, 1) := by decide +kernel
theorem dX6_appendWord_22 : decode cX6_appendWord 22 = .ok (.getfield 13, 3) := by decide +kernel
theorem dX6_appendWord_25 : decode cX6_appendWord 25 = .ok (.iload_n 1, 1) := by decide +kernel
theorem dX6_appendWord_26 : decode cX6_appendWord 26 = .ok (.iload_n 2, 1) := by decide +kernel
theorem dX6_appendWord_27 : decode cX6_appendWord 27 = .ok (.iushr, 1) := by decide +kernel
theorem dX6_appendWord_28 : decode cX6_appendWord 28 = .ok (.i2b, 1) := by decide +kernel
theorem dX6_appendWord_29 : decode cX6_appendWord 29 = .ok (.bastore, 1) := by decide +kernel
theorem dX6_appendWord_30 : decode cX6_appendWord 30 = .ok (.aload_n 0, 1) := by decide +kernel
theorem dX6_appendWord_31 : decode cX6_appendWord 31 = .ok (.dup, 1) := by decide +kernel
theorem dX6_appendWord_32 : decode cX6_appendWord 32 = .ok (.getfield 13, 3) := by decide +kernel
theorem dX6_appendWord_35 : decode cX6_appendWord 35 = .ok (.iconst 1, 1) := by decide +kernel
theorem dX6_appendWord_36 : decode cX6_appendWord 36 = .ok (.iadd, 1) := by decide +kernel
theorem dX6_appendWord_37 : decode cX6_appendWord 37 = .ok (.putfield 13, 3) := by decide +kernel
theorem dX6_appendWord_40 : decode cX6_appendWord 40 = .ok (.iinc 2 (-8), 3) := by decide +kernel
theorem dX6_appendWord_43 : decode cX6_appendWord 43 = .ok (.goto (-40), 3) := by decide +kernel
theorem dX6_appendWord_46 : decode cX6_appendWord 46 = .ok (.return_, 1) := by decide +kernel
theorem dX6_requireBuffered_0 : decode cX6_requireBuffered 0 = .ok (.iload_n 1, 1) := by decide +kernel
theorem dX6_requireBuffered_1 : decode cX6_requireBuffered 1 = .ok (.ifCond .lt 11, 3) := by decide +kernel
theorem dX6_requireBuffered_4 : decode cX6_requireBuffered 4 = .ok (.iload_n 1, 1) := by decide +kernel
theorem dX6_requireBuffered_5 : decode cX6_requireBuffered 5 = .ok (.aload_n 0, 1) := by decide +kernel
theorem dX6_requireBuffered_6 : decode cX6_requireBuffered 6 = .ok (.getfield 13, 3) := by decide +kernel
theorem dX6_requireBuffered_9 : decode cX6_requireBuffered 9 = .ok (.if_icmp .le 14, 3) := by decide +kernel
theorem dX6_requireBuffered_12 : decode cX6_requireBuffered 12 = .ok (.new 81, 3) := by decide +kernel
theorem dX6_requireBuffered_15 : decode cX6_requireBuffered 15 = .ok (.dup, 1) := by decide +kernel
theorem dX6_requireBuffered_16 : decode cX6_requireBuffered 16 = .ok (.ldc_w 272, 3) := by decide +kernel
theorem dX6_requireBuffered_19 : decode cX6_requireBuffered 19 = .ok (.invokespecial 85, 3) := by decide +kernel
theorem dX6_requireBuffered_22 : decode cX6_requireBuffered 22 = .ok (.athrow, 1) := by decide +kernel
theorem dX6_requireBuffered_23 : decode cX6_requireBuffered 23 = .ok (.return_, 1) := by decide +kernel
theorem dX6_requirePlate_0 : decode cX6_requirePlate 0 = .ok (.iload_n 1, 1) := by decide +kernel
theorem dX6_requirePlate_1 : decode cX6_requirePlate 1 = .ok (.ifCond .lt 14, 3) := by decide +kernel
theorem dX6_requirePlate_4 : decode cX6_requirePlate 4 = .ok (.iload_n 1, 1) := by decide +kernel
theorem dX6_requirePlate_5 : decode cX6_requirePlate 5 = .ok (.aload_n 0, 1) := by decide +kernel
theorem dX6_requirePlate_6 : decode cX6_requirePlate 6 = .ok (.getfield 47, 3) := by decide +kernel
theorem dX6_requirePlate_9 : decode cX6_requirePlate 9 = .ok (.getfield 78, 3) := by decide +kernel
theorem dX6_requirePlate_12 : decode cX6_requirePlate 12 = .ok (.if_icmp .lt 14, 3) := by decide +kernel
theorem dX6_requirePlate_15 : decode cX6_requirePlate 15 = .ok (.new 274, 3) := by decide +kernel
theorem dX6_requirePlate_18 : decode cX6_requirePlate 18 = .ok (.dup, 1) := by decide +kernel
theorem dX6_requirePlate_19 : decode cX6_requirePlate 19 = .ok (.ldc_w 276, 3) := by decide +kernel
theorem dX6_requirePlate_22 : decode cX6_requirePlate 22 = .ok (.invokespecial 278, 3) := by decide +kernel
theorem dX6_requirePlate_25 : decode cX6_requirePlate 25 = .ok (.athrow, 1) := by decide +kernel
theorem dX6_requirePlate_26 : decode cX6_requirePlate 26 = .ok (.return_, 1) := by decide +kernel
theorem dX6_requireCell_0 : decode cX6_requireCell 0 = .ok (.iload_n 1, 1) := by decide +kernel
theorem dX6_requireCell_1 : decode cX6_requireCell 1 = .ok (.ifCond .lt 29, 3) := by decide +kernel
theorem dX6_requireCell_4 : decode cX6_requireCell 4 = .ok (.iload_n 1, 1) := by decide +kernel
theorem dX6_requireCell_5 : decode cX6_requireCell 5 = .ok (.aload_n 0, 1) := by decide +kernel
theorem dX6_requireCell_6 : decode cX6_requireCell 6 = .ok (.getfield 47, 3) := by decide +kernel
theorem dX6_requireCell_9 : decode cX6_requireCell 9 = .ok (.getfield 92, 3) := by decide +kernel
theorem dX6_requireCell_12 : decode cX6_requireCell 12 = .ok (.if_icmp .ge 18, 3) := by decide +kernel
theorem dX6_requireCell_15 : decode cX6_requireCell 15 = .ok (.iload_n 2, 1) := by decide +kernel
theorem dX6_requireCell_16 : decode cX6_requireCell 16 = .ok (.ifCond .lt 14, 3) := by decide +kernel
theorem dX6_requireCell_19 : decode cX6_requireCell 19 = .ok (.iload_n 2, 1) := by decide +kernel
theorem dX6_requireCell_20 : decode cX6_requireCell 20 = .ok (.aload_n 0, 1) := by decide +kernel
theorem dX6_requireCell_21 : decode cX6_requireCell 21 = .ok (.getfield 47, 3) := by decide +kernel
theorem dX6_requireCell_24 : decode cX6_requireCell 24 = .ok (.getfield 95, 3) := by decide +kernel
theorem dX6_requireCell_27 : decode cX6_requireCell 27 = .ok (.if_icmp .lt 14, 3) := by decide +kernel
theorem dX6_requireCell_30 : decode cX6_requireCell 30 = .ok (.new 274, 3) := by decide +kernel
theorem dX6_requireCell_33 : decode cX6_requireCell 33 = .ok (.dup, 1) := by decide +kernel
theorem dX6_requireCell_34 : decode cX6_requireCell 34 = .ok (.ldc_w 279, 3) := by decide +kernel
theorem dX6_requireCell_37 : decode cX6_requireCell 37 = .ok (.invokespecial 278, 3) := by decide +kernel
theorem dX6_requireCell_40 : decode cX6_requireCell 40 = .ok (.athrow, 1) := by decide +kernel
theorem dX6_requireCell_41 : decode cX6_requireCell 41 = .ok (.return_, 1) := by decide +kernel
theorem dX6_draftSheet_0 : decode cX6_draftSheet 0 = .ok (.aload_n 0, 1) := by decide +kernel
theorem dX6_draftSheet_1 : decode cX6_draftSheet 1 = .ok (.getfield 22, 3) := by decide +kernel
theorem dX6_draftSheet_4 : decode cX6_draftSheet 4 = .ok (.aload_n 0, 1) := by decide +kernel
theorem dX6_draftSheet_5 : decode cX6_draftSheet 5 = .ok (.getfield 26, 3) := by decide +kernel
theorem dX6_draftSheet_8 : decode cX6_draftSheet 8 = .ok (.iconst 1, 1) := by decide +kernel
theorem dX6_draftSheet_9 : decode cX6_draftSheet 9 = .ok (.iadd, 1) := by decide +kernel
theorem dX6_draftSheet_10 : decode cX6_draftSheet 10 = .ok (.bipush 10, 2) := by decide +kernel
theorem dX6_draftSheet_12 : decode cX6_draftSheet 12 = .ok (.irem, 1) := by decide +kernel
theorem dX6_draftSheet_13 : decode cX6_draftSheet 13 = .ok (.aaload, 1) := by decide +kernel
theorem dX6_draftSheet_14 : decode cX6_draftSheet 14 = .ok (.areturn, 1) := by decide +kernel
theorem dX6_useDraft_0 : decode cX6_useDraft 0 = .ok (.aload_n 0, 1) := by decide +kernel
theorem dX6_useDraft_1 : decode cX6_useDraft 1 = .ok (.aload_n 0, 1) := by decide +kernel
theorem dX6_useDraft_2 : decode cX6_useDraft 2 = .ok (.getfield 26, 3) := by decide +kernel
theorem dX6_useDraft_5 : decode cX6_useDraft 5 = .ok (.iconst 1, 1) := by decide +kernel
theorem dX6_useDraft_6 : decode cX6_useDraft 6 = .ok (.iadd, 1) := by decide +kernel
theorem dX6_useDraft_7 : decode cX6_useDraft 7 = .ok (.bipush 10, 2) := by decide +kernel
theorem dX6_useDraft_9 : decode cX6_useDraft 9 = .ok (.irem, 1) := by decide +kernel
theorem dX6_useDraft_10 : decode cX6_useDraft 10 = .ok (.putfield 26, 3) := by decide +kernel
theorem dX6_useDraft_13 : decode cX6_useDraft 13 = .ok (.aload_n 0, 1) := by decide +kernel
theorem dX6_useDraft_14 : decode cX6_useDraft 14 = .ok (.aload_n 0, 1) := by decide +kernel
theorem dX6_useDraft_15 : decode cX6_useDraft 15 = .ok (.getfield 22, 3) := by decide +kernel
theorem dX6_useDraft_18 : decode cX6_useDraft 18 = .ok (.aload_n 0, 1) := by decide +kernel
theorem dX6_useDraft_19 : decode cX6_useDraft 19 = .ok (.getfield 26, 3) := by decide +kernel
theorem dX6_useDraft_22 : decode cX6_useDraft 22 = .ok (.aaload, 1) := by decide +kernel
theorem dX6_useDraft_23 : decode cX6_useDraft 23 = .ok (.putfield 47, 3) := by decide +kernel
theorem dX6_useDraft_26 : decode cX6_useDraft 26 = .ok (.aload_n 0, 1) := by decide +kernel
theorem dX6_useDraft_27 : decode cX6_useDraft 27 = .ok (.aload_n 0, 1) := by decide +kernel
theorem dX6_useDraft_28 : decode cX6_useDraft 28 = .ok (.getfield 29, 3) := by decide +kernel
theorem dX6_useDraft_31 : decode cX6_useDraft 31 = .ok (.iconst 1, 1) := by decide +kernel
theorem dX6_useDraft_32 : decode cX6_useDraft 32 = .ok (.iadd, 1) := by decide +kernel
theorem dX6_useDraft_33 : decode cX6_useDraft 33 = .ok (.bipush 8, 2) := by decide +kernel
theorem dX6_useDraft_35 : decode cX6_useDraft 35 = .ok (.invokestatic 225, 3) := by decide +kernel
theorem dX6_useDraft_38 : decode cX6_useDraft 38 = .ok (.putfield 29, 3) := by decide +kernel
theorem dX6_useDraft_41 : decode cX6_useDraft 41 = .ok (.aload_n 0, 1) := by decide +kernel
theorem dX6_useDraft_42 : decode cX6_useDraft 42 = .ok (.getfield 35, 3) := by decide +kernel
theorem dX6_useDraft_45 : decode cX6_useDraft 45 = .ok (.invokevirtual 281, 3) := by decide +kernel
theorem dX6_useDraft_48 : decode cX6_useDraft 48 = .ok (.return_, 1) := by decide +kernel
theorem dX6_startChange_0 : decode cX6_startChange 0 = .ok (.aload_n 0, 1) := by decide +kernel
theorem dX6_startChange_1 : decode cX6_startChange 1 = .ok (.invokevirtual 58, 3) := by decide +kernel
theorem dX6_startChange_4 : decode cX6_startChange 4 = .ok (.aload_n 0, 1) := by decide +kernel
theorem dX6_startChange_5 : decode cX6_startChange 5 = .ok (.getfield 47, 3) := by decide +kernel
theorem dX6_startChange_8 : decode cX6_startChange 8 = .ok (.invokevirtual 284, 3) := by decide +kernel
theorem dX6_startChange_11 : decode cX6_startChange 11 = .ok (.aload_n 0, 1) := by decide +kernel
theorem dX6_startChange_12 : decode cX6_startChange 12 = .ok (.invokevirtual 72, 3) := by decide +kernel
theorem dX6_startChange_15 : decode cX6_startChange 15 = .ok (.return_, 1) := by decide +kernel
theorem dX6_greatestMoire_0 : decode cX6_greatestMoire 0 = .ok (.dconst 0, 1) := by decide +kernel
theorem dX6_greatestMoire_1 : decode cX6_greatestMoire 1 = .ok (.dstore 4, 2) := by decide +kernel
theorem dX6_greatestMoire_3 : decode cX6_greatestMoire 3 = .ok (.iconst 0, 1) := by decide +kernel
theorem dX6_greatestMoire_4 : decode cX6_greatestMoire 4 = .ok (.istore 6, 2) := by decide +kernel
theorem dX6_greatestMoire_6 : decode cX6_greatestMoire 6 = .ok (.iload 6, 2) := by decide +kernel
theorem dX6_greatestMoire_8 : decode cX6_greatestMoire 8 = .ok (.aload_n 0, 1) := by decide +kernel
theorem dX6_greatestMoire_9 : decode cX6_greatestMoire 9 = .ok (.getfield 47, 3) := by decide +kernel
theorem dX6_greatestMoire_12 : decode cX6_greatestMoire 12 = .ok (.getfield 78, 3) := by decide +kernel
theorem dX6_greatestMoire_15 : decode cX6_greatestMoire 15 = .ok (.if_icmp .ge 49, 3) := by decide +kernel
theorem dX6_greatestMoire_18 : decode cX6_greatestMoire 18 = .ok (.iload 6, 2) := by decide +kernel
theorem dX6_greatestMoire_20 : decode cX6_greatestMoire 20 = .ok (.iload_n 1, 1) := by decide +kernel
theorem dX6_greatestMoire_21 : decode cX6_greatestMoire 21 = .ok (.if_icmp .eq 37, 3) := by decide +kernel
theorem dX6_greatestMoire_24 : decode cX6_greatestMoire 24 = .ok (.aload_n 0, 1) := by decide +kernel
theorem dX6_greatestMoire_25 : decode cX6_greatestMoire 25 = .ok (.getfield 47, 3) := by decide +kernel
theorem dX6_greatestMoire_28 : decode cX6_greatestMoire 28 = .ok (.getfield 137, 3) := by decide +kernel
theorem dX6_greatestMoire_31 : decode cX6_greatestMoire 31 = .ok (.iload 6, 2) := by decide +kernel
theorem dX6_greatestMoire_33 : decode cX6_greatestMoire 33 = .ok (.aaload, 1) := by decide +kernel
theorem dX6_greatestMoire_34 : decode cX6_greatestMoire 34 = .ok (.iload_n 2, 1) := by decide +kernel
theorem dX6_greatestMoire_35 : decode cX6_greatestMoire 35 = .ok (.iload_n 3, 1) := by decide +kernel
theorem dX6_greatestMoire_36 : decode cX6_greatestMoire 36 = .ok (.invokestatic 215, 3) := by decide +kernel
theorem dX6_greatestMoire_39 : decode cX6_greatestMoire 39 = .ok (.dstore 7, 2) := by decide +kernel
theorem dX6_greatestMoire_41 : decode cX6_greatestMoire 41 = .ok (.dload 7, 2) := by decide +kernel
theorem dX6_greatestMoire_43 : decode cX6_greatestMoire 43 = .ok (.dload 4, 2) := by decide +kernel
theorem dX6_greatestMoire_45 : decode cX6_greatestMoire 45 = .ok (.dcmp .l, 1) := by decide +kernel
theorem dX6_greatestMoire_46 : decode cX6_greatestMoire 46 = .ok (.ifCond .le 8, 3) := by decide +kernel
theorem dX6_greatestMoire_49 : decode cX6_greatestMoire 49 = .ok (.dload 7, 2) := by decide +kernel
theorem dX6_greatestMoire_51 : decode cX6_greatestMoire 51 = .ok (.goto 5, 3) := by decide +kernel
theorem dX6_greatestMoire_54 : decode cX6_greatestMoire 54 = .ok (.dload 4, 2) := by decide +kernel
theorem dX6_greatestMoire_56 : decode cX6_greatestMoire 56 = .ok (.dstore 4, 2) := by decide +kernel
theorem dX6_greatestMoire_58 : decode cX6_greatestMoire 58 = .ok (.iinc 6 1, 3) := by decide +kernel
theorem dX6_greatestMoire_61 : decode cX6_greatestMoire 61 = .ok (.goto (-55), 3) := by decide +kernel
theorem dX6_greatestMoire_64 : decode cX6_greatestMoire 64 = .ok (.dload 4, 2) := by decide +kernel
theorem dX6_greatestMoire_66 : decode cX6_greatestMoire 66 = .ok (.dreturn, 1) := by decide +kernel
theorem dX6_moireWith_0 : decode cX6_moireWith 0 = .ok (.iload_n 1, 1) := by decide +kernel
theorem dX6_moireWith_1 : decode cX6_moireWith 1 = .ok (.iload_n 1, 1) := by decide +kernel
theorem dX6_moireWith_2 : decode cX6_moireWith 2 = .ok (.imul, 1) := by decide +kernel
theorem dX6_moireWith_3 : decode cX6_moireWith 3 = .ok (.iload_n 2, 1) := by decide +kernel
theorem dX6_moireWith_4 : decode cX6_moireWith 4 = .ok (.iload_n 2, 1) := by decide +kernel
theorem dX6_moireWith_5 : decode cX6_moireWith 5 = .ok (.imul, 1) := by decide +kernel
theorem dX6_moireWith_6 : decode cX6_moireWith 6 = .ok (.iadd, 1) := by decide +kernel
theorem dX6_moireWith_7 : decode cX6_moireWith 7 = .ok (.istore_n 3, 1) := by decide +kernel
theorem dX6_moireWith_8 : decode cX6_moireWith 8 = .ok (.aload_n 0, 1) := by decide +kernel
theorem dX6_moireWith_9 : decode cX6_moireWith 9 = .ok (.invokevirtual 149, 3) := by decide +kernel
theorem dX6_moireWith_12 : decode cX6_moireWith 12 = .ok (.istore 4, 2) := by decide +kernel
theorem dX6_moireWith_14 : decode cX6_moireWith 14 = .ok (.iload_n 1, 1) := by decide +kernel
theorem dX6_moireWith_15 : decode cX6_moireWith 15 = .ok (.iload 4, 2) := by decide +kernel
theorem dX6_moireWith_17 : decode cX6_moireWith 17 = .ok (.imul, 1) := by decide +kernel
theorem dX6_moireWith_18 : decode cX6_moireWith 18 = .ok (.aload_n 0, 1) := by decide +kernel
theorem dX6_moireWith_19 : decode cX6_moireWith 19 = .ok (.getfield 141, 3) := by decide +kernel
theorem dX6_moireWith_22 : decode cX6_moireWith 22 = .ok (.iload_n 3, 1) := by decide +kernel
theorem dX6_moireWith_23 : decode cX6_moireWith 23 = .ok (.imul, 1) := by decide +kernel
theorem dX6_moireWith_24 : decode cX6_moireWith 24 = .ok (.isub, 1) := by decide +kernel
theorem dX6_moireWith_25 : decode cX6_moireWith 25 = .ok (.istore 5, 2) := by decide +kernel
theorem dX6_moireWith_27 : decode cX6_moireWith 27 = .ok (.iload_n 2, 1) := by decide +kernel
theorem dX6_moireWith_28 : decode cX6_moireWith 28 = .ok (.iload 4, 2) := by decide +kernel
theorem dX6_moireWith_30 : decode cX6_moireWith 30 = .ok (.imul, 1) := by decide +kernel
theorem dX6_moireWith_31 : decode cX6_moireWith 31 = .ok (.aload_n 0, 1) := by decide +kernel
theorem dX6_moireWith_32 : decode cX6_moireWith 32 = .ok (.getfield 146, 3) := by decide +kernel
theorem dX6_moireWith_35 : decode cX6_moireWith 35 = .ok (.iload_n 3, 1) := by decide +kernel
theorem dX6_moireWith_36 : decode cX6_moireWith 36 = .ok (.imul, 1) := by decide +kernel
theorem dX6_moireWith_37 : decode cX6_moireWith 37 = .ok (.isub, 1) := by decide +kernel
theorem dX6_moireWith_38 : decode cX6_moireWith 38 = .ok (.istore 6, 2) := by decide +kernel
theorem dX6_moireWith_40 : decode cX6_moireWith 40 = .ok (.iload 5, 2) := by decide +kernel
theorem dX6_moireWith_42 : decode cX6_moireWith 42 = .ok (.iload 5, 2) := by decide +kernel
theorem dX6_moireWith_44 : decode cX6_moireWith 44 = .ok (.imul, 1) := by decide +kernel
theorem dX6_moireWith_45 : decode cX6_moireWith 45 = .ok (.iload 6, 2) := by decide +kernel
theorem dX6_moireWith_47 : decode cX6_moireWith 47 = .ok (.iload 6, 2) := by decide +kernel
theorem dX6_moireWith_49 : decode cX6_moireWith 49 = .ok (.imul, 1) := by decide +kernel
theorem dX6_moireWith_50 : decode cX6_moireWith 50 = .ok (.iadd, 1) := by decide +kernel
theorem dX6_moireWith_51 : decode cX6_moireWith 51 = .ok (.istore 7, 2) := by decide +kernel
theorem dX6_moireWith_53 : decode cX6_moireWith 53 = .ok (.iload 7, 2) := by decide +kernel
theorem dX6_moireWith_55 : decode cX6_moireWith 55 = .ok (.ifCond .ne 7, 3) := by decide +kernel
theorem dX6_moireWith_58 : decode cX6_moireWith 58 = .ok (.dconst 0, 1) := by decide +kernel
theorem dX6_moireWith_59 : decode cX6_moireWith 59 = .ok (.goto 17, 3) := by decide +kernel
theorem dX6_moireWith_62 : decode cX6_moireWith 62 = .ok (.iload_n 3, 1) := by decide +kernel
theorem dX6_moireWith_63 : decode cX6_moireWith 63 = .ok (.iload_n 3, 1) := by decide +kernel
theorem dX6_moireWith_64 : decode cX6_moireWith 64 = .ok (.imul, 1) := by decide +kernel
theorem dX6_moireWith_65 : decode cX6_moireWith 65 = .ok (.iload 4, 2) := by decide +kernel
theorem dX6_moireWith_67 : decode cX6_moireWith 67 = .ok (.imul, 1) := by decide +kernel
theorem dX6_moireWith_68 : decode cX6_moireWith 68 = .ok (.iload 4, 2) := by decide +kernel
theorem dX6_moireWith_70 : decode cX6_moireWith 70 = .ok (.imul, 1) := by decide +kernel
theorem dX6_moireWith_71 : decode cX6_moireWith 71 = .ok (.i2d, 1) := by decide +kernel
theorem dX6_moireWith_72 : decode cX6_moireWith 72 = .ok (.iload 7, 2) := by decide +kernel
theorem dX6_moireWith_74 : decode cX6_moireWith 74 = .ok (.i2d, 1) := by decide +kernel
theorem dX6_moireWith_75 : decode cX6_moireWith 75 = .ok (.ddiv, 1) := by decide +kernel
theorem dX6_moireWith_76 : decode cX6_moireWith 76 = .ok (.dreturn, 1) := by decide +kernel
theorem dX6_blocksAlong_0 : decode cX6_blocksAlong 0 = .ok (.iload_n 1, 1) := by decide +kernel
theorem dX6_blocksAlong_1 : decode cX6_blocksAlong 1 = .ok (.iconst 1, 1) := by decide +kernel
theorem dX6_blocksAlong_2 : decode cX6_blocksAlong 2 = .ok (.if_icmp .ge 7, 3) := by decide +kernel
theorem dX6_blocksAlong_5 : decode cX6_blocksAlong 5 = .ok (.iconst 0, 1) := by decide +kernel
theorem dX6_blocksAlong_6 : decode cX6_blocksAlong 6 = .ok (.goto 6, 3) := by decide +kernel
theorem dX6_blocksAlong_9 : decode cX6_blocksAlong 9 = .ok (.iload_n 0, 1) := by decide +kernel
theorem dX6_blocksAlong_10 : decode cX6_blocksAlong 10 = .ok (.iload_n 1, 1) := by decide +kernel
theorem dX6_blocksAlong_11 : decode cX6_blocksAlong 11 = .ok (.idiv, 1) := by decide +kernel
theorem dX6_blocksAlong_12 : decode cX6_blocksAlong 12 = .ok (.ireturn, 1) := by decide +kernel
theorem dX6_sumOfTones_0 : decode cX6_sumOfTones 0 = .ok (.iconst 0, 1) := by decide +kernel
theorem dX6_sumOfTones_1 : decode cX6_sumOfTones 1 = .ok (.istore_n 2, 1) := by decide +kernel
theorem dX6_sumOfTones_2 : decode cX6_sumOfTones 2 = .ok (.iconst 0, 1) := by decide +kernel
theorem dX6_sumOfTones_3 : decode cX6_sumOfTones 3 = .ok (.istore_n 3, 1) := by decide +kernel
theorem dX6_sumOfTones_4 : decode cX6_sumOfTones 4 = .ok (.iload_n 3, 1) := by decide +kernel
theorem dX6_sumOfTones_5 : decode cX6_sumOfTones 5 = .ok (.iload_n 1, 1) := by decide +kernel
theorem dX6_sumOfTones_6 : decode cX6_sumOfTones 6 = .ok (.if_icmp .ge 21, 3) := by decide +kernel
theorem dX6_sumOfTones_9 : decode cX6_sumOfTones 9 = .ok (.iload_n 3, 1) := by decide +kernel
theorem dX6_sumOfTones_10 : decode cX6_sumOfTones 10 = .ok (.aload_n 0, 1) := by decide +kernel
theorem dX6_sumOfTones_11 : decode cX6_sumOfTones 11 = .ok (.arraylength, 1) := by decide +kernel
theorem dX6_sumOfTones_12 : decode cX6_sumOfTones 12 = .ok (.if_icmp .ge 15, 3) := by decide +kernel
theorem dX6_sumOfTones_15 : decode cX6_sumOfTones 15 = .ok (.iload_n 2, 1) := by decide +kernel
theorem dX6_sumOfTones_16 : decode cX6_sumOfTones 16 = .ok (.aload_n 0, 1) := by decide +kernel
theorem dX6_sumOfTones_17 : decode cX6_sumOfTones 17 = .ok (.iload_n 3, 1) := by decide +kernel
theorem dX6_sumOfTones_18 : decode cX6_sumOfTones 18 = .ok (.iaload, 1) := by decide +kernel
theorem dX6_sumOfTones_19 : decode cX6_sumOfTones 19 = .ok (.iadd, 1) := by decide +kernel
theorem dX6_sumOfTones_20 : decode cX6_sumOfTones 20 = .ok (.istore_n 2, 1) := by decide +kernel
theorem dX6_sumOfTones_21 : decode cX6_sumOfTones 21 = .ok (.iinc 3 1, 3) := by decide +kernel
theorem dX6_sumOfTones_24 : decode cX6_sumOfTones 24 = .ok (.goto (-20), 3) := by decide +kernel
theorem dX6_sumOfTones_27 : decode cX6_sumOfTones 27 = .ok (.iload_n 2, 1) := by decide +kernel
theorem dX6_sumOfTones_28 : decode cX6_sumOfTones 28 = .ok (.ireturn, 1) := by decide +kernel
theorem dX6_packedName_0 : decode cX6_packedName 0 = .ok (.lconst 1, 1) := by decide +kernel
theorem dX6_packedName_1 : decode cX6_packedName 1 = .ok (.lstore_n 3, 1) := by decide +kernel
theorem dX6_packedName_2 : decode cX6_packedName 2 = .ok (.iload_n 1, 1) := by decide +kernel
theorem dX6_packedName_3 : decode cX6_packedName 3 = .ok (.istore 5, 2) := by decide +kernel
theorem dX6_packedName_5 : decode cX6_packedName 5 = .ok (.iload 5, 2) := by decide +kernel
theorem dX6_packedName_7 : decode cX6_packedName 7 = .ok (.iload_n 2, 1) := by decide +kernel
theorem dX6_packedName_8 : decode cX6_packedName 8 = .ok (.if_icmp .ge 32, 3) := by decide +kernel
theorem dX6_packedName_11 : decode cX6_packedName 11 = .ok (.iload 5, 2) := by decide +kernel
theorem dX6_packedName_13 : decode cX6_packedName 13 = .ok (.aload_n 0, 1) := by decide +kernel
theorem dX6_packedName_14 : decode cX6_packedName 14 = .ok (.arraylength, 1) := by decide +kernel
theorem dX6_packedName_15 : decode cX6_packedName 15 = .ok (.if_icmp .ge 25, 3) := by decide +kernel
theorem dX6_packedName_18 : decode cX6_packedName 18 = .ok (.lload_n 3, 1) := by decide +kernel
theorem dX6_packedName_19 : decode cX6_packedName 19 = .ok (.ldc2_w 287, 3) := by decide +kernel
theorem dX6_packedName_22 : decode cX6_packedName 22 = .ok (.lmul, 1) := by decide +kernel
theorem dX6_packedName_23 : decode cX6_packedName 23 = .ok (.aload_n 0, 1) := by decide +kernel
theorem dX6_packedName_24 : decode cX6_packedName 24 = .ok (.iload 5, 2) := by decide +kernel
theorem dX6_packedName_26 : decode cX6_packedName 26 = .ok (.baload, 1) := by decide +kernel
theorem dX6_packedName_27 : decode cX6_packedName 27 = .ok (.sipush 255, 3) := by decide +kernel
theorem dX6_packedName_30 : decode cX6_packedName 30 = .ok (.iand, 1) := by decide +kernel
theorem dX6_packedName_31 : decode cX6_packedName 31 = .ok (.i2l, 1) := by decide +kernel
theorem dX6_packedName_32 : decode cX6_packedName 32 = .ok (.ladd, 1) := by decide +kernel
theorem dX6_packedName_33 : decode cX6_packedName 33 = .ok (.lstore_n 3, 1) := by decide +kernel
theorem dX6_packedName_34 : decode cX6_packedName 34 = .ok (.iinc 5 1, 3) := by decide +kernel
theorem dX6_packedName_37 : decode cX6_packedName 37 = .ok (.goto (-32), 3) := by decide +kernel
theorem dX6_packedName_40 : decode cX6_packedName 40 = .ok (.lload_n 3, 1) := by decide +kernel
theorem dX6_packedName_41 : decode cX6_packedName 41 = .ok (.lreturn, 1) := by decide +kernel
theorem dX6_remainder_0 : decode cX6_remainder 0 = .ok (.iload_n 1, 1) := by decide +kernel
theorem dX6_remainder_1 : decode cX6_remainder 1 = .ok (.iconst 1, 1) := by decide +kernel
theorem dX6_remainder_2 : decode cX6_remainder 2 = .ok (.if_icmp .ge 7, 3) := by decide +kernel
theorem dX6_remainder_5 : decode cX6_remainder 5 = .ok (.iconst 0, 1) := by decide +kernel
theorem dX6_remainder_6 : decode cX6_remainder 6 = .ok (.goto 8, 3) := by decide +kernel
theorem dX6_remainder_9 : decode cX6_remainder 9 = .ok (.iload_n 0, 1) := by decide +kernel
theorem dX6_remainder_10 : decode cX6_remainder 10 = .ok (.iload_n 1, 1) := by decide +kernel
theorem dX6_remainder_11 : decode cX6_remainder 11 = .ok (.invokestatic 289, 3) := by decide +kernel
theorem dX6_remainder_14 : decode cX6_remainder 14 = .ok (.ireturn, 1) := by decide +kernel
theorem dX6_limited_0 : decode cX6_limited 0 = .ok (.iload_n 2, 1) := by decide +kernel
theorem dX6_limited_1 : decode cX6_limited 1 = .ok (.i2l, 1) := by decide +kernel
theorem dX6_limited_2 : decode cX6_limited 2 = .ok (.iload_n 3, 1) := by decide +kernel
theorem dX6_limited_3 : decode cX6_limited 3 = .ok (.i2l, 1) := by decide +kernel
theorem dX6_limited_4 : decode cX6_limited 4 = .ok (.lload_n 0, 1) := by decide +kernel
theorem dX6_limited_5 : decode cX6_limited 5 = .ok (.invokestatic 292, 3) := by decide +kernel
theorem dX6_limited_8 : decode cX6_limited 8 = .ok (.invokestatic 295, 3) := by decide +kernel
theorem dX6_limited_11 : decode cX6_limited 11 = .ok (.l2i, 1) := by decide +kernel
theorem dX6_limited_12 : decode cX6_limited 12 = .ok (.ireturn, 1) := by decide +kernel
theorem dX7_init_0 : decode cX7_init 0 = .ok (.aload_n 0, 1) := by decide +kernel
theorem dX7_init_1 : decode cX7_init 1 = .ok (.invokespecial 1, 3) := by decide +kernel
theorem dX7_init_4 : decode cX7_init 4 = .ok (.aload_n 0, 1) := by decide +kernel
theorem dX7_init_5 : decode cX7_init 5 = .ok (.ldc 7, 2) := by decide +kernel
theorem dX7_init_7 : decode cX7_init 7 = .ok (.newarray .int, 2) := by decide +kernel
theorem dX7_init_9 : decode cX7_init 9 = .ok (.putfield 8, 3) := by decide +kernel
theorem dX7_init_12 : decode cX7_init 12 = .ok (.aload_n 0, 1) := by decide +kernel
theorem dX7_init_13 : decode cX7_init 13 = .ok (.sipush 5100, 3) := by decide +kernel
theorem dX7_init_16 : decode cX7_init 16 = .ok (.newarray .int, 2) := by decide +kernel
theorem dX7_init_18 : decode cX7_init 18 = .ok (.putfield 14, 3) := by decide +kernel
theorem dX7_init_21 : decode cX7_init 21 = .ok (.aload_n 0, 1) := by decide +kernel
theorem dX7_init_22 : decode cX7_init 22 = .ok (.sipush 324, 3) := by decide +kernel
theorem dX7_init_25 : decode cX7_init 25 = .ok (.newarray .int, 2) := by decide +kernel
theorem dX7_init_27 : decode cX7_init 27 = .ok (.putfield 17, 3) := by decide +kernel
theorem dX7_init_30 : decode cX7_init 30 = .ok (.aload_n 0, 1) := by decide +kernel
theorem dX7_init_31 : decode cX7_init 31 = .ok (.sipush 602, 3) := by decide +kernel
theorem dX7_init_34 : decode cX7_init 34 = .ok (.newarray .long, 2) := by decide +kernel
theorem dX7_init_36 : decode cX7_init 36 = .ok (.putfield 20, 3) := by decide +kernel
theorem dX7_init_39 : decode cX7_init 39 = .ok (.aload_n 0, 1) := by decide +kernel
theorem dX7_init_40 : decode cX7_init 40 = .ok (.sipush 768, 3) := by decide +kernel
theorem dX7_init_43 : decode cX7_init 43 = .ok (.newarray .int, 2) := by decide +kernel
theorem dX7_init_45 : decode cX7_init 45 = .ok (.putfield 24, 3) := by decide +kernel
theorem dX7_init_48 : decode cX7_init 48 = .ok (.aload_n 0, 1) := by decide +kernel
theorem dX7_init_49 : decode cX7_init 49 = .ok (.sipush 768, 3) := by decide +kernel
theorem dX7_init_52 : decode cX7_init 52 = .ok (.newarray .int, 2) := by decide +kernel
theorem dX7_init_54 : decode cX7_init 54 = .ok (.putfield 27, 3) := by decide +kernel
theorem dX7_init_57 : decode cX7_init 57 = .ok (.aload_n 0, 1) := by decide +kernel
theorem dX7_init_58 : decode cX7_init 58 = .ok (.sipush 192, 3) := by decide +kernel
theorem dX7_init_61 : decode cX7_init 61 = .ok (.newarray .int, 2) := by decide +kernel
theorem dX7_init_63 : decode cX7_init 63 = .ok (.putfield 30, 3) := by decide +kernel
theorem dX7_init_66 : decode cX7_init 66 = .ok (.aload_n 0, 1) := by decide +kernel
theorem dX7_init_67 : decode cX7_init 67 = .ok (.sipush 600, 3) := by decide +kernel
theorem dX7_init_70 : decode cX7_init 70 = .ok (.newarray .int, 2) := by decide +kernel
theorem dX7_init_72 : decode cX7_init 72 = .ok (.putfield 33, 3) := by decide +kernel
theorem dX7_init_75 : decode cX7_init 75 = .ok (.aload_n 0, 1) := by decide +kernel
theorem dX7_init_76 : decode cX7_init 76 = .ok (.iconst (-1), 1) := by decide +kernel
theorem dX7_init_77 : decode cX7_init 77 = .ok (.putfield 36, 3) := by decide +kernel
theorem dX7_init_80 : decode cX7_init 80 = .ok (.aload_n 0, 1) := by decide +kernel
theorem dX7_init_81 : decode cX7_init 81 = .ok (.bipush 12, 2) := by decide +kernel
theorem dX7_init_83 : decode cX7_init 83 = .ok (.newarray .int, 2) := by decide +kernel
theorem dX7_init_85 : decode cX7_init 85 = .ok (.putfield 40, 3) := by decide +kernel
theorem dX7_init_88 : decode cX7_init 88 = .ok (.aload_n 0, 1) := by decide +kernel
theorem dX7_init_89 : decode cX7_init 89 = .ok (.bipush 8, 2) := by decide +kernel
theorem dX7_init_91 : decode cX7_init 91 = .ok (.bipush 8, 2) := by decide +kernel
theorem dX7_init_93 : decode cX7_init 93 = .ok (.invokevirtual 43, 3) := by decide +kernel
theorem dX7_init_96 : decode cX7_init 96 = .ok (.iconst 0, 1) := by decide +kernel
theorem dX7_init_97 : decode cX7_init 97 = .ok (.istore_n 1, 1) := by decide +kernel
theorem dX7_init_98 : decode cX7_init 98 = .ok (.iload_n 1, 1) := by decide +kernel
theorem dX7_init_99 : decode cX7_init 99 = .ok (.sipush 5100, 3) := by decide +kernel
theorem dX7_init_102 : decode cX7_init 102 = .ok (.if_icmp .ge 21, 3) := by decide +kernel
theorem dX7_init_105 : decode cX7_init 105 = .ok (.aload_n 0, 1) := by decide +kernel
theorem dX7_init_106 : decode cX7_init 106 = .ok (.getfield 8, 3) := by decide +kernel
theorem dX7_init_109 : decode cX7_init 109 = .ok (.iload_n 1, 1) := by decide +kernel
theorem dX7_init_110 : decode cX7_init 110 = .ok (.aload_n 0, 1) := by decide +kernel
theorem dX7_init_111 : decode cX7_init 111 = .ok (.getfield 14, 3) := by decide +kernel
theorem dX7_init_114 : decode cX7_init 114 = .ok (.iload_n 1, 1) := by decide +kernel
theorem dX7_init_115 : decode cX7_init 115 = .ok (.iaload, 1) := by decide +kernel
theorem dX7_init_116 : decode cX7_init 116 = .ok (.iastore, 1) := by decide +kernel
theorem dX7_init_117 : decode cX7_init 117 = .ok (.iinc 1 1, 3) := by decide +kernel
theorem dX7_init_120 : decode cX7_init 120 = .ok (.goto (-22), 3) := by decide +kernel
theorem dX7_init_123 : decode cX7_init 123 = .ok (.return_, 1) := by decide +kernel
theorem dX7_thrown_0 : decode cX7_thrown 0 = .ok (.aload_n 0, 1) := by decide +kernel
theorem dX7_thrown_1 : decode cX7_thrown 1 = .ok (.getfield 47, 3) := by decide +kernel
theorem dX7_thrown_4 : decode cX7_thrown 4 = .ok (.ireturn, 1) := by decide +kernel
theorem dX7_isIn_0 : decode cX7_isIn 0 = .ok (.iload_n 0, 1) := by decide +kernel
theorem dX7_isIn_1 : decode cX7_isIn 1 = .ok (.iload_n 1, 1) := by decide +kernel
theorem dX7_isIn_2 : decode cX7_isIn 2 = .ok (.if_icmp .lt 12, 3) := by decide +kernel
theorem dX7_isIn_5 : decode cX7_isIn 5 = .ok (.iload_n 0, 1) := by decide +kernel
theorem dX7_isIn_6 : decode cX7_isIn 6 = .ok (.iload_n 2, 1) := by decide +kernel
theorem dX7_isIn_7 : decode cX7_isIn 7 = .ok (.if_icmp .gt 7, 3) := by decide +kernel
theorem dX7_isIn_10 : decode cX7_isIn 10 = .ok (.iconst 1, 1) := by decide +kernel
theorem dX7_isIn_11 : decode cX7_isIn 11 = .ok (.goto 4, 3) := by decide +kernel
theorem dX7_isIn_14 : decode cX7_isIn 14 = .ok (.iconst 0, 1) := by decide +kernel
theorem dX7_isIn_15 : decode cX7_isIn 15 = .ok (.ireturn, 1) := by decide +kernel
theorem dX7_get_0 : decode cX7_get 0 = .ok (.aload_n 0, 1) := by decide +kernel
theorem dX7_get_1 : decode cX7_get 1 = .ok (.getfield 8, 3) := by decide +kernel
theorem dX7_get_4 : decode cX7_get 4 = .ok (.sipush 5100, 3) := by decide +kernel
theorem dX7_get_7 : decode cX7_get 7 = .ok (.aload_n 0, 1) := by decide +kernel
theorem dX7_get_8 : decode cX7_get 8 = .ok (.getfield 50, 3) := by decide +kernel
theorem dX7_get_11 : decode cX7_get 11 = .ok (.imul, 1) := by decide +kernel
theorem dX7_get_12 : decode cX7_get 12 = .ok (.iload_n 1, 1) := by decide +kernel
theorem dX7_get_13 : decode cX7_get 13 = .ok (.iadd, 1) := by decide +kernel
theorem dX7_get_14 : decode cX7_get 14 = .ok (.iaload, 1) := by decide +kernel
theorem dX7_get_15 : decode cX7_get 15 = .ok (.ireturn, 1) := by decide +kernel
theorem dX7_put_0 : decode cX7_put 0 = .ok (.aload_n 0, 1) := by decide +kernel
theorem dX7_put_1 : decode cX7_put 1 = .ok (.getfield 8, 3) := by decide +kernel
theorem dX7_put_4 : decode cX7_put 4 = .ok (.sipush 5100, 3) := by decide +kernel
theorem dX7_put_7 : decode cX7_put 7 = .ok (.aload_n 0, 1) := by decide +kernel
theorem dX7_put_8 : decode cX7_put 8 = .ok (.getfield 50, 3) := by decide +kernel
theorem dX7_put_11 : decode cX7_put 11 = .ok (.imul, 1) := by decide +kernel
theorem dX7_put_12 : decode cX7_put 12 = .ok (.iload_n 1, 1) := by decide +kernel
theorem dX7_put_13 : decode cX7_put 13 = .ok (.iadd, 1) := by decide +kernel
theorem dX7_put_14 : decode cX7_put 14 = .ok (.iload_n 2, 1) := by decide +kernel
theorem dX7_put_15 : decode cX7_put 15 = .ok (.iastore, 1) := by decide +kernel
theorem dX7_put_16 : decode cX7_put 16 = .ok (.return_, 1) := by decide +kernel
theorem dX7_of_0 : decode cX7_of 0 = .ok (.aload_n 0, 1) := by decide +kernel
theorem dX7_of_1 : decode cX7_of 1 = .ok (.sipush 196, 3) := by decide +kernel
theorem dX7_of_4 : decode cX7_of 4 = .ok (.sipush 1226, 3) := by decide +kernel
theorem dX7_of_7 : decode cX7_of 7 = .ok (.iload_n 1, 1) := by decide +kernel
theorem dX7_of_8 : decode cX7_of 8 = .ok (.imul, 1) := by decide +kernel
theorem dX7_of_9 : decode cX7_of 9 = .ok (.iadd, 1) := by decide +kernel
theorem dX7_of_10 : decode cX7_of 10 = .ok (.iload_n 2, 1) := by decide +kernel
theorem dX7_of_11 : decode cX7_of 11 = .ok (.iadd, 1) := by decide +kernel
theorem dX7_of_12 : decode cX7_of 12 = .ok (.invokevirtual 53, 3) := by decide +kernel
theorem dX7_of_15 : decode cX7_of 15 = .ok (.ireturn, 1) := by decide +kernel
theorem dX7_puts_0 : decode cX7_puts 0 = .ok (.aload_n 0, 1) := by decide +kernel
theorem dX7_puts_1 : decode cX7_puts 1 = .ok (.sipush 196, 3) := by decide +kernel
theorem dX7_puts_4 : decode cX7_puts 4 = .ok (.sipush 1226, 3) := by decide +kernel
theorem dX7_puts_7 : decode cX7_puts 7 = .ok (.iload_n 1, 1) := by decide +kernel
theorem dX7_puts_8 : decode cX7_puts 8 = .ok (.imul, 1) := by decide +kernel
theorem dX7_puts_9 : decode cX7_puts 9 = .ok (.iadd, 1) := by decide +kernel
theorem dX7_puts_10 : decode cX7_puts 10 = .ok (.iload_n 2, 1) := by decide +kernel
theorem dX7_puts_11 : decode cX7_puts 11 = .ok (.iadd, 1) := by decide +kernel
theorem dX7_puts_12 : decode cX7_puts 12 = .ok (.iload_n 3, 1) := by decide +kernel
theorem dX7_puts_13 : decode cX7_puts 13 = .ok (.invokevirtual 57, 3) := by decide +kernel
theorem dX7_puts_16 : decode cX7_puts 16 = .ok (.return_, 1) := by decide +kernel
theorem dX7_change_0 : decode cX7_change 0 = .ok (.aload_n 0, 1) := by decide +kernel
theorem dX7_change_1 : decode cX7_change 1 = .ok (.getfield 50, 3) := by decide +kernel
theorem dX7_change_4 : decode cX7_change 4 = .ok (.iconst 1, 1) := by decide +kernel
theorem dX7_change_5 : decode cX7_change 5 = .ok (.iadd, 1) := by decide +kernel
theorem dX7_change_6 : decode cX7_change 6 = .ok (.bipush 9, 2) := by decide +kernel
theorem dX7_change_8 : decode cX7_change 8 = .ok (.irem, 1) := by decide +kernel
theorem dX7_change_9 : decode cX7_change 9 = .ok (.istore_n 1, 1) := by decide +kernel
theorem dX7_change_10 : decode cX7_change 10 = .ok (.iconst 0, 1) := by decide +kernel
theorem dX7_change_11 : decode cX7_change 11 = .ok (.istore_n 2, 1) := by decide +kernel
theorem dX7_change_12 : decode cX7_change 12 = .ok (.iload_n 2, 1) := by decide +kernel
theorem dX7_change_13 : decode cX7_change 13 = .ok (.sipush 5100, 3) := by decide +kernel
theorem dX7_change_16 : decode cX7_change 16 = .ok (.if_icmp .ge 26, 3) := by decide +kernel
theorem dX7_change_19 : decode cX7_change 19 = .ok (.aload_n 0, 1) := by decide +kernel
theorem dX7_change_20 : decode cX7_change 20 = .ok (.getfield 8, 3) := by decide +kernel
theorem dX7_change_23 : decode cX7_change 23 = .ok (.sipush 5100, 3) := by decide +kernel
theorem dX7_change_26 : decode cX7_change 26 = .ok (.iload_n 1, 1) := by decide +kernel
theorem dX7_change_27 : decode cX7_change 27 = .ok (.imul, 1) := by decide +kernel
theorem dX7_change_28 : decode cX7_change 28 = .ok (.iload_n 2, 1) := by decide +kernel
theorem dX7_change_29 : decode cX7_change 29 = .ok (.iadd, 1) := by decide +kernel
theorem dX7_change_30 : decode cX7_change 30 = .ok (.aload_n 0, 1) := by decide +kernel
theorem dX7_change_31 : decode cX7_change 31 = .ok (.iload_n 2, 1) := by decide +kernel
theorem dX7_change_32 : decode cX7_change 32 = .ok (.invokevirtual 53, 3) := by decide +kernel
theorem dX7_change_35 : decode cX7_change 35 = .ok (.iastore, 1) := by decide +kernel
theorem dX7_change_36 : decode cX7_change 36 = .ok (.iinc 2 1, 3) := by decide +kernel
theorem dX7_change_39 : decode cX7_change 39 = .ok (.goto (-27), 3) := by decide +kernel
theorem dX7_change_42 : decode cX7_change 42 = .ok (.aload_n 0, 1) := by decide +kernel
theorem dX7_change_43 : decode cX7_change 43 = .ok (.iload_n 1, 1) := by decide +kernel
theorem dX7_change_44 : decode cX7_change 44 = .ok (.putfield 50, 3) := by decide +kernel
theorem dX7_change_47 : decode cX7_change 47 = .ok (.aload_n 0, 1) := by decide +kernel
theorem dX7_change_48 : decode cX7_change 48 = .ok (.aload_n 0, 1) := by decide +kernel
theorem dX7_change_49 : decode cX7_change 49 = .ok (.getfield 60, 3) := by decide +kernel
theorem dX7_change_52 : decode cX7_change 52 = .ok (.bipush 8, 2) := by decide +kernel
theorem dX7_change_54 : decode cX7_change 54 = .ok (.if_icmp .ge 12, 3) := by decide +kernel
theorem dX7_change_57 : decode cX7_change 57 = .ok (.aload_n 0, 1) := by decide +kernel
theorem dX7_change_58 : decode cX7_change 58 = .ok (.getfield 60, 3) := by decide +kernel
theorem dX7_change_61 : decode cX7_change 61 = .ok (.iconst 1, 1) := by decide +kernel
theorem dX7_change_62 : decode cX7_change 62 = .ok (.iadd, 1) := by decide +kernel
theorem dX7_change_63 : decode cX7_change 63 = .ok (.goto 7, 3) := by decide +kernel
theorem dX7_change_66 : decode cX7_change 66 = .ok (.aload_n 0, 1) := by decide +kernel
theorem dX7_change_67 : decode cX7_change 67 = .ok (.getfield 60, 3) := by decide +kernel
theorem dX7_change_70 : decode cX7_change 70 = .ok (.putfield 60, 3) := by decide +kernel
theorem dX7_change_73 : decode cX7_change 73 = .ok (.aload_n 0, 1) := by decide +kernel
theorem dX7_change_74 : decode cX7_change 74 = .ok (.iconst 0, 1) := by decide +kernel
theorem dX7_change_75 : decode cX7_change 75 = .ok (.putfield 63, 3) := by decide +kernel
theorem dX7_change_78 : decode cX7_change 78 = .ok (.return_, 1) := by decide +kernel
theorem dX7_right_0 : decode cX7_right 0 = .ok (.aload_n 0, 1) := by decide +kernel
theorem dX7_right_1 : decode cX7_right 1 = .ok (.getfield 47, 3) := by decide +kernel
theorem dX7_right_4 : decode cX7_right 4 = .ok (.ifCond .ne 12, 3) := by decide +kernel
theorem dX7_right_7 : decode cX7_right 7 = .ok (.iload_n 1, 1) := by decide +kernel
theorem dX7_right_8 : decode cX7_right 8 = .ok (.ifCond .ne 8, 3) := by decide +kernel
theorem dX7_right_11 : decode cX7_right 11 = .ok (.aload_n 0, 1) := by decide +kernel
theorem dX7_right_12 : decode cX7_right 12 = .ok (.iload_n 2, 1) := by decide +kernel
theorem dX7_right_13 : decode cX7_right 13 = .ok (.putfield 47, 3) := by decide +kernel
theorem dX7_right_16 : decode cX7_right 16 = .ok (.aload_n 0, 1) := by decide +kernel
theorem dX7_right_17 : decode cX7_right 17 = .ok (.getfield 47, 3) := by decide +kernel
theorem dX7_right_20 : decode cX7_right 20 = .ok (.ifCond .ne 7, 3) := by decide +kernel
theorem dX7_right_23 : decode cX7_right 23 = .ok (.iconst 1, 1) := by decide +kernel
theorem dX7_right_24 : decode cX7_right 24 = .ok (.goto 4, 3) := by decide +kernel
theorem dX7_right_27 : decode cX7_right 27 = .ok (.iconst 0, 1) := by decide +kernel
theorem dX7_right_28 : decode cX7_right 28 = .ok (.ireturn, 1) := by decide +kernel
theorem dX7_begins_0 : decode cX7_begins 0 = .ok (.iconst 0, 1) := by decide +kernel
theorem dX7_begins_1 : decode cX7_begins 1 = .ok (.istore_n 3, 1) := by decide +kernel
theorem dX7_begins_2 : decode cX7_begins 2 = .ok (.iload_n 3, 1) := by decide +kernel
theorem dX7_begins_3 : decode cX7_begins 3 = .ok (.sipush 5100, 3) := by decide +kernel
theorem dX7_begins_6 : decode cX7_begins 6 = .ok (.if_icmp .ge 16, 3) := by decide +kernel
theorem dX7_begins_9 : decode cX7_begins 9 = .ok (.aload_n 0, 1) := by decide +kernel
theorem dX7_begins_10 : decode cX7_begins 10 = .ok (.getfield 14, 3) := by decide +kernel
theorem dX7_begins_13 : decode cX7_begins 13 = .ok (.iload_n 3, 1) := by decide +kernel
theorem dX7_begins_14 : decode cX7_begins 14 = .ok (.iconst 0, 1) := by decide +kernel
theorem dX7_begins_15 : decode cX7_begins 15 = .ok (.iastore, 1) := by decide +kernel
theorem dX7_begins_16 : decode cX7_begins 16 = .ok (.iinc 3 1, 3) := by decide +kernel
theorem dX7_begins_19 : decode cX7_begins 19 = .ok (.goto (-17), 3) := by decide +kernel
theorem dX7_begins_22 : decode cX7_begins 22 = .ok (.aload_n 0, 1) := by decide +kernel
theorem dX7_begins_23 : decode cX7_begins 23 = .ok (.getfield 14, 3) := by decide +kernel
theorem dX7_begins_26 : decode cX7_begins 26 = .ok (.iconst 0, 1) := by decide +kernel
theorem dX7_begins_27 : decode cX7_begins 27 = .ok (.iload_n 1, 1) := by decide +kernel
theorem dX7_begins_28 : decode cX7_begins 28 = .ok (.iastore, 1) := by decide +kernel
theorem dX7_begins_29 : decode cX7_begins 29 = .ok (.aload_n 0, 1) := by decide +kernel
theorem dX7_begins_30 : decode cX7_begins 30 = .ok (.getfield 14, 3) := by decide +kernel
theorem dX7_begins_33 : decode cX7_begins 33 = .ok (.iconst 1, 1) := by decide +kernel
theorem dX7_begins_34 : decode cX7_begins 34 = .ok (.iload_n 2, 1) := by decide +kernel
theorem dX7_begins_35 : decode cX7_begins 35 = .ok (.iastore, 1) := by decide +kernel
theorem dX7_begins_36 : decode cX7_begins 36 = .ok (.aload_n 0, 1) := by decide +kernel
theorem dX7_begins_37 : decode cX7_begins 37 = .ok (.getfield 14, 3) := by decide +kernel
theorem dX7_begins_40 : decode cX7_begins 40 = .ok (.iconst 3, 1) := by decide +kernel
theorem dX7_begins_41 : decode cX7_begins 41 = .ok (.iconst 4, 1) := by decide +kernel
theorem dX7_begins_42 : decode cX7_begins 42 = .ok (.iastore, 1) := by decide +kernel
theorem dX7_begins_43 : decode cX7_begins 43 = .ok (.return_, 1) := by decide +kernel
theorem dX7_wide_0 : decode cX7_wide 0 = .ok (.aload_n 0, 1) := by decide +kernel
theorem dX7_wide_1 : decode cX7_wide 1 = .ok (.iconst 0, 1) := by decide +kernel
theorem dX7_wide_2 : decode cX7_wide 2 = .ok (.invokevirtual 53, 3) := by decide +kernel
theorem dX7_wide_5 : decode cX7_wide 5 = .ok (.ireturn, 1) := by decide +kernel
theorem dX7_high_0 : decode cX7_high 0 = .ok (.aload_n 0, 1) := by decide +kernel
theorem dX7_high_1 : decode cX7_high 1 = .ok (.iconst 1, 1) := by decide +kernel
theorem dX7_high_2 : decode cX7_high 2 = .ok (.invokevirtual 53, 3) := by decide +kernel
theorem dX7_high_5 : decode cX7_high 5 = .ok (.ireturn, 1) := by decide +kernel
theorem dX7_plates_0 : decode cX7_plates 0 = .ok (.aload_n 0, 1) := by decide +kernel
theorem dX7_plates_1 : decode cX7_plates 1 = .ok (.iconst 2, 1) := by decide +kernel
theorem dX7_plates_2 : decode cX7_plates 2 = .ok (.invokevirtual 53, 3) := by decide +kernel
theorem dX7_plates_5 : decode cX7_plates 5 = .ok (.ireturn, 1) := by decide +kernel
theorem dX7_isPlate_0 : decode cX7_isPlate 0 = .ok (.iload_n 1, 1) := by decide +kernel
theorem dX7_isPlate_1 : decode cX7_isPlate 1 = .ok (.iconst 0, 1) := by decide +kernel
theorem dX7_isPlate_2 : decode cX7_isPlate 2 = .ok (.aload_n 0, 1) := by decide +kernel
theorem dX7_isPlate_3 : decode cX7_isPlate 3 = .ok (.invokevirtual 67, 3) := by decide +kernel
theorem dX7_isPlate_6 : decode cX7_isPlate 6 = .ok (.iconst 1, 1) := by decide +kernel
theorem dX7_isPlate_7 : decode cX7_isPlate 7 = .ok (.isub, 1) := by decide +kernel
theorem dX7_isPlate_8 : decode cX7_isPlate 8 = .ok (.invokestatic 71, 3) := by decide +kernel
theorem dX7_isPlate_11 : decode cX7_isPlate 11 = .ok (.ireturn, 1) := by decide +kernel
theorem dX7_isCell_0 : decode cX7_isCell 0 = .ok (.iload_n 1, 1) := by decide +kernel
theorem dX7_isCell_1 : decode cX7_isCell 1 = .ok (.iconst 0, 1) := by decide +kernel
theorem dX7_isCell_2 : decode cX7_isCell 2 = .ok (.aload_n 0, 1) := by decide +kernel
theorem dX7_isCell_3 : decode cX7_isCell 3 = .ok (.invokevirtual 75, 3) := by decide +kernel
theorem dX7_isCell_6 : decode cX7_isCell 6 = .ok (.iconst 1, 1) := by decide +kernel
theorem dX7_isCell_7 : decode cX7_isCell 7 = .ok (.isub, 1) := by decide +kernel
theorem dX7_isCell_8 : decode cX7_isCell 8 = .ok (.invokestatic 71, 3) := by decide +kernel
theorem dX7_isCell_11 : decode cX7_isCell 11 = .ok (.ifCond .eq 21, 3) := by decide +kernel
theorem dX7_isCell_14 : decode cX7_isCell 14 = .ok (.iload_n 2, 1) := by decide +kernel
theorem dX7_isCell_15 : decode cX7_isCell 15 = .ok (.iconst 0, 1) := by decide +kernel
theorem dX7_isCell_16 : decode cX7_isCell 16 = .ok (.aload_n 0, 1) := by decide +kernel
theorem dX7_isCell_17 : decode cX7_isCell 17 = .ok (.invokevirtual 78, 3) := by decide +kernel
theorem dX7_isCell_20 : decode cX7_isCell 20 = .ok (.iconst 1, 1) := by decide +kernel
theorem dX7_isCell_21 : decode cX7_isCell 21 = .ok (.isub, 1) := by decide +kernel
theorem dX7_isCell_22 : decode cX7_isCell 22 = .ok (.invokestatic 71, 3) := by decide +kernel
theorem dX7_isCell_25 : decode cX7_isCell 25 = .ok (.ifCond .eq 7, 3) := by decide +kernel
theorem dX7_isCell_28 : decode cX7_isCell 28 = .ok (.iconst 1, 1) := by decide +kernel
theorem dX7_isCell_29 : decode cX7_isCell 29 = .ok (.goto 4, 3) := by decide +kernel
theorem dX7_isCell_32 : decode cX7_isCell 32 = .ok (.iconst 0, 1) := by decide +kernel
theorem dX7_isCell_33 : decode cX7_isCell 33 = .ok (.ireturn, 1) := by decide +kernel
theorem dX7_toneAt_0 : decode cX7_toneAt 0 = .ok (.aload_n 0, 1) := by decide +kernel
theorem dX7_toneAt_1 : decode cX7_toneAt 1 = .ok (.iconst 4, 1) := by decide +kernel
theorem dX7_toneAt_2 : decode cX7_toneAt 2 = .ok (.bipush 16, 2) := by decide +kernel
theorem dX7_toneAt_4 : decode cX7_toneAt 4 = .ok (.iload_n 2, 1) := by decide +kernel
theorem dX7_toneAt_5 : decode cX7_toneAt 5 = .ok (.imul, 1) := by decide +kernel
theorem dX7_toneAt_6 : decode cX7_toneAt 6 = .ok (.iadd, 1) := by decide +kernel
theorem dX7_toneAt_7 : decode cX7_toneAt 7 = .ok (.iload_n 1, 1) := by decide +kernel
theorem dX7_toneAt_8 : decode cX7_toneAt 8 = .ok (.iadd, 1) := by decide +kernel
theorem dX7_toneAt_9 : decode cX7_toneAt 9 = .ok (.invokevirtual 53, 3) := by decide +kernel
theorem dX7_toneAt_12 : decode cX7_toneAt 12 = .ok (.ireturn, 1) := by decide +kernel
theorem dX7_squareOf_0 : decode cX7_squareOf 0 = .ok (.aload_n 0, 1) := by decide +kernel
theorem dX7_squareOf_1 : decode cX7_squareOf 1 = .ok (.iload_n 1, 1) := by decide +kernel
theorem dX7_squareOf_2 : decode cX7_squareOf 2 = .ok (.bipush 7, 2) := by decide +kernel
theorem dX7_squareOf_4 : decode cX7_squareOf 4 = .ok (.invokevirtual 81, 3) := by decide +kernel
theorem dX7_squareOf_7 : decode cX7_squareOf 7 = .ok (.aload_n 0, 1) := by decide +kernel
theorem dX7_squareOf_8 : decode cX7_squareOf 8 = .ok (.iload_n 1, 1) := by decide +kernel
theorem dX7_squareOf_9 : decode cX7_squareOf 9 = .ok (.bipush 7, 2) := by decide +kernel
theorem dX7_squareOf_11 : decode cX7_squareOf 11 = .ok (.invokevirtual 81, 3) := by decide +kernel
theorem dX7_squareOf_14 : decode cX7_squareOf 14 = .ok (.imul, 1) := by decide +kernel
theorem dX7_squareOf_15 : decode cX7_squareOf 15 = .ok (.aload_n 0, 1) := by decide +kernel
theorem dX7_squareOf_16 : decode cX7_squareOf 16 = .ok (.iload_n 1, 1) := by decide +kernel
theorem dX7_squareOf_17 : decode cX7_squareOf 17 = .ok (.bipush 8, 2) := by decide +kernel
theorem dX7_squareOf_19 : decode cX7_squareOf 19 = .ok (.invokevirtual 81, 3) := by decide +kernel
theorem dX7_squareOf_22 : decode cX7_squareOf 22 = .ok (.aload_n 0, 1) := by decide +kernel
theorem dX7_squareOf_23 : decode cX7_squareOf 23 = .ok (.iload_n 1, 1) := by decide +kernel
theorem dX7_squareOf_24 : decode cX7_squareOf 24 = .ok (.bipush 8, 2) := by decide +kernel
theorem dX7_squareOf_26 : decode cX7_squareOf 26 = .ok (.invokevirtual 81, 3) := by decide +kernel
theorem dX7_squareOf_29 : decode cX7_squareOf 29 = .ok (.imul, 1) := by decide +kernel
theorem dX7_squareOf_30 : decode cX7_squareOf 30 = .ok (.iadd, 1) := by decide +kernel
theorem dX7_squareOf_31 : decode cX7_squareOf 31 = .ok (.ireturn, 1) := by decide +kernel
theorem dX7_measure_0 : decode cX7_measure 0 = .ok (.iload_n 1, 1) := by decide +kernel
theorem dX7_measure_1 : decode cX7_measure 1 = .ok (.iload_n 1, 1) := by decide +kernel
theorem dX7_measure_2 : decode cX7_measure 2 = .ok (.imul, 1) := by decide +kernel
theorem dX7_measure_3 : decode cX7_measure 3 = .ok (.iload_n 2, 1) := by decide +kernel
theorem dX7_measure_4 : decode cX7_measure 4 = .ok (.iload_n 2, 1) := by decide +kernel
theorem dX7_measure_5 : decode cX7_measure 5 = .ok (.imul, 1) := by decide +kernel
theorem dX7_measure_6 : decode cX7_measure 6 = .ok (.iadd, 1) := by decide +kernel
theorem dX7_measure_7 : decode cX7_measure 7 = .ok (.istore 5, 2) := by decide +kernel
theorem dX7_measure_9 : decode cX7_measure 9 = .ok (.iload_n 1, 1) := by decide +kernel
theorem dX7_measure_10 : decode cX7_measure 10 = .ok (.iload_n 3, 1) := by decide +kernel
theorem dX7_measure_11 : decode cX7_measure 11 = .ok (.imul, 1) := by decide +kernel
theorem dX7_measure_12 : decode cX7_measure 12 = .ok (.iload_n 2, 1) := by decide +kernel
theorem dX7_measure_13 : decode cX7_measure 13 = .ok (.iload 4, 2) := by decide +kernel
theorem dX7_measure_15 : decode cX7_measure 15 = .ok (.imul, 1) := by decide +kernel
theorem dX7_measure_16 : decode cX7_measure 16 = .ok (.iadd, 1) := by decide +kernel
theorem dX7_measure_17 : decode cX7_measure 17 = .ok (.iload 5, 2) := by decide +kernel
theorem dX7_measure_19 : decode cX7_measure 19 = .ok (.irem, 1) := by decide +kernel
theorem dX7_measure_20 : decode cX7_measure 20 = .ok (.iload 5, 2) := by decide +kernel
theorem dX7_measure_22 : decode cX7_measure 22 = .ok (.iadd, 1) := by decide +kernel
theorem dX7_measure_23 : decode cX7_measure 23 = .ok (.iload 5, 2) := by decide +kernel
theorem dX7_measure_25 : decode cX7_measure 25 = .ok (.irem, 1) := by decide +kernel
theorem dX7_measure_26 : decode cX7_measure 26 = .ok (.istore 6, 2) := by decide +kernel
theorem dX7_measure_28 : decode cX7_measure 28 = .ok (.iload_n 1, 1) := by decide +kernel
theorem dX7_measure_29 : decode cX7_measure 29 = .ok (.iload 4, 2) := by decide +kernel
theorem dX7_measure_31 : decode cX7_measure 31 = .ok (.imul, 1) := by decide +kernel
theorem dX7_measure_32 : decode cX7_measure 32 = .ok (.iload_n 2, 1) := by decide +kernel
theorem dX7_measure_33 : decode cX7_measure 33 = .ok (.iload_n 3, 1) := by decide +kernel
theorem dX7_measure_34 : decode cX7_measure 34 = .ok (.imul, 1) := by decide +kernel
theorem dX7_measure_35 : decode cX7_measure 35 = .ok (.isub, 1) := by decide +kernel
theorem dX7_measure_36 : decode cX7_measure 36 = .ok (.iload 5, 2) := by decide +kernel
theorem dX7_measure_38 : decode cX7_measure 38 = .ok (.irem, 1) := by decide +kernel
theorem dX7_measure_39 : decode cX7_measure 39 = .ok (.iload 5, 2) := by decide +kernel
theorem dX7_measure_41 : decode cX7_measure 41 = .ok (.iadd, 1) := by decide +kernel
theorem dX7_measure_42 : decode cX7_measure 42 = .ok (.iload 5, 2) := by decide +kernel
theorem dX7_measure_44 : decode cX7_measure 44 = .ok (.irem, 1) := by decide +kernel
theorem dX7_measure_45 : decode cX7_measure 45 = .ok (.istore 7, 2) := by decide +kernel
theorem dX7_measure_47 : decode cX7_measure 47 = .ok (.iconst 2, 1) := by decide +kernel
theorem dX7_measure_48 : decode cX7_measure 48 = .ok (.iload 6, 2) := by decide +kernel
theorem dX7_measure_50 : decode cX7_measure 50 = .ok (.imul, 1) := by decide +kernel
theorem dX7_measure_51 : decode cX7_measure 51 = .ok (.iload 5, 2) := by decide +kernel
theorem dX7_measure_53 : decode cX7_measure 53 = .ok (.if_icmp .ge 13, 3) := by decide +kernel
theorem dX7_measure_56 : decode cX7_measure 56 = .ok (.iload 5, 2) := by decide +kernel
theorem dX7_measure_58 : decode cX7_measure 58 = .ok (.iconst 2, 1) := by decide +kernel
theorem dX7_measure_59 : decode cX7_measure 59 = .ok (.iload 6, 2) := by decide +kernel
theorem dX7_measure_61 : decode cX7_measure 61 = .ok (.imul, 1) := by decide +kernel
theorem dX7_measure_62 : decode cX7_measure 62 = .ok (.isub, 1) := by decide +kernel
theorem dX7_measure_63 : decode cX7_measure 63 = .ok (.goto 10, 3) := by decide +kernel
theorem dX7_measure_66 : decode cX7_measure 66 = .ok (.iconst 2, 1) := by decide +kernel
theorem dX7_measure_67 : decode cX7_measure 67 = .ok (.iload 6, 2) := by decide +kernel
theorem dX7_measure_69 : decode cX7_measure 69 = .ok (.imul, 1) := by decide +kernel
theorem dX7_measure_70 : decode cX7_measure 70 = .ok (.iload 5, 2) := by decide +kernel
theorem dX7_measure_72 : decode cX7_measure 72 = .ok (.isub, 1) := by decide +kernel
theorem dX7_measure_73 : decode cX7_measure 73 = .ok (.istore 8, 2) := by decide +kernel
theorem dX7_measure_75 : decode cX7_measure 75 = .ok (.iconst 2, 1) := by decide +kernel
theorem dX7_measure_76 : decode cX7_measure 76 = .ok (.iload 7, 2) := by decide +kernel
theorem dX7_measure_78 : decode cX7_measure 78 = .ok (.imul, 1) := by decide +kernel
theorem dX7_measure_79 : decode cX7_measure 79 = .ok (.iload 5, 2) := by decide +kernel
theorem dX7_measure_81 : decode cX7_measure 81 = .ok (.if_icmp .ge 13, 3) := by decide +kernel
theorem dX7_measure_84 : decode cX7_measure 84 = .ok (.iload 5, 2) := by decide +kernel
theorem dX7_measure_86 : decode cX7_measure 86 = .ok (.iconst 2, 1) := by decide +kernel
theorem dX7_measure_87 : decode cX7_measure 87 = .ok (.iload 7, 2) := by decide +kernel
theorem dX7_measure_89 : decode cX7_measure 89 = .ok (.imul, 1) := by decide +kernel
theorem dX7_measure_90 : decode cX7_measure 90 = .ok (.isub, 1) := by decide +kernel
theorem dX7_measure_91 : decode cX7_measure 91 = .ok (.goto 10, 3) := by decide +kernel
theorem dX7_measure_94 : decode cX7_measure 94 = .ok (.iconst 2, 1) := by decide +kernel
theorem dX7_measure_95 : decode cX7_measure 95 = .ok (.iload 7, 2) := by decide +kernel
theorem dX7_measure_97 : decode cX7_measure 97 = .ok (.imul, 1) := by decide +kernel
theorem dX7_measure_98 : decode cX7_measure 98 = .ok (.iload 5, 2) := by decide +kernel
theorem dX7_measure_100 : decode cX7_measure 100 = .ok (.isub, 1) := by decide +kernel
theorem dX7_measure_101 : decode cX7_measure 101 = .ok (.istore 9, 2) := by decide +kernel
theorem dX7_measure_103 : decode cX7_measure 103 = .ok (.iload_n 0, 1) := by decide +kernel
theorem dX7_measure_104 : decode cX7_measure 104 = .ok (.ifCond .ne 17, 3) := by decide +kernel
theorem dX7_measure_107 : decode cX7_measure 107 = .ok (.iload 8, 2) := by decide +kernel
theorem dX7_measure_109 : decode cX7_measure 109 = .ok (.iload 8, 2) := by decide +kernel
theorem dX7_measure_111 : decode cX7_measure 111 = .ok (.imul, 1) := by decide +kernel
theorem dX7_measure_112 : decode cX7_measure 112 = .ok (.iload 9, 2) := by decide +kernel
theorem dX7_measure_114 : decode cX7_measure 114 = .ok (.iload 9, 2) := by decide +kernel
theorem dX7_measure_116 : decode cX7_measure 116 = .ok (.imul, 1) := by decide +kernel
theorem dX7_measure_117 : decode cX7_measure 117 = .ok (.iadd, 1) := by decide +kernel
theorem dX7_measure_118 : decode cX7_measure 118 = .ok (.goto 33, 3) := by decide +kernel
theorem dX7_measure_121 : decode cX7_measure 121 = .ok (.iload_n 0, 1) := by decide +kernel
theorem dX7_measure_122 : decode cX7_measure 122 = .ok (.iconst 1, 1) := by decide +kernel
theorem dX7_measure_123 : decode cX7_measure 123 = .ok (.if_icmp .ne 8, 3) := by decide +kernel
theorem dX7_measure_126 : decode cX7_measure 126 = .ok (.iload 8, 2) := by decide +kernel
theorem dX7_measure_128 : decode cX7_measure 128 = .ok (.goto 23, 3) := by decide +kernel
theorem dX7_measure_131 : decode cX7_measure 131 = .ok (.iload_n 0, 1) := by decide +kernel
theorem dX7_measure_132 : decode cX7_measure 132 = .ok (.iconst 2, 1) := by decide +kernel
theorem dX7_measure_133 : decode cX7_measure 133 = .ok (.if_icmp .ne 11, 3) := by decide +kernel
theorem dX7_measure_136 : decode cX7_measure 136 = .ok (.iload 8, 2) := by decide +kernel
theorem dX7_measure_138 : decode cX7_measure 138 = .ok (.iload 9, 2) := by decide +kernel
theorem dX7_measure_140 : decode cX7_measure 140 = .ok (.iadd, 1) := by decide +kernel
theorem dX7_measure_141 : decode cX7_measure 141 = .ok (.goto 10, 3) := by decide +kernel
theorem dX7_measure_144 : decode cX7_measure 144 = .ok (.iload 8, 2) := by decide +kernel
theorem dX7_measure_146 : decode cX7_measure 146 = .ok (.iload 9, 2) := by decide +kernel
theorem dX7_measure_148 : decode cX7_measure 148 = .ok (.invokestatic 85, 3) := by decide +kernel
theorem dX7_measure_151 : decode cX7_measure 151 = .ok (.ireturn, 1) := by decide +kernel
theorem dX7_laysMeasures_0 : decode cX7_laysMeasures 0 = .ok (.aload_n 0, 1) := by decide +kernel
theorem dX7_laysMeasures_1 : decode cX7_laysMeasures 1 = .ok (.iload_n 1, 1) := by decide +kernel
theorem dX7_laysMeasures_2 : decode cX7_laysMeasures 2 = .ok (.invokevirtual 90, 3) := by decide +kernel
theorem dX7_laysMeasures_5 : decode cX7_laysMeasures 5 = .ok (.istore_n 2, 1) := by decide +kernel
theorem dX7_laysMeasures_6 : decode cX7_laysMeasures 6 = .ok (.iconst 0, 1) := by decide +kernel
theorem dX7_laysMeasures_7 : decode cX7_laysMeasures 7 = .ok (.istore_n 3, 1) := by decide +kernel
theorem dX7_laysMeasures_8 : decode cX7_laysMeasures 8 = .ok (.iload_n 3, 1) := by decide +kernel
theorem dX7_laysMeasures_9 : decode cX7_laysMeasures 9 = .ok (.iload_n 2, 1) := by decide +kernel
theorem dX7_laysMeasures_10 : decode cX7_laysMeasures 10 = .ok (.iload_n 2, 1) := by decide +kernel
theorem dX7_laysMeasures_11 : decode cX7_laysMeasures 11 = .ok (.imul, 1) := by decide +kernel
theorem dX7_laysMeasures_12 : decode cX7_laysMeasures 12 = .ok (.if_icmp .ge 45, 3) := by decide +kernel
theorem dX7_laysMeasures_15 : decode cX7_laysMeasures 15 = .ok (.aload_n 0, 1) := by decide +kernel
theorem dX7_laysMeasures_16 : decode cX7_laysMeasures 16 = .ok (.getfield 17, 3) := by decide +kernel
theorem dX7_laysMeasures_19 : decode cX7_laysMeasures 19 = .ok (.iload_n 3, 1) := by decide +kernel
theorem dX7_laysMeasures_20 : decode cX7_laysMeasures 20 = .ok (.aload_n 0, 1) := by decide +kernel
theorem dX7_laysMeasures_21 : decode cX7_laysMeasures 21 = .ok (.iload_n 1, 1) := by decide +kernel
theorem dX7_laysMeasures_22 : decode cX7_laysMeasures 22 = .ok (.bipush 9, 2) := by decide +kernel
theorem dX7_laysMeasures_24 : decode cX7_laysMeasures 24 = .ok (.invokevirtual 81, 3) := by decide +kernel
theorem dX7_laysMeasures_27 : decode cX7_laysMeasures 27 = .ok (.aload_n 0, 1) := by decide +kernel
theorem dX7_laysMeasures_28 : decode cX7_laysMeasures 28 = .ok (.iload_n 1, 1) := by decide +kernel
theorem dX7_laysMeasures_29 : decode cX7_laysMeasures 29 = .ok (.bipush 7, 2) := by decide +kernel
theorem dX7_laysMeasures_31 : decode cX7_laysMeasures 31 = .ok (.invokevirtual 81, 3) := by decide +kernel
theorem dX7_laysMeasures_34 : decode cX7_laysMeasures 34 = .ok (.aload_n 0, 1) := by decide +kernel
theorem dX7_laysMeasures_35 : decode cX7_laysMeasures 35 = .ok (.iload_n 1, 1) := by decide +kernel
theorem dX7_laysMeasures_36 : decode cX7_laysMeasures 36 = .ok (.bipush 8, 2) := by decide +kernel
theorem dX7_laysMeasures_38 : decode cX7_laysMeasures 38 = .ok (.invokevirtual 81, 3) := by decide +kernel
theorem dX7_laysMeasures_41 : decode cX7_laysMeasures 41 = .ok (.iload_n 3, 1) := by decide +kernel
theorem dX7_laysMeasures_42 : decode cX7_laysMeasures 42 = .ok (.iload_n 2, 1) := by decide +kernel
theorem dX7_laysMeasures_43 : decode cX7_laysMeasures 43 = .ok (.irem, 1) := by decide +kernel
theorem dX7_laysMeasures_44 : decode cX7_laysMeasures 44 = .ok (.iload_n 3, 1) := by decide +kernel
theorem dX7_laysMeasures_45 : decode cX7_laysMeasures 45 = .ok (.iload_n 2, 1) := by decide +kernel
theorem dX7_laysMeasures_46 : decode cX7_laysMeasures 46 = .ok (.idiv, 1) := by decide +kernel
theorem dX7_laysMeasures_47 : decode cX7_laysMeasures 47 = .ok (.invokestatic 93, 3) := by decide +kernel
theorem dX7_laysMeasures_50 : decode cX7_laysMeasures 50 = .ok (.iastore, 1) := by decide +kernel
theorem dX7_laysMeasures_51 : decode cX7_laysMeasures 51 = .ok (.iinc 3 1, 3) := by decide +kernel
theorem dX7_laysMeasures_54 : decode cX7_laysMeasures 54 = .ok (.goto (-46), 3) := by decide +kernel
theorem dX7_laysMeasures_57 : decode cX7_laysMeasures 57 = .ok (.return_, 1) := by decide +kernel
theorem dX7_rankOf_0 : decode cX7_rankOf 0 = .ok (.iconst 0, 1) := by decide +kernel
theorem dX7_rankOf_1 : decode cX7_rankOf 1 = .ok (.istore_n 3, 1) := by decide +kernel
theorem dX7_rankOf_2 : decode cX7_rankOf 2 = .ok (.iconst 0, 1) := by decide +kernel
theorem dX7_rankOf_3 : decode cX7_rankOf 3 = .ok (.istore 4, 2) := by decide +kernel
theorem dX7_rankOf_5 : decode cX7_rankOf 5 = .ok (.iload 4, 2) := by decide +kernel
theorem dX7_rankOf_7 : decode cX7_rankOf 7 = .ok (.iload_n 2, 1) := by decide +kernel
theorem dX7_rankOf_8 : decode cX7_rankOf 8 = .ok (.iload_n 2, 1) := by decide +kernel
theorem dX7_rankOf_9 : decode cX7_rankOf 9 = .ok (.imul, 1) := by decide +kernel
theorem dX7_rankOf_10 : decode cX7_rankOf 10 = .ok (.if_icmp .ge 55, 3) := by decide +kernel
theorem dX7_rankOf_13 : decode cX7_rankOf 13 = .ok (.iload_n 3, 1) := by decide +kernel
theorem dX7_rankOf_14 : decode cX7_rankOf 14 = .ok (.aload_n 0, 1) := by decide +kernel
theorem dX7_rankOf_15 : decode cX7_rankOf 15 = .ok (.getfield 17, 3) := by decide +kernel
theorem dX7_rankOf_18 : decode cX7_rankOf 18 = .ok (.iload 4, 2) := by decide +kernel
theorem dX7_rankOf_20 : decode cX7_rankOf 20 = .ok (.iaload, 1) := by decide +kernel
theorem dX7_rankOf_21 : decode cX7_rankOf 21 = .ok (.aload_n 0, 1) := by decide +kernel
theorem dX7_rankOf_22 : decode cX7_rankOf 22 = .ok (.getfield 17, 3) := by decide +kernel
theorem dX7_rankOf_25 : decode cX7_rankOf 25 = .ok (.iload_n 1, 1) := by decide +kernel
theorem dX7_rankOf_26 : decode cX7_rankOf 26 = .ok (.iaload, 1) := by decide +kernel
theorem dX7_rankOf_27 : decode cX7_rankOf 27 = .ok (.if_icmp .lt 25, 3) := by decide +kernel
theorem dX7_rankOf_30 : decode cX7_rankOf 30 = .ok (.aload_n 0, 1) := by decide +kernel
theorem dX7_rankOf_31 : decode cX7_rankOf 31 = .ok (.getfield 17, 3) := by decide +kernel
theorem dX7_rankOf_34 : decode cX7_rankOf 34 = .ok (.iload 4, 2) := by decide +kernel
theorem dX7_rankOf_36 : decode cX7_rankOf 36 = .ok (.iaload, 1) := by decide +kernel
theorem dX7_rankOf_37 : decode cX7_rankOf 37 = .ok (.aload_n 0, 1) := by decide +kernel
theorem dX7_rankOf_38 : decode cX7_rankOf 38 = .ok (.getfield 17, 3) := by decide +kernel
theorem dX7_rankOf_41 : decode cX7_rankOf 41 = .ok (.iload_n 1, 1) := by decide +kernel
theorem dX7_rankOf_42 : decode cX7_rankOf 42 = .ok (.iaload, 1) := by decide +kernel
theorem dX7_rankOf_43 : decode cX7_rankOf 43 = .ok (.if_icmp .ne 13, 3) := by decide +kernel
theorem dX7_rankOf_46 : decode cX7_rankOf 46 = .ok (.iload 4, 2) := by decide +kernel
theorem dX7_rankOf_48 : decode cX7_rankOf 48 = .ok (.iload_n 1, 1) := by decide +kernel
theorem dX7_rankOf_49 : decode cX7_rankOf 49 = .ok (.if_icmp .ge 7, 3) := by decide +kernel
theorem dX7_rankOf_52 : decode cX7_rankOf 52 = .ok (.iconst 1, 1) := by decide +kernel
theorem dX7_rankOf_53 : decode cX7_rankOf 53 = .ok (.goto 4, 3) := by decide +kernel
theorem dX7_rankOf_56 : decode cX7_rankOf 56 = .ok (.iconst 0, 1) := by decide +kernel
theorem dX7_rankOf_57 : decode cX7_rankOf 57 = .ok (.iadd, 1) := by decide +kernel
theorem dX7_rankOf_58 : decode cX7_rankOf 58 = .ok (.istore_n 3, 1) := by decide +kernel
theorem dX7_rankOf_59 : decode cX7_rankOf 59 = .ok (.iinc 4 1, 3) := by decide +kernel
theorem dX7_rankOf_62 : decode cX7_rankOf 62 = .ok (.goto (-57), 3) := by decide +kernel
theorem dX7_rankOf_65 : decode cX7_rankOf 65 = .ok (.iload_n 3, 1) := by decide +kernel
theorem dX7_rankOf_66 : decode cX7_rankOf 66 = .ok (.ireturn, 1) := by decide +kernel
theorem dX7_toneOn_0 : decode cX7_toneOn 0 = .ok (.aload_n 0, 1) := by decide +kernel
theorem dX7_toneOn_1 : decode cX7_toneOn 1 = .ok (.iload_n 1, 1) := by decide +kernel
theorem dX7_toneOn_2 : decode cX7_toneOn 2 = .ok (.bipush 13, 2) := by decide +kernel
theorem dX7_toneOn_4 : decode cX7_toneOn 4 = .ok (.invokevirtual 81, 3) := by decide +kernel
theorem dX7_toneOn_7 : decode cX7_toneOn 7 = .ok (.istore 4, 2) := by decide +kernel
theorem dX7_toneOn_9 : decode cX7_toneOn 9 = .ok (.iload 4, 2) := by decide +kernel
theorem dX7_toneOn_11 : decode cX7_toneOn 11 = .ok (.ifCond .ne 10, 3) := by decide +kernel
theorem dX7_toneOn_14 : decode cX7_toneOn 14 = .ok (.aload_n 0, 1) := by decide +kernel
theorem dX7_toneOn_15 : decode cX7_toneOn 15 = .ok (.iload_n 2, 1) := by decide +kernel
theorem dX7_toneOn_16 : decode cX7_toneOn 16 = .ok (.iload_n 3, 1) := by decide +kernel
theorem dX7_toneOn_17 : decode cX7_toneOn 17 = .ok (.invokevirtual 97, 3) := by decide +kernel
theorem dX7_toneOn_20 : decode cX7_toneOn 20 = .ok (.ireturn, 1) := by decide +kernel
theorem dX7_toneOn_21 : decode cX7_toneOn 21 = .ok (.iconst 0, 1) := by decide +kernel
theorem dX7_toneOn_22 : decode cX7_toneOn 22 = .ok (.istore 5, 2) := by decide +kernel
theorem dX7_toneOn_24 : decode cX7_toneOn 24 = .ok (.iconst 0, 1) := by decide +kernel
theorem dX7_toneOn_25 : decode cX7_toneOn 25 = .ok (.istore 6, 2) := by decide +kernel
theorem dX7_toneOn_27 : decode cX7_toneOn 27 = .ok (.iload 6, 2) := by decide +kernel
theorem dX7_toneOn_29 : decode cX7_toneOn 29 = .ok (.iload 4, 2) := by decide +kernel
theorem dX7_toneOn_31 : decode cX7_toneOn 31 = .ok (.if_icmp .ge 232, 3) := by decide +kernel
theorem dX7_toneOn_34 : decode cX7_toneOn 34 = .ok (.aload_n 0, 1) := by decide +kernel
theorem dX7_toneOn_35 : decode cX7_toneOn 35 = .ok (.iload_n 1, 1) := by decide +kernel
theorem dX7_toneOn_36 : decode cX7_toneOn 36 = .ok (.bipush 26, 2) := by decide +kernel
theorem dX7_toneOn_38 : decode cX7_toneOn 38 = .ok (.iconst 2, 1) := by decide +kernel
theorem dX7_toneOn_39 : decode cX7_toneOn 39 = .ok (.iload 6, 2) := by decide +kernel
theorem dX7_toneOn_41 : decode cX7_toneOn 41 = .ok (.imul, 1) := by decide +kernel
theorem dX7_toneOn_42 : decode cX7_toneOn 42 = .ok (.iadd, 1) := by decide +kernel
theorem dX7_toneOn_43 : decode cX7_toneOn 43 = .ok (.invokevirtual 81, 3) := by decide +kernel
theorem dX7_toneOn_46 : decode cX7_toneOn 46 = .ok (.istore 7, 2) := by decide +kernel
theorem dX7_toneOn_48 : decode cX7_toneOn 48 = .ok (.aload_n 0, 1) := by decide +kernel
theorem dX7_toneOn_49 : decode cX7_toneOn 49 = .ok (.iload_n 1, 1) := by decide +kernel
theorem dX7_toneOn_50 : decode cX7_toneOn 50 = .ok (.bipush 26, 2) := by decide +kernel
theorem dX7_toneOn_52 : decode cX7_toneOn 52 = .ok (.iconst 2, 1) := by decide +kernel
theorem dX7_toneOn_53 : decode cX7_toneOn 53 = .ok (.iload 6, 2) := by decide +kernel
theorem dX7_toneOn_55 : decode cX7_toneOn 55 = .ok (.imul, 1) := by decide +kernel
theorem dX7_toneOn_56 : decode cX7_toneOn 56 = .ok (.iadd, 1) := by decide +kernel
theorem dX7_toneOn_57 : decode cX7_toneOn 57 = .ok (.iconst 1, 1) := by decide +kernel
theorem dX7_toneOn_58 : decode cX7_toneOn 58 = .ok (.iadd, 1) := by decide +kernel
theorem dX7_toneOn_59 : decode cX7_toneOn 59 = .ok (.invokevirtual 81, 3) := by decide +kernel
theorem dX7_toneOn_62 : decode cX7_toneOn 62 = .ok (.istore 8, 2) := by decide +kernel
theorem dX7_toneOn_64 : decode cX7_toneOn 64 = .ok (.iload 7, 2) := by decide +kernel
theorem dX7_toneOn_66 : decode cX7_toneOn 66 = .ok (.iconst 1, 1) := by decide +kernel
theorem dX7_toneOn_67 : decode cX7_toneOn 67 = .ok (.if_icmp .gt 66, 3) := by decide +kernel
theorem dX7_toneOn_70 : decode cX7_toneOn 70 = .ok (.aload_n 0, 1) := by decide +kernel
theorem dX7_toneOn_71 : decode cX7_toneOn 71 = .ok (.getfield 20, 3) := by decide +kernel
theorem dX7_toneOn_74 : decode cX7_toneOn 74 = .ok (.iload 5, 2) := by decide +kernel
theorem dX7_toneOn_76 : decode cX7_toneOn 76 = .ok (.iload 7, 2) := by decide +kernel
theorem dX7_toneOn_78 : decode cX7_toneOn 78 = .ok (.ifCond .ne 9, 3) := by decide +kernel
theorem dX7_toneOn_81 : decode cX7_toneOn 81 = .ok (.iload 8, 2) := by decide +kernel
theorem dX7_toneOn_83 : decode cX7_toneOn 83 = .ok (.i2l, 1) := by decide +kernel
theorem dX7_toneOn_84 : decode cX7_toneOn 84 = .ok (.goto 42, 3) := by decide +kernel
theorem dX7_toneOn_87 : decode cX7_toneOn 87 = .ok (.iload 8, 2) := by decide +kernel
theorem dX7_toneOn_89 : decode cX7_toneOn 89 = .ok (.ifCond .ne 13, 3) := by decide +kernel
theorem dX7_toneOn_92 : decode cX7_toneOn 92 = .ok (.aload_n 0, 1) := by decide +kernel
theorem dX7_toneOn_93 : decode cX7_toneOn 93 = .ok (.iload_n 2, 1) := by decide +kernel
theorem dX7_toneOn_94 : decode cX7_toneOn 94 = .ok (.iload_n 3, 1) := by decide +kernel
theorem dX7_toneOn_95 : decode cX7_toneOn 95 = .ok (.invokevirtual 97, 3) := by decide +kernel
theorem dX7_toneOn_98 : decode cX7_toneOn 98 = .ok (.i2l, 1) := by decide +kernel
theorem dX7_toneOn_99 : decode cX7_toneOn 99 = .ok (.goto 27, 3) := by decide +kernel
theorem dX7_toneOn_102 : decode cX7_toneOn 102 = .ok (.iload 8, 2) := by decide +kernel
theorem dX7_toneOn_104 : decode cX7_toneOn 104 = .ok (.iconst 1, 1) := by decide +kernel
theorem dX7_toneOn_105 : decode cX7_toneOn 105 = .ok (.if_icmp .ne 8, 3) := by decide +kernel
theorem dX7_toneOn_108 : decode cX7_toneOn 108 = .ok (.iload_n 2, 1) := by decide +kernel
theorem dX7_toneOn_109 : decode cX7_toneOn 109 = .ok (.i2l, 1) := by decide +kernel
theorem dX7_toneOn_110 : decode cX7_toneOn 110 = .ok (.goto 16, 3) := by decide +kernel
theorem dX7_toneOn_113 : decode cX7_toneOn 113 = .ok (.iload 8, 2) := by decide +kernel
theorem dX7_toneOn_115 : decode cX7_toneOn 115 = .ok (.iconst 2, 1) := by decide +kernel
theorem dX7_toneOn_116 : decode cX7_toneOn 116 = .ok (.if_icmp .ne 8, 3) := by decide +kernel
theorem dX7_toneOn_119 : decode cX7_toneOn 119 = .ok (.iload_n 3, 1) := by decide +kernel
theorem dX7_toneOn_120 : decode cX7_toneOn 120 = .ok (.i2l, 1) := by decide +kernel
theorem dX7_toneOn_121 : decode cX7_toneOn 121 = .ok (.goto 5, 3) := by decide +kernel
theorem dX7_toneOn_124 : decode cX7_toneOn 124 = .ok (.iload_n 1, 1) := by decide +kernel
theorem dX7_toneOn_125 : decode cX7_toneOn 125 = .ok (.i2l, 1) := by decide +kernel
theorem dX7_toneOn_126 : decode cX7_toneOn 126 = .ok (.lastore, 1) := by decide +kernel
theorem dX7_toneOn_127 : decode cX7_toneOn 127 = .ok (.iinc 5 1, 3) := by decide +kernel
theorem dX7_toneOn_130 : decode cX7_toneOn 130 = .ok (.goto 127, 3) := by decide +kernel
theorem dX7_toneOn_133 : decode cX7_toneOn 133 = .ok (.iinc 5 (-1), 3) := by decide +kernel
theorem dX7_toneOn_136 : decode cX7_toneOn 136 = .ok (.aload_n 0, 1) := by decide +kernel
theorem dX7_toneOn_137 : decode cX7_toneOn 137 = .ok (.getfield 20, 3) := by decide +kernel
theorem dX7_toneOn_140 : decode cX7_toneOn 140 = .ok (.iload 5, 2) := by decide +kernel
theorem dX7_toneOn_142 : decode cX7_toneOn 142 = .ok (.laload, 1) := by decide +kernel
theorem dX7_toneOn_143 : decode cX7_toneOn 143 = .ok (.lstore 9, 2) := by decide +kernel
theorem dX7_toneOn_145 : decode cX7_toneOn 145 = .ok (.aload_n 0, 1) := by decide +kernel
theorem dX7_toneOn_146 : decode cX7_toneOn 146 = .ok (.getfield 20, 3) := by decide +kernel
theorem dX7_toneOn_149 : decode cX7_toneOn 149 = .ok (.iload 5, 2) := by decide +kernel
theorem dX7_toneOn_151 : decode cX7_toneOn 151 = .ok (.iconst 1, 1) := by decide +kernel
theorem dX7_toneOn_152 : decode cX7_toneOn 152 = .ok (.isub, 1) := by decide +kernel
theorem dX7_toneOn_153 : decode cX7_toneOn 153 = .ok (.laload, 1) := by decide +kernel
theorem dX7_toneOn_154 : decode cX7_toneOn 154 = .ok (.lstore 11, 2) := by decide +kernel
theorem dX7_toneOn_156 : decode cX7_toneOn 156 = .ok (.iload 7, 2) := by decide +kernel
theorem dX7_toneOn_158 : decode cX7_toneOn 158 = .ok (.iconst 2, 1) := by decide +kernel
theorem dX7_toneOn_159 : decode cX7_toneOn 159 = .ok (.if_icmp .ne 11, 3) := by decide +kernel
theorem dX7_toneOn_162 : decode cX7_toneOn 162 = .ok (.lload 11, 2) := by decide +kernel
theorem dX7_toneOn_164 : decode cX7_toneOn 164 = .ok (.lload 9, 2) := by decide +kernel
theorem dX7_toneOn_166 : decode cX7_toneOn 166 = .ok (.ladd, 1) := by decide +kernel
theorem dX7_toneOn_167 : decode cX7_toneOn 167 = .ok (.goto 47, 3) := by decide +kernel
theorem dX7_toneOn_170 : decode cX7_toneOn 170 = .ok (.iload 7, 2) := by decide +kernel
theorem dX7_toneOn_172 : decode cX7_toneOn 172 = .ok (.iconst 3, 1) := by decide +kernel
theorem dX7_toneOn_173 : decode cX7_toneOn 173 = .ok (.if_icmp .ne 11, 3) := by decide +kernel
theorem dX7_toneOn_176 : decode cX7_toneOn 176 = .ok (.lload 11, 2) := by decide +kernel
theorem dX7_toneOn_178 : decode cX7_toneOn 178 = .ok (.lload 9, 2) := by decide +kernel
theorem dX7_toneOn_180 : decode cX7_toneOn 180 = .ok (.lsub, 1) := by decide +kernel
theorem dX7_toneOn_181 : decode cX7_toneOn 181 = .ok (.goto 33, 3) := by decide +kernel
theorem dX7_toneOn_184 : decode cX7_toneOn 184 = .ok (.iload 7, 2) := by decide +kernel
theorem dX7_toneOn_186 : decode cX7_toneOn 186 = .ok (.iconst 4, 1) := by decide +kernel
theorem dX7_toneOn_187 : decode cX7_toneOn 187 = .ok (.if_icmp .ne 11, 3) := by decide +kernel
theorem dX7_toneOn_190 : decode cX7_toneOn 190 = .ok (.lload 11, 2) := by decide +kernel
theorem dX7_toneOn_192 : decode cX7_toneOn 192 = .ok (.lload 9, 2) := by decide +kernel
theorem dX7_toneOn_194 : decode cX7_toneOn 194 = .ok (.lmul, 1) := by decide +kernel
theorem dX7_toneOn_195 : decode cX7_toneOn 195 = .ok (.goto 19, 3) := by decide +kernel
theorem dX7_toneOn_198 : decode cX7_toneOn 198 = .ok (.lload 9, 2) := by decide +kernel
theorem dX7_toneOn_200 : decode cX7_toneOn 200 = .ok (.lconst 0, 1) := by decide +kernel
theorem dX7_toneOn_201 : decode cX7_toneOn 201 = .ok (.lcmp, 1) := by decide +kernel
theorem dX7_toneOn_202 : decode cX7_toneOn 202 = .ok (.ifCond .ne 7, 3) := by decide +kernel
theorem dX7_toneOn_205 : decode cX7_toneOn 205 = .ok (.lconst 0, 1) := by decide +kernel
theorem dX7_toneOn_206 : decode cX7_toneOn 206 = .ok (.goto 8, 3) := by decide +kernel
theorem dX7_toneOn_209 : decode cX7_toneOn 209 = .ok (.lload 11, 2) := by decide +kernel
theorem dX7_toneOn_211 : decode cX7_toneOn 211 = .ok (.lload 9, 2) := by decide +kernel
theorem dX7_toneOn_213 : decode cX7_toneOn 213 = .ok (.ldiv, 1) := by decide +kernel
theorem dX7_toneOn_214 : decode cX7_toneOn 214 = .ok (.lstore 13, 2) := by decide +kernel
theorem dX7_toneOn_216 : decode cX7_toneOn 216 = .ok (.aload_n 0, 1) := by decide +kernel
theorem dX7_toneOn_217 : decode cX7_toneOn 217 = .ok (.getfield 20, 3) := by decide +kernel
theorem dX7_toneOn_220 : decode cX7_toneOn 220 = .ok (.iload 5, 2) := by decide +kernel
theorem dX7_toneOn_222 : decode cX7_toneOn 222 = .ok (.iconst 1, 1) := by decide +kernel
theorem dX7_toneOn_223 : decode cX7_toneOn 223 = .ok (.isub, 1) := by decide +kernel
theorem dX7_toneOn_224 : decode cX7_toneOn 224 = .ok (.lload 13, 2) := by decide +kernel
theorem dX7_toneOn_226 : decode cX7_toneOn 226 = .ok (.ldc2_w 100, 3) := by decide +kernel
theorem dX7_toneOn_229 : decode cX7_toneOn 229 = .ok (.lcmp, 1) := by decide +kernel
theorem dX7_toneOn_230 : decode cX7_toneOn 230 = .ok (.ifCond .le 9, 3) := by decide +kernel
theorem dX7_toneOn_233 : decode cX7_toneOn 233 = .ok (.ldc2_w 100, 3) := by decide +kernel
theorem dX7_toneOn_236 : decode cX7_toneOn 236 = .ok (.goto 20, 3) := by decide +kernel
theorem dX7_toneOn_239 : decode cX7_toneOn 239 = .ok (.lload 13, 2) := by decide +kernel
theorem dX7_toneOn_241 : decode cX7_toneOn 241 = .ok (.ldc2_w 102, 3) := by decide +kernel
theorem dX7_toneOn_244 : decode cX7_toneOn 244 = .ok (.lcmp, 1) := by decide +kernel
theorem dX7_toneOn_245 : decode cX7_toneOn 245 = .ok (.ifCond .ge 9, 3) := by decide +kernel
theorem dX7_toneOn_248 : decode cX7_toneOn 248 = .ok (.ldc2_w 102, 3) := by decide +kernel
theorem dX7_toneOn_251 : decode cX7_toneOn 251 = .ok (.goto 5, 3) := by decide +kernel
theorem dX7_toneOn_254 : decode cX7_toneOn 254 = .ok (.lload 13, 2) := by decide +kernel
theorem dX7_toneOn_256 : decode cX7_toneOn 256 = .ok (.lastore, 1) := by decide +kernel
theorem dX7_toneOn_257 : decode cX7_toneOn 257 = .ok (.iinc 6 1, 3) := by decide +kernel
theorem dX7_toneOn_260 : decode cX7_toneOn 260 = .ok (.goto (-233), 3) := by decide +kernel
theorem dX7_toneOn_263 : decode cX7_toneOn 263 = .ok (.aload_n 0, 1) := by decide +kernel
theorem dX7_toneOn_264 : decode cX7_toneOn 264 = .ok (.getfield 20, 3) := by decide +kernel
theorem dX7_toneOn_267 : decode cX7_toneOn 267 = .ok (.iconst 0, 1) := by decide +kernel
theorem dX7_toneOn_268 : decode cX7_toneOn 268 = .ok (.laload, 1) := by decide +kernel
theorem dX7_toneOn_269 : decode cX7_toneOn 269 = .ok (.lconst 0, 1) := by decide +kernel
theorem dX7_toneOn_270 : decode cX7_toneOn 270 = .ok (.lcmp, 1) := by decide +kernel
theorem dX7_toneOn_271 : decode cX7_toneOn 271 = .ok (.ifCond .ge 7, 3) := by decide +kernel
theorem dX7_toneOn_274 : decode cX7_toneOn 274 = .ok (.iconst 0, 1) := by decide +kernel
theorem dX7_toneOn_275 : decode cX7_toneOn 275 = .ok (.goto 28, 3) := by decide +kernel
theorem dX7_toneOn_278 : decode cX7_toneOn 278 = .ok (.aload_n 0, 1) := by decide +kernel
theorem dX7_toneOn_279 : decode cX7_toneOn 279 = .ok (.getfield 20, 3) := by decide +kernel
theorem dX7_toneOn_282 : decode cX7_toneOn 282 = .ok (.iconst 0, 1) := by decide +kernel
theorem dX7_toneOn_283 : decode cX7_toneOn 283 = .ok (.laload, 1) := by decide +kernel
theorem dX7_toneOn_284 : decode cX7_toneOn 284 = .ok (.ldc2_w 104, 3) := by decide +kernel
theorem dX7_toneOn_287 : decode cX7_toneOn 287 = .ok (.lcmp, 1) := by decide +kernel
theorem dX7_toneOn_288 : decode cX7_toneOn 288 = .ok (.ifCond .le 8, 3) := by decide +kernel
theorem dX7_toneOn_291 : decode cX7_toneOn 291 = .ok (.bipush 100, 2) := by decide +kernel
theorem dX7_toneOn_293 : decode cX7_toneOn 293 = .ok (.goto 10, 3) := by decide +kernel
theorem dX7_toneOn_296 : decode cX7_toneOn 296 = .ok (.aload_n 0, 1) := by decide +kernel
theorem dX7_toneOn_297 : decode cX7_toneOn 297 = .ok (.getfield 20, 3) := by decide +kernel
theorem dX7_toneOn_300 : decode cX7_toneOn 300 = .ok (.iconst 0, 1) := by decide +kernel
theorem dX7_toneOn_301 : decode cX7_toneOn 301 = .ok (.laload, 1) := by decide +kernel
theorem dX7_toneOn_302 : decode cX7_toneOn 302 = .ok (.l2i, 1) := by decide +kernel
theorem dX7_toneOn_303 : decode cX7_toneOn 303 = .ok (.ireturn, 1) := by decide +kernel
theorem dX7_isCleaned_0 : decode cX7_isCleaned 0 = .ok (.aload_n 0, 1) := by decide +kernel
theorem dX7_isCleaned_1 : decode cX7_isCleaned 1 = .ok (.iload_n 1, 1) := by decide +kernel
theorem dX7_isCleaned_2 : decode cX7_isCleaned 2 = .ok (.bipush 14, 2) := by decide +kernel
theorem dX7_isCleaned_4 : decode cX7_isCleaned 4 = .ok (.iload_n 3, 1) := by decide +kernel
theorem dX7_isCleaned_5 : decode cX7_isCleaned 5 = .ok (.iadd, 1) := by decide +kernel
theorem dX7_isCleaned_6 : decode cX7_isCleaned 6 = .ok (.invokevirtual 81, 3) := by decide +kernel
theorem dX7_isCleaned_9 : decode cX7_isCleaned 9 = .ok (.iload_n 2, 1) := by decide +kernel
theorem dX7_isCleaned_10 : decode cX7_isCleaned 10 = .ok (.ishr, 1) := by decide +kernel
theorem dX7_isCleaned_11 : decode cX7_isCleaned 11 = .ok (.iconst 1, 1) := by decide +kernel
theorem dX7_isCleaned_12 : decode cX7_isCleaned 12 = .ok (.iand, 1) := by decide +kernel
theorem dX7_isCleaned_13 : decode cX7_isCleaned 13 = .ok (.iconst 1, 1) := by decide +kernel
theorem dX7_isCleaned_14 : decode cX7_isCleaned 14 = .ok (.if_icmp .ne 7, 3) := by decide +kernel
theorem dX7_isCleaned_17 : decode cX7_isCleaned 17 = .ok (.iconst 1, 1) := by decide +kernel
theorem dX7_isCleaned_18 : decode cX7_isCleaned 18 = .ok (.goto 4, 3) := by decide +kernel
theorem dX7_isCleaned_21 : decode cX7_isCleaned 21 = .ok (.iconst 0, 1) := by decide +kernel
theorem dX7_isCleaned_22 : decode cX7_isCleaned 22 = .ok (.ireturn, 1) := by decide +kernel
theorem dX7_bits_0 : decode cX7_bits 0 = .ok (.iconst 0, 1) := by decide +kernel
theorem dX7_bits_1 : decode cX7_bits 1 = .ok (.istore_n 1, 1) := by decide +kernel
theorem dX7_bits_2 : decode cX7_bits 2 = .ok (.iload_n 0, 1) := by decide +kernel
theorem dX7_bits_3 : decode cX7_bits 3 = .ok (.istore_n 2, 1) := by decide +kernel
theorem dX7_bits_4 : decode cX7_bits 4 = .ok (.iload_n 2, 1) := by decide +kernel
theorem dX7_bits_5 : decode cX7_bits 5 = .ok (.ifCond .eq 16, 3) := by decide +kernel
theorem dX7_bits_8 : decode cX7_bits 8 = .ok (.iload_n 1, 1) := by decide +kernel
theorem dX7_bits_9 : decode cX7_bits 9 = .ok (.iload_n 2, 1) := by decide +kernel
theorem dX7_bits_10 : decode cX7_bits 10 = .ok (.iconst 1, 1) := by decide +kernel
theorem dX7_bits_11 : decode cX7_bits 11 = .ok (.iand, 1) := by decide +kernel
theorem dX7_bits_12 : decode cX7_bits 12 = .ok (.iadd, 1) := by decide +kernel
theorem dX7_bits_13 : decode cX7_bits 13 = .ok (.istore_n 1, 1) := by decide +kernel
theorem dX7_bits_14 : decode cX7_bits 14 = .ok (.iload_n 2, 1) := by decide +kernel
theorem dX7_bits_15 : decode cX7_bits 15 = .ok (.iconst 1, 1) := by decide +kernel
theorem dX7_bits_16 : decode cX7_bits 16 = .ok (.iushr, 1) := by decide +kernel
theorem dX7_bits_17 : decode cX7_bits 17 = .ok (.istore_n 2, 1) := by decide +kernel
theorem dX7_bits_18 : decode cX7_bits 18 = .ok (.goto (-14), 3) := by decide +kernel
theorem dX7_bits_21 : decode cX7_bits 21 = .ok (.iload_n 1, 1) := by decide +kernel
theorem dX7_bits_22 : decode cX7_bits 22 = .ok (.ireturn, 1) := by decide +kernel
theorem dX7_isWanted_0 : decode cX7_isWanted 0 = .ok (.aload_n 0, 1) := by decide +kernel
theorem dX7_isWanted_1 : decode cX7_isWanted 1 = .ok (.iload_n 1, 1) := by decide +kernel
theorem dX7_isWanted_2 : decode cX7_isWanted 2 = .ok (.invokevirtual 90, 3) := by decide +kernel
theorem dX7_isWanted_5 : decode cX7_isWanted 5 = .ok (.istore_n 3, 1) := by decide +kernel
theorem dX7_isWanted_6 : decode cX7_isWanted 6 = .ok (.aload_n 0, 1) := by decide +kernel
theorem dX7_isWanted_7 : decode cX7_isWanted 7 = .ok (.getfield 24, 3) := by decide +kernel
theorem dX7_isWanted_10 : decode cX7_isWanted 10 = .ok (.sipush 192, 3) := by decide +kernel
theorem dX7_isWanted_13 : decode cX7_isWanted 13 = .ok (.iload_n 1, 1) := by decide +kernel
theorem dX7_isWanted_14 : decode cX7_isWanted 14 = .ok (.imul, 1) := by decide +kernel
theorem dX7_isWanted_15 : decode cX7_isWanted 15 = .ok (.iload_n 2, 1) := by decide +kernel
theorem dX7_isWanted_16 : decode cX7_isWanted 16 = .ok (.iadd, 1) := by decide +kernel
theorem dX7_isWanted_17 : decode cX7_isWanted 17 = .ok (.iaload, 1) := by decide +kernel
theorem dX7_isWanted_18 : decode cX7_isWanted 18 = .ok (.bipush 100, 2) := by decide +kernel
theorem dX7_isWanted_20 : decode cX7_isWanted 20 = .ok (.imul, 1) := by decide +kernel
theorem dX7_isWanted_21 : decode cX7_isWanted 21 = .ok (.aload_n 0, 1) := by decide +kernel
theorem dX7_isWanted_22 : decode cX7_isWanted 22 = .ok (.getfield 27, 3) := by decide +kernel
theorem dX7_isWanted_25 : decode cX7_isWanted 25 = .ok (.sipush 192, 3) := by decide +kernel
theorem dX7_isWanted_28 : decode cX7_isWanted 28 = .ok (.iload_n 1, 1) := by decide +kernel
theorem dX7_isWanted_29 : decode cX7_isWanted 29 = .ok (.imul, 1) := by decide +kernel
theorem dX7_isWanted_30 : decode cX7_isWanted 30 = .ok (.iload_n 2, 1) := by decide +kernel
theorem dX7_isWanted_31 : decode cX7_isWanted 31 = .ok (.iadd, 1) := by decide +kernel
theorem dX7_isWanted_32 : decode cX7_isWanted 32 = .ok (.iaload, 1) := by decide +kernel
theorem dX7_isWanted_33 : decode cX7_isWanted 33 = .ok (.iload_n 3, 1) := by decide +kernel
theorem dX7_isWanted_34 : decode cX7_isWanted 34 = .ok (.imul, 1) := by decide +kernel
theorem dX7_isWanted_35 : decode cX7_isWanted 35 = .ok (.iload_n 3, 1) := by decide +kernel
theorem dX7_isWanted_36 : decode cX7_isWanted 36 = .ok (.imul, 1) := by decide +kernel
theorem dX7_isWanted_37 : decode cX7_isWanted 37 = .ok (.if_icmp .ge 7, 3) := by decide +kernel
theorem dX7_isWanted_40 : decode cX7_isWanted 40 = .ok (.iconst 1, 1) := by decide +kernel
theorem dX7_isWanted_41 : decode cX7_isWanted 41 = .ok (.goto 4, 3) := by decide +kernel
theorem dX7_isWanted_44 : decode cX7_isWanted 44 = .ok (.iconst 0, 1) := by decide +kernel
theorem dX7_isWanted_45 : decode cX7_isWanted 45 = .ok (.ireturn, 1) := by decide +kernel
theorem dX7_laysPlate_0 : decode cX7_laysPlate 0 = .ok (.aload_n 0, 1) := by decide +kernel
theorem dX7_laysPlate_1 : decode cX7_laysPlate 1 = .ok (.iload_n 1, 1) := by decide +kernel
theorem dX7_laysPlate_2 : decode cX7_laysPlate 2 = .ok (.invokevirtual 106, 3) := by decide +kernel
theorem dX7_laysPlate_5 : decode cX7_laysPlate 5 = .ok (.aload_n 0, 1) := by decide +kernel
theorem dX7_laysPlate_6 : decode cX7_laysPlate 6 = .ok (.iload_n 1, 1) := by decide +kernel
theorem dX7_laysPlate_7 : decode cX7_laysPlate 7 = .ok (.invokevirtual 90, 3) := by decide +kernel
theorem dX7_laysPlate_10 : decode cX7_laysPlate 10 = .ok (.istore_n 2, 1) := by decide +kernel
theorem dX7_laysPlate_11 : decode cX7_laysPlate 11 = .ok (.iconst 0, 1) := by decide +kernel
theorem dX7_laysPlate_12 : decode cX7_laysPlate 12 = .ok (.istore_n 3, 1) := by decide +kernel
theorem dX7_laysPlate_13 : decode cX7_laysPlate 13 = .ok (.iload_n 3, 1) := by decide +kernel
theorem dX7_laysPlate_14 : decode cX7_laysPlate 14 = .ok (.aload_n 0, 1) := by decide +kernel
theorem dX7_laysPlate_15 : decode cX7_laysPlate 15 = .ok (.invokevirtual 78, 3) := by decide +kernel
theorem dX7_laysPlate_18 : decode cX7_laysPlate 18 = .ok (.if_icmp .ge 169, 3) := by decide +kernel
theorem dX7_laysPlate_21 : decode cX7_laysPlate 21 = .ok (.iconst 0, 1) := by decide +kernel
theorem dX7_laysPlate_22 : decode cX7_laysPlate 22 = .ok (.istore 4, 2) := by decide +kernel
theorem dX7_laysPlate_24 : decode cX7_laysPlate 24 = .ok (.iload 4, 2) := by decide +kernel
theorem dX7_laysPlate_26 : decode cX7_laysPlate 26 = .ok (.aload_n 0, 1) := by decide +kernel
theorem dX7_laysPlate_27 : decode cX7_laysPlate 27 = .ok (.invokevirtual 75, 3) := by decide +kernel
theorem dX7_laysPlate_30 : decode cX7_laysPlate 30 = .ok (.if_icmp .ge 151, 3) := by decide +kernel
theorem dX7_laysPlate_33 : decode cX7_laysPlate 33 = .ok (.bipush 16, 2) := by decide +kernel
theorem dX7_laysPlate_35 : decode cX7_laysPlate 35 = .ok (.iload_n 3, 1) := by decide +kernel
theorem dX7_laysPlate_36 : decode cX7_laysPlate 36 = .ok (.imul, 1) := by decide +kernel
theorem dX7_laysPlate_37 : decode cX7_laysPlate 37 = .ok (.iload 4, 2) := by decide +kernel
theorem dX7_laysPlate_39 : decode cX7_laysPlate 39 = .ok (.iadd, 1) := by decide +kernel
theorem dX7_laysPlate_40 : decode cX7_laysPlate 40 = .ok (.istore 5, 2) := by decide +kernel
theorem dX7_laysPlate_42 : decode cX7_laysPlate 42 = .ok (.aload_n 0, 1) := by decide +kernel
theorem dX7_laysPlate_43 : decode cX7_laysPlate 43 = .ok (.getfield 24, 3) := by decide +kernel
theorem dX7_laysPlate_46 : decode cX7_laysPlate 46 = .ok (.sipush 192, 3) := by decide +kernel
theorem dX7_laysPlate_49 : decode cX7_laysPlate 49 = .ok (.iload_n 1, 1) := by decide +kernel
theorem dX7_laysPlate_50 : decode cX7_laysPlate 50 = .ok (.imul, 1) := by decide +kernel
theorem dX7_laysPlate_51 : decode cX7_laysPlate 51 = .ok (.iload 5, 2) := by decide +kernel
theorem dX7_laysPlate_53 : decode cX7_laysPlate 53 = .ok (.iadd, 1) := by decide +kernel
theorem dX7_laysPlate_54 : decode cX7_laysPlate 54 = .ok (.aload_n 0, 1) := by decide +kernel
theorem dX7_laysPlate_55 : decode cX7_laysPlate 55 = .ok (.iload_n 2, 1) := by decide +kernel
theorem dX7_laysPlate_56 : decode cX7_laysPlate 56 = .ok (.iload_n 3, 1) := by decide +kernel
theorem dX7_laysPlate_57 : decode cX7_laysPlate 57 = .ok (.aload_n 0, 1) := by decide +kernel
theorem dX7_laysPlate_58 : decode cX7_laysPlate 58 = .ok (.iload_n 1, 1) := by decide +kernel
theorem dX7_laysPlate_59 : decode cX7_laysPlate 59 = .ok (.bipush 11, 2) := by decide +kernel
theorem dX7_laysPlate_61 : decode cX7_laysPlate 61 = .ok (.invokevirtual 81, 3) := by decide +kernel
theorem dX7_laysPlate_64 : decode cX7_laysPlate 64 = .ok (.iadd, 1) := by decide +kernel
theorem dX7_laysPlate_65 : decode cX7_laysPlate 65 = .ok (.iload_n 2, 1) := by decide +kernel
theorem dX7_laysPlate_66 : decode cX7_laysPlate 66 = .ok (.irem, 1) := by decide +kernel
theorem dX7_laysPlate_67 : decode cX7_laysPlate 67 = .ok (.imul, 1) := by decide +kernel
theorem dX7_laysPlate_68 : decode cX7_laysPlate 68 = .ok (.iload 4, 2) := by decide +kernel
theorem dX7_laysPlate_70 : decode cX7_laysPlate 70 = .ok (.aload_n 0, 1) := by decide +kernel
theorem dX7_laysPlate_71 : decode cX7_laysPlate 71 = .ok (.iload_n 1, 1) := by decide +kernel
theorem dX7_laysPlate_72 : decode cX7_laysPlate 72 = .ok (.bipush 10, 2) := by decide +kernel
theorem dX7_laysPlate_74 : decode cX7_laysPlate 74 = .ok (.invokevirtual 81, 3) := by decide +kernel
theorem dX7_laysPlate_77 : decode cX7_laysPlate 77 = .ok (.iadd, 1) := by decide +kernel
theorem dX7_laysPlate_78 : decode cX7_laysPlate 78 = .ok (.iload_n 2, 1) := by decide +kernel
theorem dX7_laysPlate_79 : decode cX7_laysPlate 79 = .ok (.irem, 1) := by decide +kernel
theorem dX7_laysPlate_80 : decode cX7_laysPlate 80 = .ok (.iadd, 1) := by decide +kernel
theorem dX7_laysPlate_81 : decode cX7_laysPlate 81 = .ok (.iload_n 2, 1) := by decide +kernel
theorem dX7_laysPlate_82 : decode cX7_laysPlate 82 = .ok (.invokevirtual 110, 3) := by decide +kernel
theorem dX7_laysPlate_85 : decode cX7_laysPlate 85 = .ok (.iastore, 1) := by decide +kernel
theorem dX7_laysPlate_86 : decode cX7_laysPlate 86 = .ok (.aload_n 0, 1) := by decide +kernel
theorem dX7_laysPlate_87 : decode cX7_laysPlate 87 = .ok (.getfield 27, 3) := by decide +kernel
theorem dX7_laysPlate_90 : decode cX7_laysPlate 90 = .ok (.sipush 192, 3) := by decide +kernel
theorem dX7_laysPlate_93 : decode cX7_laysPlate 93 = .ok (.iload_n 1, 1) := by decide +kernel
theorem dX7_laysPlate_94 : decode cX7_laysPlate 94 = .ok (.imul, 1) := by decide +kernel
theorem dX7_laysPlate_95 : decode cX7_laysPlate 95 = .ok (.iload 5, 2) := by decide +kernel
theorem dX7_laysPlate_97 : decode cX7_laysPlate 97 = .ok (.iadd, 1) := by decide +kernel
theorem dX7_laysPlate_98 : decode cX7_laysPlate 98 = .ok (.aload_n 0, 1) := by decide +kernel
theorem dX7_laysPlate_99 : decode cX7_laysPlate 99 = .ok (.iload_n 1, 1) := by decide +kernel
theorem dX7_laysPlate_100 : decode cX7_laysPlate 100 = .ok (.iload 4, 2) := by decide +kernel
theorem dX7_laysPlate_102 : decode cX7_laysPlate 102 = .ok (.iload_n 3, 1) := by decide +kernel
theorem dX7_laysPlate_103 : decode cX7_laysPlate 103 = .ok (.invokevirtual 113, 3) := by decide +kernel
theorem dX7_laysPlate_106 : decode cX7_laysPlate 106 = .ok (.iastore, 1) := by decide +kernel
theorem dX7_laysPlate_107 : decode cX7_laysPlate 107 = .ok (.aload_n 0, 1) := by decide +kernel
theorem dX7_laysPlate_108 : decode cX7_laysPlate 108 = .ok (.iload_n 1, 1) := by decide +kernel
theorem dX7_laysPlate_109 : decode cX7_laysPlate 109 = .ok (.iload 5, 2) := by decide +kernel
theorem dX7_laysPlate_111 : decode cX7_laysPlate 111 = .ok (.invokevirtual 117, 3) := by decide +kernel
theorem dX7_laysPlate_114 : decode cX7_laysPlate 114 = .ok (.ifCond .eq 36, 3) := by decide +kernel
theorem dX7_laysPlate_117 : decode cX7_laysPlate 117 = .ok (.aload_n 0, 1) := by decide +kernel
theorem dX7_laysPlate_118 : decode cX7_laysPlate 118 = .ok (.iload_n 1, 1) := by decide +kernel
theorem dX7_laysPlate_119 : decode cX7_laysPlate 119 = .ok (.iload 4, 2) := by decide +kernel
theorem dX7_laysPlate_121 : decode cX7_laysPlate 121 = .ok (.iload_n 3, 1) := by decide +kernel
theorem dX7_laysPlate_122 : decode cX7_laysPlate 122 = .ok (.invokevirtual 121, 3) := by decide +kernel
theorem dX7_laysPlate_125 : decode cX7_laysPlate 125 = .ok (.ifCond .ne 25, 3) := by decide +kernel
theorem dX7_laysPlate_128 : decode cX7_laysPlate 128 = .ok (.aload_n 0, 1) := by decide +kernel
theorem dX7_laysPlate_129 : decode cX7_laysPlate 129 = .ok (.getfield 30, 3) := by decide +kernel
theorem dX7_laysPlate_132 : decode cX7_laysPlate 132 = .ok (.iload 5, 2) := by decide +kernel
theorem dX7_laysPlate_134 : decode cX7_laysPlate 134 = .ok (.iaload, 1) := by decide +kernel
theorem dX7_laysPlate_135 : decode cX7_laysPlate 135 = .ok (.invokestatic 124, 3) := by decide +kernel
theorem dX7_laysPlate_138 : decode cX7_laysPlate 138 = .ok (.aload_n 0, 1) := by decide +kernel
theorem dX7_laysPlate_139 : decode cX7_laysPlate 139 = .ok (.iconst 3, 1) := by decide +kernel
theorem dX7_laysPlate_140 : decode cX7_laysPlate 140 = .ok (.invokevirtual 53, 3) := by decide +kernel
theorem dX7_laysPlate_143 : decode cX7_laysPlate 143 = .ok (.if_icmp .ge 7, 3) := by decide +kernel
theorem dX7_laysPlate_146 : decode cX7_laysPlate 146 = .ok (.iconst 1, 1) := by decide +kernel
theorem dX7_laysPlate_147 : decode cX7_laysPlate 147 = .ok (.goto 4, 3) := by decide +kernel
theorem dX7_laysPlate_150 : decode cX7_laysPlate 150 = .ok (.iconst 0, 1) := by decide +kernel
theorem dX7_laysPlate_151 : decode cX7_laysPlate 151 = .ok (.istore 6, 2) := by decide +kernel
theorem dX7_laysPlate_153 : decode cX7_laysPlate 153 = .ok (.aload_n 0, 1) := by decide +kernel
theorem dX7_laysPlate_154 : decode cX7_laysPlate 154 = .ok (.getfield 30, 3) := by decide +kernel
theorem dX7_laysPlate_157 : decode cX7_laysPlate 157 = .ok (.iload 5, 2) := by decide +kernel
theorem dX7_laysPlate_159 : decode cX7_laysPlate 159 = .ok (.dup2, 1) := by decide +kernel
theorem dX7_laysPlate_160 : decode cX7_laysPlate 160 = .ok (.iaload, 1) := by decide +kernel
theorem dX7_laysPlate_161 : decode cX7_laysPlate 161 = .ok (.iload 6, 2) := by decide +kernel
theorem dX7_laysPlate_163 : decode cX7_laysPlate 163 = .ok (.ifCond .eq 9, 3) := by decide +kernel
theorem dX7_laysPlate_166 : decode cX7_laysPlate 166 = .ok (.iconst 1, 1) := by decide +kernel
theorem dX7_laysPlate_167 : decode cX7_laysPlate 167 = .ok (.iload_n 1, 1) := by decide +kernel
theorem dX7_laysPlate_168 : decode cX7_laysPlate 168 = .ok (.ishl, 1) := by decide +kernel
theorem dX7_laysPlate_169 : decode cX7_laysPlate 169 = .ok (.goto 4, 3) := by decide +kernel
theorem dX7_laysPlate_172 : decode cX7_laysPlate 172 = .ok (.iconst 0, 1) := by decide +kernel
theorem dX7_laysPlate_173 : decode cX7_laysPlate 173 = .ok (.ior, 1) := by decide +kernel
theorem dX7_laysPlate_174 : decode cX7_laysPlate 174 = .ok (.iastore, 1) := by decide +kernel
theorem dX7_laysPlate_175 : decode cX7_laysPlate 175 = .ok (.iinc 4 1, 3) := by decide +kernel
theorem dX7_laysPlate_178 : decode cX7_laysPlate 178 = .ok (.goto (-154), 3) := by decide +kernel
theorem dX7_laysPlate_181 : decode cX7_laysPlate 181 = .ok (.iinc 3 1, 3) := by decide +kernel
theorem dX7_laysPlate_184 : decode cX7_laysPlate 184 = .ok (.goto (-171), 3) := by decide +kernel
theorem dX7_laysPlate_187 : decode cX7_laysPlate 187 = .ok (.return_, 1) := by decide +kernel
theorem dX7_lays_0 : decode cX7_lays 0 = .ok (.aload_n 0, 1) := by decide +kernel
theorem dX7_lays_1 : decode cX7_lays 1 = .ok (.getfield 63, 3) := by decide +kernel
theorem dX7_lays_4 : decode cX7_lays 4 = .ok (.ifCond .eq 4, 3) := by decide +kernel
theorem dX7_lays_7 : decode cX7_lays 7 = .ok (.return_, 1) := by decide +kernel
theorem dX7_lays_8 : decode cX7_lays 8 = .ok (.aload_n 0, 1) := by decide +kernel
theorem dX7_lays_9 : decode cX7_lays 9 = .ok (.iconst 1, 1) := by decide +kernel
theorem dX7_lays_10 : decode cX7_lays 10 = .ok (.putfield 63, 3) := by decide +kernel
theorem dX7_lays_13 : decode cX7_lays 13 = .ok (.iconst 0, 1) := by decide +kernel
theorem dX7_lays_14 : decode cX7_lays 14 = .ok (.istore_n 1, 1) := by decide +kernel
theorem dX7_lays_15 : decode cX7_lays 15 = .ok (.iload_n 1, 1) := by decide +kernel
theorem dX7_lays_16 : decode cX7_lays 16 = .ok (.sipush 192, 3) := by decide +kernel
theorem dX7_lays_19 : decode cX7_lays 19 = .ok (.if_icmp .ge 16, 3) := by decide +kernel
theorem dX7_lays_22 : decode cX7_lays 22 = .ok (.aload_n 0, 1) := by decide +kernel
theorem dX7_lays_23 : decode cX7_lays 23 = .ok (.getfield 30, 3) := by decide +kernel
theorem dX7_lays_26 : decode cX7_lays 26 = .ok (.iload_n 1, 1) := by decide +kernel
theorem dX7_lays_27 : decode cX7_lays 27 = .ok (.iconst 0, 1) := by decide +kernel
theorem dX7_lays_28 : decode cX7_lays 28 = .ok (.iastore, 1) := by decide +kernel
theorem dX7_lays_29 : decode cX7_lays 29 = .ok (.iinc 1 1, 3) := by decide +kernel
theorem dX7_lays_32 : decode cX7_lays 32 = .ok (.goto (-17), 3) := by decide +kernel
theorem dX7_lays_35 : decode cX7_lays 35 = .ok (.iconst 0, 1) := by decide +kernel
theorem dX7_lays_36 : decode cX7_lays 36 = .ok (.istore_n 1, 1) := by decide +kernel
theorem dX7_lays_37 : decode cX7_lays 37 = .ok (.iload_n 1, 1) := by decide +kernel
theorem dX7_lays_38 : decode cX7_lays 38 = .ok (.aload_n 0, 1) := by decide +kernel
theorem dX7_lays_39 : decode cX7_lays 39 = .ok (.invokevirtual 67, 3) := by decide +kernel
theorem dX7_lays_42 : decode cX7_lays 42 = .ok (.if_icmp .ge 14, 3) := by decide +kernel
theorem dX7_lays_45 : decode cX7_lays 45 = .ok (.aload_n 0, 1) := by decide +kernel
theorem dX7_lays_46 : decode cX7_lays 46 = .ok (.iload_n 1, 1) := by decide +kernel
theorem dX7_lays_47 : decode cX7_lays 47 = .ok (.invokevirtual 127, 3) := by decide +kernel
theorem dX7_lays_50 : decode cX7_lays 50 = .ok (.iinc 1 1, 3) := by decide +kernel
theorem dX7_lays_53 : decode cX7_lays 53 = .ok (.goto (-16), 3) := by decide +kernel
theorem dX7_lays_56 : decode cX7_lays 56 = .ok (.return_, 1) := by decide +kernel
theorem dX7_hasDot_0 : decode cX7_hasDot 0 = .ok (.aload_n 0, 1) := by decide +kernel
theorem dX7_hasDot_1 : decode cX7_hasDot 1 = .ok (.iload_n 2, 1) := by decide +kernel
theorem dX7_hasDot_2 : decode cX7_hasDot 2 = .ok (.iload_n 3, 1) := by decide +kernel
theorem dX7_hasDot_3 : decode cX7_hasDot 3 = .ok (.invokevirtual 130, 3) := by decide +kernel
theorem dX7_hasDot_6 : decode cX7_hasDot 6 = .ok (.ifCond .eq 26, 3) := by decide +kernel
theorem dX7_hasDot_9 : decode cX7_hasDot 9 = .ok (.aload_n 0, 1) := by decide +kernel
theorem dX7_hasDot_10 : decode cX7_hasDot 10 = .ok (.getfield 30, 3) := by decide +kernel
theorem dX7_hasDot_13 : decode cX7_hasDot 13 = .ok (.bipush 16, 2) := by decide +kernel
theorem dX7_hasDot_15 : decode cX7_hasDot 15 = .ok (.iload_n 3, 1) := by decide +kernel
theorem dX7_hasDot_16 : decode cX7_hasDot 16 = .ok (.imul, 1) := by decide +kernel
theorem dX7_hasDot_17 : decode cX7_hasDot 17 = .ok (.iload_n 2, 1) := by decide +kernel
theorem dX7_hasDot_18 : decode cX7_hasDot 18 = .ok (.iadd, 1) := by decide +kernel
theorem dX7_hasDot_19 : decode cX7_hasDot 19 = .ok (.iaload, 1) := by decide +kernel
theorem dX7_hasDot_20 : decode cX7_hasDot 20 = .ok (.iload_n 1, 1) := by decide +kernel
theorem dX7_hasDot_21 : decode cX7_hasDot 21 = .ok (.ishr, 1) := by decide +kernel
theorem dX7_hasDot_22 : decode cX7_hasDot 22 = .ok (.iconst 1, 1) := by decide +kernel
theorem dX7_hasDot_23 : decode cX7_hasDot 23 = .ok (.iand, 1) := by decide +kernel
theorem dX7_hasDot_24 : decode cX7_hasDot 24 = .ok (.iconst 1, 1) := by decide +kernel
theorem dX7_hasDot_25 : decode cX7_hasDot 25 = .ok (.if_icmp .ne 7, 3) := by decide +kernel
theorem dX7_hasDot_28 : decode cX7_hasDot 28 = .ok (.iconst 1, 1) := by decide +kernel
theorem dX7_hasDot_29 : decode cX7_hasDot 29 = .ok (.goto 4, 3) := by decide +kernel
theorem dX7_hasDot_32 : decode cX7_hasDot 32 = .ok (.iconst 0, 1) := by decide +kernel
theorem dX7_hasDot_33 : decode cX7_hasDot 33 = .ok (.ireturn, 1) := by decide +kernel
theorem dX7_isSpot_0 : decode cX7_isSpot 0 = .ok (.aload_n 0, 1) := by decide +kernel
theorem dX7_isSpot_1 : decode cX7_isSpot 1 = .ok (.iload_n 1, 1) := by decide +kernel
theorem dX7_isSpot_2 : decode cX7_isSpot 2 = .ok (.iload_n 2, 1) := by decide +kernel
theorem dX7_isSpot_3 : decode cX7_isSpot 3 = .ok (.iload_n 3, 1) := by decide +kernel
theorem dX7_isSpot_4 : decode cX7_isSpot 4 = .ok (.invokevirtual 133, 3) := by decide +kernel
theorem dX7_isSpot_7 : decode cX7_isSpot 7 = .ok (.ifCond .eq 55, 3) := by decide +kernel
theorem dX7_isSpot_10 : decode cX7_isSpot 10 = .ok (.aload_n 0, 1) := by decide +kernel
theorem dX7_isSpot_11 : decode cX7_isSpot 11 = .ok (.iload_n 1, 1) := by decide +kernel
theorem dX7_isSpot_12 : decode cX7_isSpot 12 = .ok (.iload_n 2, 1) := by decide +kernel
theorem dX7_isSpot_13 : decode cX7_isSpot 13 = .ok (.iconst 1, 1) := by decide +kernel
theorem dX7_isSpot_14 : decode cX7_isSpot 14 = .ok (.isub, 1) := by decide +kernel
theorem dX7_isSpot_15 : decode cX7_isSpot 15 = .ok (.iload_n 3, 1) := by decide +kernel
theorem dX7_isSpot_16 : decode cX7_isSpot 16 = .ok (.invokevirtual 133, 3) := by decide +kernel
theorem dX7_isSpot_19 : decode cX7_isSpot 19 = .ok (.ifCond .ne 43, 3) := by decide +kernel
theorem dX7_isSpot_22 : decode cX7_isSpot 22 = .ok (.aload_n 0, 1) := by decide +kernel
theorem dX7_isSpot_23 : decode cX7_isSpot 23 = .ok (.iload_n 1, 1) := by decide +kernel
theorem dX7_isSpot_24 : decode cX7_isSpot 24 = .ok (.iload_n 2, 1) := by decide +kernel
theorem dX7_isSpot_25 : decode cX7_isSpot 25 = .ok (.iconst 1, 1) := by decide +kernel
theorem dX7_isSpot_26 : decode cX7_isSpot 26 = .ok (.iadd, 1) := by decide +kernel
theorem dX7_isSpot_27 : decode cX7_isSpot 27 = .ok (.iload_n 3, 1) := by decide +kernel
theorem dX7_isSpot_28 : decode cX7_isSpot 28 = .ok (.invokevirtual 133, 3) := by decide +kernel
theorem dX7_isSpot_31 : decode cX7_isSpot 31 = .ok (.ifCond .ne 31, 3) := by decide +kernel
theorem dX7_isSpot_34 : decode cX7_isSpot 34 = .ok (.aload_n 0, 1) := by decide +kernel
theorem dX7_isSpot_35 : decode cX7_isSpot 35 = .ok (.iload_n 1, 1) := by decide +kernel
theorem dX7_isSpot_36 : decode cX7_isSpot 36 = .ok (.iload_n 2, 1) := by decide +kernel
theorem dX7_isSpot_37 : decode cX7_isSpot 37 = .ok (.iload_n 3, 1) := by decide +kernel
theorem dX7_isSpot_38 : decode cX7_isSpot 38 = .ok (.iconst 1, 1) := by decide +kernel
theorem dX7_isSpot_39 : decode cX7_isSpot 39 = .ok (.isub, 1) := by decide +kernel
theorem dX7_isSpot_40 : decode cX7_isSpot 40 = .ok (.invokevirtual 133, 3) := by decide +kernel
theorem dX7_isSpot_43 : decode cX7_isSpot 43 = .ok (.ifCond .ne 19, 3) := by decide +kernel
theorem dX7_isSpot_46 : decode cX7_isSpot 46 = .ok (.aload_n 0, 1) := by decide +kernel
theorem dX7_isSpot_47 : decode cX7_isSpot 47 = .ok (.iload_n 1, 1) := by decide +kernel
theorem dX7_isSpot_48 : decode cX7_isSpot 48 = .ok (.iload_n 2, 1) := by decide +kernel
theorem dX7_isSpot_49 : decode cX7_isSpot 49 = .ok (.iload_n 3, 1) := by decide +kernel
theorem dX7_isSpot_50 : decode cX7_isSpot 50 = .ok (.iconst 1, 1) := by decide +kernel
theorem dX7_isSpot_51 : decode cX7_isSpot 51 = .ok (.iadd, 1) := by decide +kernel
theorem dX7_isSpot_52 : decode cX7_isSpot 52 = .ok (.invokevirtual 133, 3) := by decide +kernel
theorem dX7_isSpot_55 : decode cX7_isSpot 55 = .ok (.ifCond .ne 7, 3) := by decide +kernel
theorem dX7_isSpot_58 : decode cX7_isSpot 58 = .ok (.iconst 1, 1) := by decide +kernel
theorem dX7_isSpot_59 : decode cX7_isSpot 59 = .ok (.goto 4, 3) := by decide +kernel
theorem dX7_isSpot_62 : decode cX7_isSpot 62 = .ok (.iconst 0, 1) := by decide +kernel
theorem dX7_isSpot_63 : decode cX7_isSpot 63 = .ok (.ireturn, 1) := by decide +kernel
theorem dX7_dots_0 : decode cX7_dots 0 = .ok (.aload_n 0, 1) := by decide +kernel
theorem dX7_dots_1 : decode cX7_dots 1 = .ok (.invokevirtual 136, 3) := by decide +kernel
theorem dX7_dots_4 : decode cX7_dots 4 = .ok (.iconst 0, 1) := by decide +kernel
theorem dX7_dots_5 : decode cX7_dots 5 = .ok (.istore_n 2, 1) := by decide +kernel
theorem dX7_dots_6 : decode cX7_dots 6 = .ok (.iconst 0, 1) := by decide +kernel
theorem dX7_dots_7 : decode cX7_dots 7 = .ok (.istore_n 3, 1) := by decide +kernel
theorem dX7_dots_8 : decode cX7_dots 8 = .ok (.iload_n 3, 1) := by decide +kernel
theorem dX7_dots_9 : decode cX7_dots 9 = .ok (.aload_n 0, 1) := by decide +kernel
theorem dX7_dots_10 : decode cX7_dots 10 = .ok (.invokevirtual 78, 3) := by decide +kernel
theorem dX7_dots_13 : decode cX7_dots 13 = .ok (.if_icmp .ge 46, 3) := by decide +kernel
theorem dX7_dots_16 : decode cX7_dots 16 = .ok (.iconst 0, 1) := by decide +kernel
theorem dX7_dots_17 : decode cX7_dots 17 = .ok (.istore 4, 2) := by decide +kernel
theorem dX7_dots_19 : decode cX7_dots 19 = .ok (.iload 4, 2) := by decide +kernel
theorem dX7_dots_21 : decode cX7_dots 21 = .ok (.aload_n 0, 1) := by decide +kernel
theorem dX7_dots_22 : decode cX7_dots 22 = .ok (.invokevirtual 75, 3) := by decide +kernel
theorem dX7_dots_25 : decode cX7_dots 25 = .ok (.if_icmp .ge 28, 3) := by decide +kernel
theorem dX7_dots_28 : decode cX7_dots 28 = .ok (.iload_n 2, 1) := by decide +kernel
theorem dX7_dots_29 : decode cX7_dots 29 = .ok (.aload_n 0, 1) := by decide +kernel
theorem dX7_dots_30 : decode cX7_dots 30 = .ok (.iload_n 1, 1) := by decide +kernel
theorem dX7_dots_31 : decode cX7_dots 31 = .ok (.iload 4, 2) := by decide +kernel
theorem dX7_dots_33 : decode cX7_dots 33 = .ok (.iload_n 3, 1) := by decide +kernel
theorem dX7_dots_34 : decode cX7_dots 34 = .ok (.invokevirtual 133, 3) := by decide +kernel
theorem dX7_dots_37 : decode cX7_dots 37 = .ok (.ifCond .eq 7, 3) := by decide +kernel
theorem dX7_dots_40 : decode cX7_dots 40 = .ok (.iconst 1, 1) := by decide +kernel
theorem dX7_dots_41 : decode cX7_dots 41 = .ok (.goto 4, 3) := by decide +kernel
theorem dX7_dots_44 : decode cX7_dots 44 = .ok (.iconst 0, 1) := by decide +kernel
theorem dX7_dots_45 : decode cX7_dots 45 = .ok (.iadd, 1) := by decide +kernel
theorem dX7_dots_46 : decode cX7_dots 46 = .ok (.istore_n 2, 1) := by decide +kernel
theorem dX7_dots_47 : decode cX7_dots 47 = .ok (.iinc 4 1, 3) := by decide +kernel
theorem dX7_dots_50 : decode cX7_dots 50 = .ok (.goto (-31), 3) := by decide +kernel
theorem dX7_dots_53 : decode cX7_dots 53 = .ok (.iinc 3 1, 3) := by decide +kernel
theorem dX7_dots_56 : decode cX7_dots 56 = .ok (.goto (-48), 3) := by decide +kernel
theorem dX7_dots_59 : decode cX7_dots 59 = .ok (.iload_n 2, 1) := by decide +kernel
theorem dX7_dots_60 : decode cX7_dots 60 = .ok (.ireturn, 1) := by decide +kernel
theorem dX7_spots_0 : decode cX7_spots 0 = .ok (.aload_n 0, 1) := by decide +kernel
theorem dX7_spots_1 : decode cX7_spots 1 = .ok (.invokevirtual 136, 3) := by decide +kernel
theorem dX7_spots_4 : decode cX7_spots 4 = .ok (.iconst 0, 1) := by decide +kernel
theorem dX7_spots_5 : decode cX7_spots 5 = .ok (.istore_n 2, 1) := by decide +kernel
theorem dX7_spots_6 : decode cX7_spots 6 = .ok (.iconst 0, 1) := by decide +kernel
theorem dX7_spots_7 : decode cX7_spots 7 = .ok (.istore_n 3, 1) := by decide +kernel
theorem dX7_spots_8 : decode cX7_spots 8 = .ok (.iload_n 3, 1) := by decide +kernel
theorem dX7_spots_9 : decode cX7_spots 9 = .ok (.aload_n 0, 1) := by decide +kernel
theorem dX7_spots_10 : decode cX7_spots 10 = .ok (.invokevirtual 78, 3) := by decide +kernel
theorem dX7_spots_13 : decode cX7_spots 13 = .ok (.if_icmp .ge 46, 3) := by decide +kernel
theorem dX7_spots_16 : decode cX7_spots 16 = .ok (.iconst 0, 1) := by decide +kernel
theorem dX7_spots_17 : decode cX7_spots 17 = .ok (.istore 4, 2) := by decide +kernel
theorem dX7_spots_19 : decode cX7_spots 19 = .ok (.iload 4, 2) := by decide +kernel
theorem dX7_spots_21 : decode cX7_spots 21 = .ok (.aload_n 0, 1) := by decide +kernel
theorem dX7_spots_22 : decode cX7_spots 22 = .ok (.invokevirtual 75, 3) := by decide +kernel
theorem dX7_spots_25 : decode cX7_spots 25 = .ok (.if_icmp .ge 28, 3) := by decide +kernel
theorem dX7_spots_28 : decode cX7_spots 28 = .ok (.iload_n 2, 1) := by decide +kernel
theorem dX7_spots_29 : decode cX7_spots 29 = .ok (.aload_n 0, 1) := by decide +kernel
theorem dX7_spots_30 : decode cX7_spots 30 = .ok (.iload_n 1, 1) := by decide +kernel
theorem dX7_spots_31 : decode cX7_spots 31 = .ok (.iload 4, 2) := by decide +kernel
theorem dX7_spots_33 : decode cX7_spots 33 = .ok (.iload_n 3, 1) := by decide +kernel
theorem dX7_spots_34 : decode cX7_spots 34 = .ok (.invokevirtual 139, 3) := by decide +kernel
theorem dX7_spots_37 : decode cX7_spots 37 = .ok (.ifCond .eq 7, 3) := by decide +kernel
theorem dX7_spots_40 : decode cX7_spots 40 = .ok (.iconst 1, 1) := by decide +kernel
theorem dX7_spots_41 : decode cX7_spots 41 = .ok (.goto 4, 3) := by decide +kernel
theorem dX7_spots_44 : decode cX7_spots 44 = .ok (.iconst 0, 1) := by decide +kernel
theorem dX7_spots_45 : decode cX7_spots 45 = .ok (.iadd, 1) := by decide +kernel
theorem dX7_spots_46 : decode cX7_spots 46 = .ok (.istore_n 2, 1) := by decide +kernel
theorem dX7_spots_47 : decode cX7_spots 47 = .ok (.iinc 4 1, 3) := by decide +kernel
theorem dX7_spots_50 : decode cX7_spots 50 = .ok (.goto (-31), 3) := by decide +kernel
theorem dX7_spots_53 : decode cX7_spots 53 = .ok (.iinc 3 1, 3) := by decide +kernel
theorem dX7_spots_56 : decode cX7_spots 56 = .ok (.goto (-48), 3) := by decide +kernel
theorem dX7_spots_59 : decode cX7_spots 59 = .ok (.iload_n 2, 1) := by decide +kernel
theorem dX7_spots_60 : decode cX7_spots 60 = .ok (.ireturn, 1) := by decide +kernel
theorem dX7_allDots_0 : decode cX7_allDots 0 = .ok (.iconst 0, 1) := by decide +kernel
theorem dX7_allDots_1 : decode cX7_allDots 1 = .ok (.istore_n 1, 1) := by decide +kernel
theorem dX7_allDots_2 : decode cX7_allDots 2 = .ok (.iconst 0, 1) := by decide +kernel
theorem dX7_allDots_3 : decode cX7_allDots 3 = .ok (.istore_n 2, 1) := by decide +kernel
theorem dX7_allDots_4 : decode cX7_allDots 4 = .ok (.iload_n 2, 1) := by decide +kernel
theorem dX7_allDots_5 : decode cX7_allDots 5 = .ok (.aload_n 0, 1) := by decide +kernel
theorem dX7_allDots_6 : decode cX7_allDots 6 = .ok (.invokevirtual 67, 3) := by decide +kernel
theorem dX7_allDots_9 : decode cX7_allDots 9 = .ok (.if_icmp .ge 17, 3) := by decide +kernel
theorem dX7_allDots_12 : decode cX7_allDots 12 = .ok (.iload_n 1, 1) := by decide +kernel
theorem dX7_allDots_13 : decode cX7_allDots 13 = .ok (.aload_n 0, 1) := by decide +kernel
theorem dX7_allDots_14 : decode cX7_allDots 14 = .ok (.iload_n 2, 1) := by decide +kernel
theorem dX7_allDots_15 : decode cX7_allDots 15 = .ok (.invokevirtual 142, 3) := by decide +kernel
theorem dX7_allDots_18 : decode cX7_allDots 18 = .ok (.iadd, 1) := by decide +kernel
theorem dX7_allDots_19 : decode cX7_allDots 19 = .ok (.istore_n 1, 1) := by decide +kernel
theorem dX7_allDots_20 : decode cX7_allDots 20 = .ok (.iinc 2 1, 3) := by decide +kernel
theorem dX7_allDots_23 : decode cX7_allDots 23 = .ok (.goto (-19), 3) := by decide +kernel
theorem dX7_allDots_26 : decode cX7_allDots 26 = .ok (.iload_n 1, 1) := by decide +kernel
theorem dX7_allDots_27 : decode cX7_allDots 27 = .ok (.ireturn, 1) := by decide +kernel
theorem dX7_cellsOf_0 : decode cX7_cellsOf 0 = .ok (.aload_n 0, 1) := by decide +kernel
theorem dX7_cellsOf_1 : decode cX7_cellsOf 1 = .ok (.invokevirtual 136, 3) := by decide +kernel
theorem dX7_cellsOf_4 : decode cX7_cellsOf 4 = .ok (.iconst 0, 1) := by decide +kernel
theorem dX7_cellsOf_5 : decode cX7_cellsOf 5 = .ok (.istore_n 2, 1) := by decide +kernel
theorem dX7_cellsOf_6 : decode cX7_cellsOf 6 = .ok (.iconst 0, 1) := by decide +kernel
theorem dX7_cellsOf_7 : decode cX7_cellsOf 7 = .ok (.istore_n 3, 1) := by decide +kernel
theorem dX7_cellsOf_8 : decode cX7_cellsOf 8 = .ok (.iload_n 3, 1) := by decide +kernel
theorem dX7_cellsOf_9 : decode cX7_cellsOf 9 = .ok (.aload_n 0, 1) := by decide +kernel
theorem dX7_cellsOf_10 : decode cX7_cellsOf 10 = .ok (.invokevirtual 78, 3) := by decide +kernel
theorem dX7_cellsOf_13 : decode cX7_cellsOf 13 = .ok (.if_icmp .ge 54, 3) := by decide +kernel
theorem dX7_cellsOf_16 : decode cX7_cellsOf 16 = .ok (.iconst 0, 1) := by decide +kernel
theorem dX7_cellsOf_17 : decode cX7_cellsOf 17 = .ok (.istore 4, 2) := by decide +kernel
theorem dX7_cellsOf_19 : decode cX7_cellsOf 19 = .ok (.iload 4, 2) := by decide +kernel
theorem dX7_cellsOf_21 : decode cX7_cellsOf 21 = .ok (.aload_n 0, 1) := by decide +kernel
theorem dX7_cellsOf_22 : decode cX7_cellsOf 22 = .ok (.invokevirtual 75, 3) := by decide +kernel
theorem dX7_cellsOf_25 : decode cX7_cellsOf 25 = .ok (.if_icmp .ge 36, 3) := by decide +kernel
theorem dX7_cellsOf_28 : decode cX7_cellsOf 28 = .ok (.iload_n 2, 1) := by decide +kernel
theorem dX7_cellsOf_29 : decode cX7_cellsOf 29 = .ok (.aload_n 0, 1) := by decide +kernel
theorem dX7_cellsOf_30 : decode cX7_cellsOf 30 = .ok (.getfield 30, 3) := by decide +kernel
theorem dX7_cellsOf_33 : decode cX7_cellsOf 33 = .ok (.bipush 16, 2) := by decide +kernel
theorem dX7_cellsOf_35 : decode cX7_cellsOf 35 = .ok (.iload_n 3, 1) := by decide +kernel
theorem dX7_cellsOf_36 : decode cX7_cellsOf 36 = .ok (.imul, 1) := by decide +kernel
theorem dX7_cellsOf_37 : decode cX7_cellsOf 37 = .ok (.iload 4, 2) := by decide +kernel
theorem dX7_cellsOf_39 : decode cX7_cellsOf 39 = .ok (.iadd, 1) := by decide +kernel
theorem dX7_cellsOf_40 : decode cX7_cellsOf 40 = .ok (.iaload, 1) := by decide +kernel
theorem dX7_cellsOf_41 : decode cX7_cellsOf 41 = .ok (.invokestatic 124, 3) := by decide +kernel
theorem dX7_cellsOf_44 : decode cX7_cellsOf 44 = .ok (.iload_n 1, 1) := by decide +kernel
theorem dX7_cellsOf_45 : decode cX7_cellsOf 45 = .ok (.if_icmp .ne 7, 3) := by decide +kernel
theorem dX7_cellsOf_48 : decode cX7_cellsOf 48 = .ok (.iconst 1, 1) := by decide +kernel
theorem dX7_cellsOf_49 : decode cX7_cellsOf 49 = .ok (.goto 4, 3) := by decide +kernel
theorem dX7_cellsOf_52 : decode cX7_cellsOf 52 = .ok (.iconst 0, 1) := by decide +kernel
theorem dX7_cellsOf_53 : decode cX7_cellsOf 53 = .ok (.iadd, 1) := by decide +kernel
theorem dX7_cellsOf_54 : decode cX7_cellsOf 54 = .ok (.istore_n 2, 1) := by decide +kernel
theorem dX7_cellsOf_55 : decode cX7_cellsOf 55 = .ok (.iinc 4 1, 3) := by decide +kernel
theorem dX7_cellsOf_58 : decode cX7_cellsOf 58 = .ok (.goto (-39), 3) := by decide +kernel
theorem dX7_cellsOf_61 : decode cX7_cellsOf 61 = .ok (.iinc 3 1, 3) := by decide +kernel
theorem dX7_cellsOf_64 : decode cX7_cellsOf 64 = .ok (.goto (-56), 3) := by decide +kernel
theorem dX7_cellsOf_67 : decode cX7_cellsOf 67 = .ok (.iload_n 2, 1) := by decide +kernel
theorem dX7_cellsOf_68 : decode cX7_cellsOf 68 = .ok (.ireturn, 1) := by decide +kernel
theorem dX7_cleaned_0 : decode cX7_cleaned 0 = .ok (.iconst 0, 1) := by decide +kernel
theorem dX7_cleaned_1 : decode cX7_cleaned 1 = .ok (.istore_n 2, 1) := by decide +kernel
theorem dX7_cleaned_2 : decode cX7_cleaned 2 = .ok (.iconst 0, 1) := by decide +kernel
theorem dX7_cleaned_3 : decode cX7_cleaned 3 = .ok (.istore_n 3, 1) := by decide +kernel
theorem dX7_cleaned_4 : decode cX7_cleaned 4 = .ok (.iload_n 3, 1) := by decide +kernel
theorem dX7_cleaned_5 : decode cX7_cleaned 5 = .ok (.aload_n 0, 1) := by decide +kernel
theorem dX7_cleaned_6 : decode cX7_cleaned 6 = .ok (.invokevirtual 78, 3) := by decide +kernel
theorem dX7_cleaned_9 : decode cX7_cleaned 9 = .ok (.if_icmp .ge 24, 3) := by decide +kernel
theorem dX7_cleaned_12 : decode cX7_cleaned 12 = .ok (.iload_n 2, 1) := by decide +kernel
theorem dX7_cleaned_13 : decode cX7_cleaned 13 = .ok (.aload_n 0, 1) := by decide +kernel
theorem dX7_cleaned_14 : decode cX7_cleaned 14 = .ok (.iload_n 1, 1) := by decide +kernel
theorem dX7_cleaned_15 : decode cX7_cleaned 15 = .ok (.bipush 14, 2) := by decide +kernel
theorem dX7_cleaned_17 : decode cX7_cleaned 17 = .ok (.iload_n 3, 1) := by decide +kernel
theorem dX7_cleaned_18 : decode cX7_cleaned 18 = .ok (.iadd, 1) := by decide +kernel
theorem dX7_cleaned_19 : decode cX7_cleaned 19 = .ok (.invokevirtual 81, 3) := by decide +kernel
theorem dX7_cleaned_22 : decode cX7_cleaned 22 = .ok (.invokestatic 124, 3) := by decide +kernel
theorem dX7_cleaned_25 : decode cX7_cleaned 25 = .ok (.iadd, 1) := by decide +kernel
theorem dX7_cleaned_26 : decode cX7_cleaned 26 = .ok (.istore_n 2, 1) := by decide +kernel
theorem dX7_cleaned_27 : decode cX7_cleaned 27 = .ok (.iinc 3 1, 3) := by decide +kernel
theorem dX7_cleaned_30 : decode cX7_cleaned 30 = .ok (.goto (-26), 3) := by decide +kernel
theorem dX7_cleaned_33 : decode cX7_cleaned 33 = .ok (.iload_n 2, 1) := by decide +kernel
theorem dX7_cleaned_34 : decode cX7_cleaned 34 = .ok (.ireturn, 1) := by decide +kernel
theorem dX7_sumOn_0 : decode cX7_sumOn 0 = .ok (.aload_n 0, 1) := by decide +kernel
theorem dX7_sumOn_1 : decode cX7_sumOn 1 = .ok (.invokevirtual 136, 3) := by decide +kernel
theorem dX7_sumOn_4 : decode cX7_sumOn 4 = .ok (.iconst 0, 1) := by decide +kernel
theorem dX7_sumOn_5 : decode cX7_sumOn 5 = .ok (.istore_n 2, 1) := by decide +kernel
theorem dX7_sumOn_6 : decode cX7_sumOn 6 = .ok (.iconst 0, 1) := by decide +kernel
theorem dX7_sumOn_7 : decode cX7_sumOn 7 = .ok (.istore_n 3, 1) := by decide +kernel
theorem dX7_sumOn_8 : decode cX7_sumOn 8 = .ok (.iload_n 3, 1) := by decide +kernel
theorem dX7_sumOn_9 : decode cX7_sumOn 9 = .ok (.aload_n 0, 1) := by decide +kernel
theorem dX7_sumOn_10 : decode cX7_sumOn 10 = .ok (.invokevirtual 78, 3) := by decide +kernel
theorem dX7_sumOn_13 : decode cX7_sumOn 13 = .ok (.if_icmp .ge 48, 3) := by decide +kernel
theorem dX7_sumOn_16 : decode cX7_sumOn 16 = .ok (.iconst 0, 1) := by decide +kernel
theorem dX7_sumOn_17 : decode cX7_sumOn 17 = .ok (.istore 4, 2) := by decide +kernel
theorem dX7_sumOn_19 : decode cX7_sumOn 19 = .ok (.iload 4, 2) := by decide +kernel
theorem dX7_sumOn_21 : decode cX7_sumOn 21 = .ok (.aload_n 0, 1) := by decide +kernel
theorem dX7_sumOn_22 : decode cX7_sumOn 22 = .ok (.invokevirtual 75, 3) := by decide +kernel
theorem dX7_sumOn_25 : decode cX7_sumOn 25 = .ok (.if_icmp .ge 30, 3) := by decide +kernel
theorem dX7_sumOn_28 : decode cX7_sumOn 28 = .ok (.iload_n 2, 1) := by decide +kernel
theorem dX7_sumOn_29 : decode cX7_sumOn 29 = .ok (.aload_n 0, 1) := by decide +kernel
theorem dX7_sumOn_30 : decode cX7_sumOn 30 = .ok (.getfield 27, 3) := by decide +kernel
theorem dX7_sumOn_33 : decode cX7_sumOn 33 = .ok (.sipush 192, 3) := by decide +kernel
theorem dX7_sumOn_36 : decode cX7_sumOn 36 = .ok (.iload_n 1, 1) := by decide +kernel
theorem dX7_sumOn_37 : decode cX7_sumOn 37 = .ok (.imul, 1) := by decide +kernel
theorem dX7_sumOn_38 : decode cX7_sumOn 38 = .ok (.bipush 16, 2) := by decide +kernel
theorem dX7_sumOn_40 : decode cX7_sumOn 40 = .ok (.iload_n 3, 1) := by decide +kernel
theorem dX7_sumOn_41 : decode cX7_sumOn 41 = .ok (.imul, 1) := by decide +kernel
theorem dX7_sumOn_42 : decode cX7_sumOn 42 = .ok (.iadd, 1) := by decide +kernel
theorem dX7_sumOn_43 : decode cX7_sumOn 43 = .ok (.iload 4, 2) := by decide +kernel
theorem dX7_sumOn_45 : decode cX7_sumOn 45 = .ok (.iadd, 1) := by decide +kernel
theorem dX7_sumOn_46 : decode cX7_sumOn 46 = .ok (.iaload, 1) := by decide +kernel
theorem dX7_sumOn_47 : decode cX7_sumOn 47 = .ok (.iadd, 1) := by decide +kernel
theorem dX7_sumOn_48 : decode cX7_sumOn 48 = .ok (.istore_n 2, 1) := by decide +kernel
theorem dX7_sumOn_49 : decode cX7_sumOn 49 = .ok (.iinc 4 1, 3) := by decide +kernel
theorem dX7_sumOn_52 : decode cX7_sumOn 52 = .ok (.goto (-33), 3) := by decide +kernel
theorem dX7_sumOn_55 : decode cX7_sumOn 55 = .ok (.iinc 3 1, 3) := by decide +kernel
theorem dX7_sumOn_58 : decode cX7_sumOn 58 = .ok (.goto (-50), 3) := by decide +kernel
theorem dX7_sumOn_61 : decode cX7_sumOn 61 = .ok (.iload_n 2, 1) := by decide +kernel
theorem dX7_sumOn_62 : decode cX7_sumOn 62 = .ok (.ireturn, 1) := by decide +kernel
theorem dX7_blocks_0 : decode cX7_blocks 0 = .ok (.aload_n 0, 1) := by decide +kernel
theorem dX7_blocks_1 : decode cX7_blocks 1 = .ok (.invokevirtual 75, 3) := by decide +kernel
theorem dX7_blocks_4 : decode cX7_blocks 4 = .ok (.aload_n 0, 1) := by decide +kernel
theorem dX7_blocks_5 : decode cX7_blocks 5 = .ok (.iload_n 1, 1) := by decide +kernel
theorem dX7_blocks_6 : decode cX7_blocks 6 = .ok (.invokevirtual 90, 3) := by decide +kernel
theorem dX7_blocks_9 : decode cX7_blocks 9 = .ok (.idiv, 1) := by decide +kernel
theorem dX7_blocks_10 : decode cX7_blocks 10 = .ok (.aload_n 0, 1) := by decide +kernel
theorem dX7_blocks_11 : decode cX7_blocks 11 = .ok (.invokevirtual 78, 3) := by decide +kernel
theorem dX7_blocks_14 : decode cX7_blocks 14 = .ok (.aload_n 0, 1) := by decide +kernel
theorem dX7_blocks_15 : decode cX7_blocks 15 = .ok (.iload_n 1, 1) := by decide +kernel
theorem dX7_blocks_16 : decode cX7_blocks 16 = .ok (.invokevirtual 90, 3) := by decide +kernel
theorem dX7_blocks_19 : decode cX7_blocks 19 = .ok (.idiv, 1) := by decide +kernel
theorem dX7_blocks_20 : decode cX7_blocks 20 = .ok (.imul, 1) := by decide +kernel
theorem dX7_blocks_21 : decode cX7_blocks 21 = .ok (.ireturn, 1) := by decide +kernel
theorem dX7_moireOf_0 : decode cX7_moireOf 0 = .ok (.iload_n 0, 1) := by decide +kernel
theorem dX7_moireOf_1 : decode cX7_moireOf 1 = .ok (.iload_n 0, 1) := by decide +kernel
theorem dX7_moireOf_2 : decode cX7_moireOf 2 = .ok (.imul, 1) := by decide +kernel
theorem dX7_moireOf_3 : decode cX7_moireOf 3 = .ok (.iload_n 1, 1) := by decide +kernel
theorem dX7_moireOf_4 : decode cX7_moireOf 4 = .ok (.iload_n 1, 1) := by decide +kernel
theorem dX7_moireOf_5 : decode cX7_moireOf 5 = .ok (.imul, 1) := by decide +kernel
theorem dX7_moireOf_6 : decode cX7_moireOf 6 = .ok (.iadd, 1) := by decide +kernel
theorem dX7_moireOf_7 : decode cX7_moireOf 7 = .ok (.istore 4, 2) := by decide +kernel
theorem dX7_moireOf_9 : decode cX7_moireOf 9 = .ok (.iload_n 2, 1) := by decide +kernel
theorem dX7_moireOf_10 : decode cX7_moireOf 10 = .ok (.iload_n 2, 1) := by decide +kernel
theorem dX7_moireOf_11 : decode cX7_moireOf 11 = .ok (.imul, 1) := by decide +kernel
theorem dX7_moireOf_12 : decode cX7_moireOf 12 = .ok (.iload_n 3, 1) := by decide +kernel
theorem dX7_moireOf_13 : decode cX7_moireOf 13 = .ok (.iload_n 3, 1) := by decide +kernel
theorem dX7_moireOf_14 : decode cX7_moireOf 14 = .ok (.imul, 1) := by decide +kernel
theorem dX7_moireOf_15 : decode cX7_moireOf 15 = .ok (.iadd, 1) := by decide +kernel
theorem dX7_moireOf_16 : decode cX7_moireOf 16 = .ok (.istore 5, 2) := by decide +kernel
theorem dX7_moireOf_18 : decode cX7_moireOf 18 = .ok (.iload_n 0, 1) := by decide +kernel
theorem dX7_moireOf_19 : decode cX7_moireOf 19 = .ok (.iload 5, 2) := by decide +kernel
theorem dX7_moireOf_21 : decode cX7_moireOf 21 = .ok (.imul, 1) := by decide +kernel
theorem dX7_moireOf_22 : decode cX7_moireOf 22 = .ok (.iload_n 2, 1) := by decide +kernel
theorem dX7_moireOf_23 : decode cX7_moireOf 23 = .ok (.iload 4, 2) := by decide +kernel
theorem dX7_moireOf_25 : decode cX7_moireOf 25 = .ok (.imul, 1) := by decide +kernel
theorem dX7_moireOf_26 : decode cX7_moireOf 26 = .ok (.isub, 1) := by decide +kernel
theorem dX7_moireOf_27 : decode cX7_moireOf 27 = .ok (.istore 6, 2) := by decide +kernel
theorem dX7_moireOf_29 : decode cX7_moireOf 29 = .ok (.iload_n 1, 1) := by decide +kernel
theorem dX7_moireOf_30 : decode cX7_moireOf 30 = .ok (.iload 5, 2) := by decide +kernel
theorem dX7_moireOf_32 : decode cX7_moireOf 32 = .ok (.imul, 1) := by decide +kernel
theorem dX7_moireOf_33 : decode cX7_moireOf 33 = .ok (.iload_n 3, 1) := by decide +kernel
theorem dX7_moireOf_34 : decode cX7_moireOf 34 = .ok (.iload 4, 2) := by decide +kernel
theorem dX7_moireOf_36 : decode cX7_moireOf 36 = .ok (.imul, 1) := by decide +kernel
theorem dX7_moireOf_37 : decode cX7_moireOf 37 = .ok (.isub, 1) := by decide +kernel
theorem dX7_moireOf_38 : decode cX7_moireOf 38 = .ok (.istore 7, 2) := by decide +kernel
theorem dX7_moireOf_40 : decode cX7_moireOf 40 = .ok (.iload 6, 2) := by decide +kernel
theorem dX7_moireOf_42 : decode cX7_moireOf 42 = .ok (.iload 6, 2) := by decide +kernel
theorem dX7_moireOf_44 : decode cX7_moireOf 44 = .ok (.imul, 1) := by decide +kernel
theorem dX7_moireOf_45 : decode cX7_moireOf 45 = .ok (.iload 7, 2) := by decide +kernel
theorem dX7_moireOf_47 : decode cX7_moireOf 47 = .ok (.iload 7, 2) := by decide +kernel
theorem dX7_moireOf_49 : decode cX7_moireOf 49 = .ok (.imul, 1) := by decide +kernel
theorem dX7_moireOf_50 : decode cX7_moireOf 50 = .ok (.iadd, 1) := by decide +kernel
theorem dX7_moireOf_51 : decode cX7_moireOf 51 = .ok (.istore 8, 2) := by decide +kernel
theorem dX7_moireOf_53 : decode cX7_moireOf 53 = .ok (.iload 8, 2) := by decide +kernel
theorem dX7_moireOf_55 : decode cX7_moireOf 55 = .ok (.ifCond .ne 7, 3) := by decide +kernel
theorem dX7_moireOf_58 : decode cX7_moireOf 58 = .ok (.dconst 0, 1) := by decide +kernel
theorem dX7_moireOf_59 : decode cX7_moireOf 59 = .ok (.goto 19, 3) := by decide +kernel
theorem dX7_moireOf_62 : decode cX7_moireOf 62 = .ok (.iload 4, 2) := by decide +kernel
theorem dX7_moireOf_64 : decode cX7_moireOf 64 = .ok (.iload 4, 2) := by decide +kernel
theorem dX7_moireOf_66 : decode cX7_moireOf 66 = .ok (.imul, 1) := by decide +kernel
theorem dX7_moireOf_67 : decode cX7_moireOf 67 = .ok (.iload 5, 2) := by decide +kernel
theorem dX7_moireOf_69 : decode cX7_moireOf 69 = .ok (.imul, 1) := by decide +kernel
theorem dX7_moireOf_70 : decode cX7_moireOf 70 = .ok (.iload 5, 2) := by decide +kernel
theorem dX7_moireOf_72 : decode cX7_moireOf 72 = .ok (.imul, 1) := by decide +kernel
theorem dX7_moireOf_73 : decode cX7_moireOf 73 = .ok (.i2d, 1) := by decide +kernel
theorem dX7_moireOf_74 : decode cX7_moireOf 74 = .ok (.iload 8, 2) := by decide +kernel
theorem dX7_moireOf_76 : decode cX7_moireOf 76 = .ok (.i2d, 1) := by decide +kernel
theorem dX7_moireOf_77 : decode cX7_moireOf 77 = .ok (.ddiv, 1) := by decide +kernel
theorem dX7_moireOf_78 : decode cX7_moireOf 78 = .ok (.dreturn, 1) := by decide +kernel
theorem dX7_moireAt_0 : decode cX7_moireAt 0 = .ok (.aload_n 0, 1) := by decide +kernel
theorem dX7_moireAt_1 : decode cX7_moireAt 1 = .ok (.iload_n 1, 1) := by decide +kernel
theorem dX7_moireAt_2 : decode cX7_moireAt 2 = .ok (.bipush 7, 2) := by decide +kernel
theorem dX7_moireAt_4 : decode cX7_moireAt 4 = .ok (.invokevirtual 81, 3) := by decide +kernel
theorem dX7_moireAt_7 : decode cX7_moireAt 7 = .ok (.aload_n 0, 1) := by decide +kernel
theorem dX7_moireAt_8 : decode cX7_moireAt 8 = .ok (.iload_n 1, 1) := by decide +kernel
theorem dX7_moireAt_9 : decode cX7_moireAt 9 = .ok (.bipush 8, 2) := by decide +kernel
theorem dX7_moireAt_11 : decode cX7_moireAt 11 = .ok (.invokevirtual 81, 3) := by decide +kernel
theorem dX7_moireAt_14 : decode cX7_moireAt 14 = .ok (.aload_n 0, 1) := by decide +kernel
theorem dX7_moireAt_15 : decode cX7_moireAt 15 = .ok (.iload_n 2, 1) := by decide +kernel
theorem dX7_moireAt_16 : decode cX7_moireAt 16 = .ok (.bipush 7, 2) := by decide +kernel
theorem dX7_moireAt_18 : decode cX7_moireAt 18 = .ok (.invokevirtual 81, 3) := by decide +kernel
theorem dX7_moireAt_21 : decode cX7_moireAt 21 = .ok (.aload_n 0, 1) := by decide +kernel
theorem dX7_moireAt_22 : decode cX7_moireAt 22 = .ok (.iload_n 2, 1) := by decide +kernel
theorem dX7_moireAt_23 : decode cX7_moireAt 23 = .ok (.bipush 8, 2) := by decide +kernel
theorem dX7_moireAt_25 : decode cX7_moireAt 25 = .ok (.invokevirtual 81, 3) := by decide +kernel
theorem dX7_moireAt_28 : decode cX7_moireAt 28 = .ok (.invokestatic 145, 3) := by decide +kernel
theorem dX7_moireAt_31 : decode cX7_moireAt 31 = .ok (.dreturn, 1) := by decide +kernel
theorem dX7_append_0 : decode cX7_append 0 = .ok (.aload_n 0, 1) := by decide +kernel
theorem dX7_append_1 : decode cX7_append 1 = .ok (.iconst 0, 1) := by decide +kernel
theorem dX7_append_2 : decode cX7_append 2 = .ok (.putfield 47, 3) := by decide +kernel
theorem dX7_append_5 : decode cX7_append 5 = .ok (.aload_n 0, 1) := by decide +kernel
theorem dX7_append_6 : decode cX7_append 6 = .ok (.getfield 149, 3) := by decide +kernel
theorem dX7_append_9 : decode cX7_append 9 = .ok (.bipush 20, 2) := by decide +kernel
theorem dX7_append_11 : decode cX7_append 11 = .ok (.iadd, 1) := by decide +kernel
theorem dX7_append_12 : decode cX7_append 12 = .ok (.sipush 600, 3) := by decide +kernel
theorem dX7_append_15 : decode cX7_append 15 = .ok (.if_icmp .le 5, 3) := by decide +kernel
theorem dX7_append_18 : decode cX7_append 18 = .ok (.iconst (-1), 1) := by decide +kernel
theorem dX7_append_19 : decode cX7_append 19 = .ok (.ireturn, 1) := by decide +kernel
theorem dX7_append_20 : decode cX7_append 20 = .ok (.aload_n 0, 1) := by decide +kernel
theorem dX7_append_21 : decode cX7_append 21 = .ok (.iload_n 1, 1) := by decide +kernel
theorem dX7_append_22 : decode cX7_append 22 = .ok (.invokevirtual 152, 3) := by decide +kernel
theorem dX7_append_25 : decode cX7_append 25 = .ok (.aload_n 0, 1) := by decide +kernel
theorem dX7_append_26 : decode cX7_append 26 = .ok (.iload_n 2, 1) := by decide +kernel
theorem dX7_append_27 : decode cX7_append 27 = .ok (.invokevirtual 152, 3) := by decide +kernel
theorem dX7_append_30 : decode cX7_append 30 = .ok (.aload_n 0, 1) := by decide +kernel
theorem dX7_append_31 : decode cX7_append 31 = .ok (.iload_n 3, 1) := by decide +kernel
theorem dX7_append_32 : decode cX7_append 32 = .ok (.invokevirtual 152, 3) := by decide +kernel
theorem dX7_append_35 : decode cX7_append 35 = .ok (.aload_n 0, 1) := by decide +kernel
theorem dX7_append_36 : decode cX7_append 36 = .ok (.iload 4, 2) := by decide +kernel
theorem dX7_append_38 : decode cX7_append 38 = .ok (.invokevirtual 152, 3) := by decide +kernel
theorem dX7_append_41 : decode cX7_append 41 = .ok (.aload_n 0, 1) := by decide +kernel
theorem dX7_append_42 : decode cX7_append 42 = .ok (.iload 5, 2) := by decide +kernel
theorem dX7_append_44 : decode cX7_append 44 = .ok (.invokevirtual 152, 3) := by decide +kernel
theorem dX7_append_47 : decode cX7_append 47 = .ok (.aload_n 0, 1) := by decide +kernel
theorem dX7_append_48 : decode cX7_append 48 = .ok (.getfield 149, 3) := by decide +kernel
theorem dX7_append_51 : decode cX7_append 51 = .ok (.ireturn, 1) := by decide +kernel
theorem dX7_four_0 : decode cX7_four 0 = .ok (.bipush 24, 2) := by decide +kernel
theorem dX7_four_2 : decode cX7_four 2 = .ok (.istore_n 2, 1) := by decide +kernel
theorem dX7_four_3 : decode cX7_four 3 = .ok (.iload_n 2, 1) := by decide +kernel
theorem dX7_four_4 : decode cX7_four 4 = .ok (.ifCond .lt 35, 3) := by decide +kernel
theorem dX7_four_7 : decode cX7_four 7 = .ok (.aload_n 0, 1) := by decide +kernel
theorem dX7_four_8 : decode cX7_four 8 = .ok (.getfield 33, 3) := by decide +kernel
theorem dX7_four_11 : decode cX7_four 11 = .ok (.aload_n 0, 1) := by decide +kernel
theorem dX7_four_12 : decode cX7_four 12 = .ok (.getfield 149, 3) := by decide +kernel
theorem dX7_four_15 : decode cX7_four 15 = .ok (.iload_n 1, 1) := by decide +kernel
theorem dX7_four_16 : decode cX7_four 16 = .ok (.iload_n 2, 1) := by decide +kernel
theorem dX7_four_17 : decode cX7_four 17 = .ok (.ishr, 1) := by decide +kernel
theorem dX7_four_18 : decode cX7_four 18 = .ok (.sipush 255, 3) := by decide +kernel
theorem dX7_four_21 : decode cX7_four 21 = .ok (.iand, 1) := by decide +kernel
theorem dX7_four_22 : decode cX7_four 22 = .ok (.iastore, 1) := by decide +kernel
theorem dX7_four_23 : decode cX7_four 23 = .ok (.aload_n 0, 1) := by decide +kernel
theorem dX7_four_24 : decode cX7_four 24 = .ok (.dup, 1) := by decide +kernel
theorem dX7_four_25 : decode cX7_four 25 = .ok (.getfield 149, 3) := by decide +kernel
theorem dX7_four_28 : decode cX7_four 28 = .ok (.iconst 1, 1) := by decide +kernel
theorem dX7_four_29 : decode cX7_four 29 = .ok (.iadd, 1) := by decide +kernel
theorem dX7_four_30 : decode cX7_four 30 = .ok (.putfield 149, 3) := by decide +kernel
theorem dX7_four_33 : decode cX7_four 33 = .ok (.iinc 2 (-8), 3) := by decide +kernel
theorem dX7_four_36 : decode cX7_four 36 = .ok (.goto (-33), 3) := by decide +kernel
theorem dX7_four_39 : decode cX7_four 39 = .ok (.return_, 1) := by decide +kernel
theorem dX7_errorOffset_0 : decode cX7_errorOffset 0 = .ok (.aload_n 0, 1) := by decide +kernel
theorem dX7_errorOffset_1 : decode cX7_errorOffset 1 = .ok (.iconst 0, 1) := by decide +kernel
theorem dX7_errorOffset_2 : decode cX7_errorOffset 2 = .ok (.putfield 47, 3) := by decide +kernel
theorem dX7_errorOffset_5 : decode cX7_errorOffset 5 = .ok (.aload_n 0, 1) := by decide +kernel
theorem dX7_errorOffset_6 : decode cX7_errorOffset 6 = .ok (.getfield 36, 3) := by decide +kernel
theorem dX7_errorOffset_9 : decode cX7_errorOffset 9 = .ok (.ireturn, 1) := by decide +kernel
theorem dX7_fails_0 : decode cX7_fails 0 = .ok (.aload_n 0, 1) := by decide +kernel
theorem dX7_fails_1 : decode cX7_fails 1 = .ok (.getfield 155, 3) := by decide +kernel
theorem dX7_fails_4 : decode cX7_fails 4 = .ok (.ifCond .eq 5, 3) := by decide +kernel
theorem dX7_fails_7 : decode cX7_fails 7 = .ok (.iconst 0, 1) := by decide +kernel
theorem dX7_fails_8 : decode cX7_fails 8 = .ok (.ireturn, 1) := by decide +kernel
theorem dX7_fails_9 : decode cX7_fails 9 = .ok (.aload_n 0, 1) := by decide +kernel
theorem dX7_fails_10 : decode cX7_fails 10 = .ok (.iload_n 1, 1) := by decide +kernel
theorem dX7_fails_11 : decode cX7_fails 11 = .ok (.putfield 155, 3) := by decide +kernel
theorem dX7_fails_14 : decode cX7_fails 14 = .ok (.aload_n 0, 1) := by decide +kernel
theorem dX7_fails_15 : decode cX7_fails 15 = .ok (.iload_n 2, 1) := by decide +kernel
theorem dX7_fails_16 : decode cX7_fails 16 = .ok (.putfield 36, 3) := by decide +kernel
theorem dX7_fails_19 : decode cX7_fails 19 = .ok (.iconst 0, 1) := by decide +kernel
theorem dX7_fails_20 : decode cX7_fails 20 = .ok (.ireturn, 1) := by decide +kernel
theorem dX7_here_0 : decode cX7_here 0 = .ok (.aload_n 0, 1) := by decide +kernel
theorem dX7_here_1 : decode cX7_here 1 = .ok (.getfield 158, 3) := by decide +kernel
theorem dX7_here_4 : decode cX7_here 4 = .ok (.aload_n 0, 1) := by decide +kernel
theorem dX7_here_5 : decode cX7_here 5 = .ok (.getfield 161, 3) := by decide +kernel
theorem dX7_here_8 : decode cX7_here 8 = .ok (.if_icmp .ge 30, 3) := by decide +kernel
theorem dX7_here_11 : decode cX7_here 11 = .ok (.aload_n 0, 1) := by decide +kernel
theorem dX7_here_12 : decode cX7_here 12 = .ok (.getfield 33, 3) := by decide +kernel
theorem dX7_here_15 : decode cX7_here 15 = .ok (.aload_n 0, 1) := by decide +kernel
theorem dX7_here_16 : decode cX7_here 16 = .ok (.getfield 158, 3) := by decide +kernel
theorem dX7_here_19 : decode cX7_here 19 = .ok (.iaload, 1) := by decide +kernel
theorem dX7_here_20 : decode cX7_here 20 = .ok (.bipush 32, 2) := by decide +kernel
theorem dX7_here_22 : decode cX7_here 22 = .ok (.if_icmp .ne 16, 3) := by decide +kernel
theorem dX7_here_25 : decode cX7_here 25 = .ok (.aload_n 0, 1) := by decide +kernel
theorem dX7_here_26 : decode cX7_here 26 = .ok (.dup, 1) := by decide +kernel
theorem dX7_here_27 : decode cX7_here 27 = .ok (.getfield 158, 3) := by decide +kernel
theorem dX7_here_30 : decode cX7_here 30 = .ok (.iconst 1, 1) := by decide +kernel
theorem dX7_here_31 : decode cX7_here 31 = .ok (.iadd, 1) := by decide +kernel
theorem dX7_here_32 : decode cX7_here 32 = .ok (.putfield 158, 3) := by decide +kernel
theorem dX7_here_35 : decode cX7_here 35 = .ok (.goto (-35), 3) := by decide +kernel
theorem dX7_here_38 : decode cX7_here 38 = .ok (.aload_n 0, 1) := by decide +kernel
theorem dX7_here_39 : decode cX7_here 39 = .ok (.getfield 158, 3) := by decide +kernel
theorem dX7_here_42 : decode cX7_here 42 = .ok (.aload_n 0, 1) := by decide +kernel
theorem dX7_here_43 : decode cX7_here 43 = .ok (.getfield 161, 3) := by decide +kernel
theorem dX7_here_46 : decode cX7_here 46 = .ok (.if_icmp .ge 15, 3) := by decide +kernel
theorem dX7_here_49 : decode cX7_here 49 = .ok (.aload_n 0, 1) := by decide +kernel
theorem dX7_here_50 : decode cX7_here 50 = .ok (.getfield 33, 3) := by decide +kernel
theorem dX7_here_53 : decode cX7_here 53 = .ok (.aload_n 0, 1) := by decide +kernel
theorem dX7_here_54 : decode cX7_here 54 = .ok (.getfield 158, 3) := by decide +kernel
theorem dX7_here_57 : decode cX7_here 57 = .ok (.iaload, 1) := by decide +kernel
theorem dX7_here_58 : decode cX7_here 58 = .ok (.goto 4, 3) := by decide +kernel
theorem dX7_here_61 : decode cX7_here 61 = .ok (.iconst (-1), 1) := by decide +kernel
theorem dX7_here_62 : decode cX7_here 62 = .ok (.ireturn, 1) := by decide +kernel
theorem dX7_isLetter_0 : decode cX7_isLetter 0 = .ok (.iload_n 0, 1) := by decide +kernel
theorem dX7_isLetter_1 : decode cX7_isLetter 1 = .ok (.bipush 97, 2) := by decide +kernel
theorem dX7_isLetter_3 : decode cX7_isLetter 3 = .ok (.if_icmp .lt 13, 3) := by decide +kernel
theorem dX7_isLetter_6 : decode cX7_isLetter 6 = .ok (.iload_n 0, 1) := by decide +kernel
theorem dX7_isLetter_7 : decode cX7_isLetter 7 = .ok (.bipush 122, 2) := by decide +kernel
theorem dX7_isLetter_9 : decode cX7_isLetter 9 = .ok (.if_icmp .gt 7, 3) := by decide +kernel
theorem dX7_isLetter_12 : decode cX7_isLetter 12 = .ok (.iconst 1, 1) := by decide +kernel
theorem dX7_isLetter_13 : decode cX7_isLetter 13 = .ok (.goto 4, 3) := by decide +kernel
theorem dX7_isLetter_16 : decode cX7_isLetter 16 = .ok (.iconst 0, 1) := by decide +kernel
theorem dX7_isLetter_17 : decode cX7_isLetter 17 = .ok (.ireturn, 1) := by decide +kernel
theorem dX7_isDigit_0 : decode cX7_isDigit 0 = .ok (.iload_n 0, 1) := by decide +kernel
theorem dX7_isDigit_1 : decode cX7_isDigit 1 = .ok (.bipush 48, 2) := by decide +kernel
theorem dX7_isDigit_3 : decode cX7_isDigit 3 = .ok (.if_icmp .lt 13, 3) := by decide +kernel
theorem dX7_isDigit_6 : decode cX7_isDigit 6 = .ok (.iload_n 0, 1) := by decide +kernel
theorem dX7_isDigit_7 : decode cX7_isDigit 7 = .ok (.bipush 57, 2) := by decide +kernel
theorem dX7_isDigit_9 : decode cX7_isDigit 9 = .ok (.if_icmp .gt 7, 3) := by decide +kernel
theorem dX7_isDigit_12 : decode cX7_isDigit 12 = .ok (.iconst 1, 1) := by decide +kernel
theorem dX7_isDigit_13 : decode cX7_isDigit 13 = .ok (.goto 4, 3) := by decide +kernel
theorem dX7_isDigit_16 : decode cX7_isDigit 16 = .ok (.iconst 0, 1) := by decide +kernel
theorem dX7_isDigit_17 : decode cX7_isDigit 17 = .ok (.ireturn, 1) := by decide +kernel
theorem dX7_letters_0 : decode cX7_letters 0 = .ok (.aload_n 0, 1) := by decide +kernel
theorem dX7_letters_1 : decode cX7_letters 1 = .ok (.invokevirtual 164, 3) := by decide +kernel
theorem dX7_letters_4 : decode cX7_letters 4 = .ok (.pop, 1) := by decide +kernel
theorem dX7_letters_5 : decode cX7_letters 5 = .ok (.iconst 0, 1) := by decide +kernel
theorem dX7_letters_6 : decode cX7_letters 6 = .ok (.istore_n 1, 1) := by decide +kernel
theorem dX7_letters_7 : decode cX7_letters 7 = .ok (.aload_n 0, 1) := by decide +kernel
theorem dX7_letters_8 : decode cX7_letters 8 = .ok (.getfield 158, 3) := by decide +kernel
theorem dX7_letters_11 : decode cX7_letters 11 = .ok (.iload_n 1, 1) := by decide +kernel
theorem dX7_letters_12 : decode cX7_letters 12 = .ok (.iadd, 1) := by decide +kernel
theorem dX7_letters_13 : decode cX7_letters 13 = .ok (.aload_n 0, 1) := by decide +kernel
theorem dX7_letters_14 : decode cX7_letters 14 = .ok (.getfield 161, 3) := by decide +kernel
theorem dX7_letters_17 : decode cX7_letters 17 = .ok (.if_icmp .ge 26, 3) := by decide +kernel
theorem dX7_letters_20 : decode cX7_letters 20 = .ok (.aload_n 0, 1) := by decide +kernel
theorem dX7_letters_21 : decode cX7_letters 21 = .ok (.getfield 33, 3) := by decide +kernel
theorem dX7_letters_24 : decode cX7_letters 24 = .ok (.aload_n 0, 1) := by decide +kernel
theorem dX7_letters_25 : decode cX7_letters 25 = .ok (.getfield 158, 3) := by decide +kernel
theorem dX7_letters_28 : decode cX7_letters 28 = .ok (.iload_n 1, 1) := by decide +kernel
theorem dX7_letters_29 : decode cX7_letters 29 = .ok (.iadd, 1) := by decide +kernel
theorem dX7_letters_30 : decode cX7_letters 30 = .ok (.iaload, 1) := by decide +kernel
theorem dX7_letters_31 : decode cX7_letters 31 = .ok (.invokestatic 167, 3) := by decide +kernel
theorem dX7_letters_34 : decode cX7_letters 34 = .ok (.ifCond .eq 9, 3) := by decide +kernel
theorem dX7_letters_37 : decode cX7_letters 37 = .ok (.iinc 1 1, 3) := by decide +kernel
theorem dX7_letters_40 : decode cX7_letters 40 = .ok (.goto (-33), 3) := by decide +kernel
theorem dX7_letters_43 : decode cX7_letters 43 = .ok (.iload_n 1, 1) := by decide +kernel
theorem dX7_letters_44 : decode cX7_letters 44 = .ok (.ireturn, 1) := by decide +kernel
theorem dX7_takes_0 : decode cX7_takes 0 = .ok (.aload_n 0, 1) := by decide +kernel
theorem dX7_takes_1 : decode cX7_takes 1 = .ok (.invokevirtual 171, 3) := by decide +kernel
theorem dX7_takes_4 : decode cX7_takes 4 = .ok (.istore_n 2, 1) := by decide +kernel
theorem dX7_takes_5 : decode cX7_takes 5 = .ok (.iload_n 2, 1) := by decide +kernel
theorem dX7_takes_6 : decode cX7_takes 6 = .ok (.aload_n 1, 1) := by decide +kernel
theorem dX7_takes_7 : decode cX7_takes 7 = .ok (.invokevirtual 174, 3) := by decide +kernel
theorem dX7_takes_10 : decode cX7_takes 10 = .ok (.if_icmp .eq 5, 3) := by decide +kernel
theorem dX7_takes_13 : decode cX7_takes 13 = .ok (.iconst 0, 1) := by decide +kernel
theorem dX7_takes_14 : decode cX7_takes 14 = .ok (.ireturn, 1) := by decide +kernel
theorem dX7_takes_15 : decode cX7_takes 15 = .ok (.iconst 0, 1) := by decide +kernel
theorem dX7_takes_16 : decode cX7_takes 16 = .ok (.istore_n 3, 1) := by decide +kernel
theorem dX7_takes_17 : decode cX7_takes 17 = .ok (.iload_n 3, 1) := by decide +kernel
theorem dX7_takes_18 : decode cX7_takes 18 = .ok (.iload_n 2, 1) := by decide +kernel
theorem dX7_takes_19 : decode cX7_takes 19 = .ok (.if_icmp .ge 30, 3) := by decide +kernel
theorem dX7_takes_22 : decode cX7_takes 22 = .ok (.aload_n 0, 1) := by decide +kernel
theorem dX7_takes_23 : decode cX7_takes 23 = .ok (.getfield 33, 3) := by decide +kernel
theorem dX7_takes_26 : decode cX7_takes 26 = .ok (.aload_n 0, 1) := by decide +kernel
theorem dX7_takes_27 : decode cX7_takes 27 = .ok (.getfield 158, 3) := by decide +kernel
theorem dX7_takes_30 : decode cX7_takes 30 = .ok (.iload_n 3, 1) := by decide +kernel
theorem dX7_takes_31 : decode cX7_takes 31 = .ok (.iadd, 1) := by decide +kernel
theorem dX7_takes_32 : decode cX7_takes 32 = .ok (.iaload, 1) := by decide +kernel
theorem dX7_takes_33 : decode cX7_takes 33 = .ok (.aload_n 1, 1) := by decide +kernel
theorem dX7_takes_34 : decode cX7_takes 34 = .ok (.iload_n 3, 1) := by decide +kernel
theorem dX7_takes_35 : decode cX7_takes 35 = .ok (.invokevirtual 178, 3) := by decide +kernel
theorem dX7_takes_38 : decode cX7_takes 38 = .ok (.if_icmp .eq 5, 3) := by decide +kernel
theorem dX7_takes_41 : decode cX7_takes 41 = .ok (.iconst 0, 1) := by decide +kernel
theorem dX7_takes_42 : decode cX7_takes 42 = .ok (.ireturn, 1) := by decide +kernel
theorem dX7_takes_43 : decode cX7_takes 43 = .ok (.iinc 3 1, 3) := by decide +kernel
theorem dX7_takes_46 : decode cX7_takes 46 = .ok (.goto (-29), 3) := by decide +kernel
theorem dX7_takes_49 : decode cX7_takes 49 = .ok (.aload_n 0, 1) := by decide +kernel
theorem dX7_takes_50 : decode cX7_takes 50 = .ok (.dup, 1) := by decide +kernel
theorem dX7_takes_51 : decode cX7_takes 51 = .ok (.getfield 158, 3) := by decide +kernel
theorem dX7_takes_54 : decode cX7_takes 54 = .ok (.iload_n 2, 1) := by decide +kernel
theorem dX7_takes_55 : decode cX7_takes 55 = .ok (.iadd, 1) := by decide +kernel
theorem dX7_takes_56 : decode cX7_takes 56 = .ok (.putfield 158, 3) := by decide +kernel
theorem dX7_takes_59 : decode cX7_takes 59 = .ok (.iconst 1, 1) := by decide +kernel
theorem dX7_takes_60 : decode cX7_takes 60 = .ok (.ireturn, 1) := by decide +kernel
theorem dX7_sign_0 : decode cX7_sign 0 = .ok (.aload_n 0, 1) := by decide +kernel
theorem dX7_sign_1 : decode cX7_sign 1 = .ok (.invokevirtual 164, 3) := by decide +kernel
theorem dX7_sign_4 : decode cX7_sign 4 = .ok (.iload_n 1, 1) := by decide +kernel
theorem dX7_sign_5 : decode cX7_sign 5 = .ok (.if_icmp .eq 14, 3) := by decide +kernel
theorem dX7_sign_8 : decode cX7_sign 8 = .ok (.aload_n 0, 1) := by decide +kernel
theorem dX7_sign_9 : decode cX7_sign 9 = .ok (.bipush (-2), 2) := by decide +kernel
theorem dX7_sign_11 : decode cX7_sign 11 = .ok (.aload_n 0, 1) := by decide +kernel
theorem dX7_sign_12 : decode cX7_sign 12 = .ok (.getfield 158, 3) := by decide +kernel
theorem dX7_sign_15 : decode cX7_sign 15 = .ok (.invokevirtual 182, 3) := by decide +kernel
theorem dX7_sign_18 : decode cX7_sign 18 = .ok (.ireturn, 1) := by decide +kernel
theorem dX7_sign_19 : decode cX7_sign 19 = .ok (.aload_n 0, 1) := by decide +kernel
theorem dX7_sign_20 : decode cX7_sign 20 = .ok (.dup, 1) := by decide +kernel
theorem dX7_sign_21 : decode cX7_sign 21 = .ok (.getfield 158, 3) := by decide +kernel
theorem dX7_sign_24 : decode cX7_sign 24 = .ok (.iconst 1, 1) := by decide +kernel
theorem dX7_sign_25 : decode cX7_sign 25 = .ok (.iadd, 1) := by decide +kernel
theorem dX7_sign_26 : decode cX7_sign 26 = .ok (.putfield 158, 3) := by decide +kernel
theorem dX7_sign_29 : decode cX7_sign 29 = .ok (.iconst 1, 1) := by decide +kernel
theorem dX7_sign_30 : decode cX7_sign 30 = .ok (.ireturn, 1) := by decide +kernel
theorem dX7_reads_0 : decode cX7_reads 0 = .ok (.aload_n 0, 1) := by decide +kernel
theorem dX7_reads_1 : decode cX7_reads 1 = .ok (.invokevirtual 164, 3) := by decide +kernel
theorem dX7_reads_4 : decode cX7_reads 4 = .ok (.invokestatic 185, 3) := by decide +kernel
theorem dX7_reads_7 : decode cX7_reads 7 = .ok (.ifCond .ne 14, 3) := by decide +kernel
theorem dX7_reads_10 : decode cX7_reads 10 = .ok (.aload_n 0, 1) := by decide +kernel
theorem dX7_reads_11 : decode cX7_reads 11 = .ok (.bipush (-2), 2) := by decide +kernel
theorem dX7_reads_13 : decode cX7_reads 13 = .ok (.aload_n 0, 1) := by decide +kernel
theorem dX7_reads_14 : decode cX7_reads 14 = .ok (.getfield 158, 3) := by decide +kernel
theorem dX7_reads_17 : decode cX7_reads 17 = .ok (.invokevirtual 182, 3) := by decide +kernel
theorem dX7_reads_20 : decode cX7_reads 20 = .ok (.ireturn, 1) := by decide +kernel
theorem dX7_reads_21 : decode cX7_reads 21 = .ok (.aload_n 0, 1) := by decide +kernel
theorem dX7_reads_22 : decode cX7_reads 22 = .ok (.aload_n 0, 1) := by decide +kernel
theorem dX7_reads_23 : decode cX7_reads 23 = .ok (.getfield 158, 3) := by decide +kernel
theorem dX7_reads_26 : decode cX7_reads 26 = .ok (.putfield 188, 3) := by decide +kernel
theorem dX7_reads_29 : decode cX7_reads 29 = .ok (.aload_n 0, 1) := by decide +kernel
theorem dX7_reads_30 : decode cX7_reads 30 = .ok (.iconst 0, 1) := by decide +kernel
theorem dX7_reads_31 : decode cX7_reads 31 = .ok (.putfield 191, 3) := by decide +kernel
theorem dX7_reads_34 : decode cX7_reads 34 = .ok (.aload_n 0, 1) := by decide +kernel
theorem dX7_reads_35 : decode cX7_reads 35 = .ok (.getfield 158, 3) := by decide +kernel
theorem dX7_reads_38 : decode cX7_reads 38 = .ok (.aload_n 0, 1) := by decide +kernel
theorem dX7_reads_39 : decode cX7_reads 39 = .ok (.getfield 161, 3) := by decide +kernel
theorem dX7_reads_42 : decode cX7_reads 42 = .ok (.if_icmp .ge 71, 3) := by decide +kernel
theorem dX7_reads_45 : decode cX7_reads 45 = .ok (.aload_n 0, 1) := by decide +kernel
theorem dX7_reads_46 : decode cX7_reads 46 = .ok (.getfield 33, 3) := by decide +kernel
theorem dX7_reads_49 : decode cX7_reads 49 = .ok (.aload_n 0, 1) := by decide +kernel
theorem dX7_reads_50 : decode cX7_reads 50 = .ok (.getfield 158, 3) := by decide +kernel
theorem dX7_reads_53 : decode cX7_reads 53 = .ok (.iaload, 1) := by decide +kernel
theorem dX7_reads_54 : decode cX7_reads 54 = .ok (.invokestatic 185, 3) := by decide +kernel
theorem dX7_reads_57 : decode cX7_reads 57 = .ok (.ifCond .eq 56, 3) := by decide +kernel
theorem dX7_reads_60 : decode cX7_reads 60 = .ok (.aload_n 0, 1) := by decide +kernel
theorem dX7_reads_61 : decode cX7_reads 61 = .ok (.aload_n 0, 1) := by decide +kernel
theorem dX7_reads_62 : decode cX7_reads 62 = .ok (.getfield 191, 3) := by decide +kernel
theorem dX7_reads_65 : decode cX7_reads 65 = .ok (.ldc 194, 2) := by decide +kernel
theorem dX7_reads_67 : decode cX7_reads 67 = .ok (.if_icmp .le 10, 3) := by decide +kernel
theorem dX7_reads_70 : decode cX7_reads 70 = .ok (.aload_n 0, 1) := by decide +kernel
theorem dX7_reads_71 : decode cX7_reads 71 = .ok (.getfield 191, 3) := by decide +kernel
theorem dX7_reads_74 : decode cX7_reads 74 = .ok (.goto 23, 3) := by decide +kernel
theorem dX7_reads_77 : decode cX7_reads 77 = .ok (.bipush 10, 2) := by decide +kernel
theorem dX7_reads_79 : decode cX7_reads 79 = .ok (.aload_n 0, 1) := by decide +kernel
theorem dX7_reads_80 : decode cX7_reads 80 = .ok (.getfield 191, 3) := by decide +kernel
theorem dX7_reads_83 : decode cX7_reads 83 = .ok (.imul, 1) := by decide +kernel
theorem dX7_reads_84 : decode cX7_reads 84 = .ok (.aload_n 0, 1) := by decide +kernel
theorem dX7_reads_85 : decode cX7_reads 85 = .ok (.getfield 33, 3) := by decide +kernel
theorem dX7_reads_88 : decode cX7_reads 88 = .ok (.aload_n 0, 1) := by decide +kernel
theorem dX7_reads_89 : decode cX7_reads 89 = .ok (.getfield 158, 3) := by decide +kernel
theorem dX7_reads_92 : decode cX7_reads 92 = .ok (.iaload, 1) := by decide +kernel
theorem dX7_reads_93 : decode cX7_reads 93 = .ok (.iadd, 1) := by decide +kernel
theorem dX7_reads_94 : decode cX7_reads 94 = .ok (.bipush 48, 2) := by decide +kernel
theorem dX7_reads_96 : decode cX7_reads 96 = .ok (.isub, 1) := by decide +kernel
theorem dX7_reads_97 : decode cX7_reads 97 = .ok (.putfield 191, 3) := by decide +kernel
theorem dX7_reads_100 : decode cX7_reads 100 = .ok (.aload_n 0, 1) := by decide +kernel
theorem dX7_reads_101 : decode cX7_reads 101 = .ok (.dup, 1) := by decide +kernel
theorem dX7_reads_102 : decode cX7_reads 102 = .ok (.getfield 158, 3) := by decide +kernel
theorem dX7_reads_105 : decode cX7_reads 105 = .ok (.iconst 1, 1) := by decide +kernel
theorem dX7_reads_106 : decode cX7_reads 106 = .ok (.iadd, 1) := by decide +kernel
theorem dX7_reads_107 : decode cX7_reads 107 = .ok (.putfield 158, 3) := by decide +kernel
theorem dX7_reads_110 : decode cX7_reads 110 = .ok (.goto (-76), 3) := by decide +kernel
theorem dX7_reads_113 : decode cX7_reads 113 = .ok (.aload_n 0, 1) := by decide +kernel
theorem dX7_reads_114 : decode cX7_reads 114 = .ok (.getfield 191, 3) := by decide +kernel
theorem dX7_reads_117 : decode cX7_reads 117 = .ok (.iload_n 1, 1) := by decide +kernel
theorem dX7_reads_118 : decode cX7_reads 118 = .ok (.iload_n 2, 1) := by decide +kernel
theorem dX7_reads_119 : decode cX7_reads 119 = .ok (.invokestatic 71, 3) := by decide +kernel
theorem dX7_reads_122 : decode cX7_reads 122 = .ok (.ifCond .ne 16, 3) := by decide +kernel
theorem dX7_reads_125 : decode cX7_reads 125 = .ok (.aload_n 0, 1) := by decide +kernel
theorem dX7_reads_126 : decode cX7_reads 126 = .ok (.bipush (-3), 2) := by decide +kernel
theorem dX7_reads_128 : decode cX7_reads 128 = .ok (.aload_n 0, 1) := by decide +kernel
theorem dX7_reads_129 : decode cX7_reads 129 = .ok (.getfield 188, 3) := by decide +kernel
theorem dX7_reads_132 : decode cX7_reads 132 = .ok (.invokevirtual 182, 3) := by decide +kernel
theorem dX7_reads_135 : decode cX7_reads 135 = .ok (.ifCond .eq 7, 3) := by decide +kernel
theorem dX7_reads_138 : decode cX7_reads 138 = .ok (.iconst 1, 1) := by decide +kernel
theorem dX7_reads_139 : decode cX7_reads 139 = .ok (.goto 4, 3) := by decide +kernel
theorem dX7_reads_142 : decode cX7_reads 142 = .ok (.iconst 0, 1) := by decide +kernel
theorem dX7_reads_143 : decode cX7_reads 143 = .ok (.ireturn, 1) := by decide +kernel
theorem dX7_emits_0 : decode cX7_emits 0 = .ok (.sipush 196, 3) := by decide +kernel
theorem dX7_emits_3 : decode cX7_emits 3 = .ok (.sipush 1226, 3) := by decide +kernel
theorem dX7_emits_6 : decode cX7_emits 6 = .ok (.aload_n 0, 1) := by decide +kernel
theorem dX7_emits_7 : decode cX7_emits 7 = .ok (.getfield 195, 3) := by decide +kernel
theorem dX7_emits_10 : decode cX7_emits 10 = .ok (.imul, 1) := by decide +kernel
theorem dX7_emits_11 : decode cX7_emits 11 = .ok (.iadd, 1) := by decide +kernel
theorem dX7_emits_12 : decode cX7_emits 12 = .ok (.istore_n 3, 1) := by decide +kernel
theorem dX7_emits_13 : decode cX7_emits 13 = .ok (.iload_n 3, 1) := by decide +kernel
theorem dX7_emits_14 : decode cX7_emits 14 = .ok (.bipush 26, 2) := by decide +kernel
theorem dX7_emits_16 : decode cX7_emits 16 = .ok (.iadd, 1) := by decide +kernel
theorem dX7_emits_17 : decode cX7_emits 17 = .ok (.iconst 2, 1) := by decide +kernel
theorem dX7_emits_18 : decode cX7_emits 18 = .ok (.aload_n 0, 1) := by decide +kernel
theorem dX7_emits_19 : decode cX7_emits 19 = .ok (.getfield 14, 3) := by decide +kernel
theorem dX7_emits_22 : decode cX7_emits 22 = .ok (.iload_n 3, 1) := by decide +kernel
theorem dX7_emits_23 : decode cX7_emits 23 = .ok (.bipush 13, 2) := by decide +kernel
theorem dX7_emits_25 : decode cX7_emits 25 = .ok (.iadd, 1) := by decide +kernel
theorem dX7_emits_26 : decode cX7_emits 26 = .ok (.iaload, 1) := by decide +kernel
theorem dX7_emits_27 : decode cX7_emits 27 = .ok (.imul, 1) := by decide +kernel
theorem dX7_emits_28 : decode cX7_emits 28 = .ok (.iadd, 1) := by decide +kernel
theorem dX7_emits_29 : decode cX7_emits 29 = .ok (.istore 4, 2) := by decide +kernel
theorem dX7_emits_31 : decode cX7_emits 31 = .ok (.aload_n 0, 1) := by decide +kernel
theorem dX7_emits_32 : decode cX7_emits 32 = .ok (.getfield 14, 3) := by decide +kernel
theorem dX7_emits_35 : decode cX7_emits 35 = .ok (.iload 4, 2) := by decide +kernel
theorem dX7_emits_37 : decode cX7_emits 37 = .ok (.iload_n 1, 1) := by decide +kernel
theorem dX7_emits_38 : decode cX7_emits 38 = .ok (.iastore, 1) := by decide +kernel
theorem dX7_emits_39 : decode cX7_emits 39 = .ok (.aload_n 0, 1) := by decide +kernel
theorem dX7_emits_40 : decode cX7_emits 40 = .ok (.getfield 14, 3) := by decide +kernel
theorem dX7_emits_43 : decode cX7_emits 43 = .ok (.iload 4, 2) := by decide +kernel
theorem dX7_emits_45 : decode cX7_emits 45 = .ok (.iconst 1, 1) := by decide +kernel
theorem dX7_emits_46 : decode cX7_emits 46 = .ok (.iadd, 1) := by decide +kernel
theorem dX7_emits_47 : decode cX7_emits 47 = .ok (.iload_n 2, 1) := by decide +kernel
theorem dX7_emits_48 : decode cX7_emits 48 = .ok (.iastore, 1) := by decide +kernel
theorem dX7_emits_49 : decode cX7_emits 49 = .ok (.aload_n 0, 1) := by decide +kernel
theorem dX7_emits_50 : decode cX7_emits 50 = .ok (.getfield 14, 3) := by decide +kernel
theorem dX7_emits_53 : decode cX7_emits 53 = .ok (.iload_n 3, 1) := by decide +kernel
theorem dX7_emits_54 : decode cX7_emits 54 = .ok (.bipush 13, 2) := by decide +kernel
theorem dX7_emits_56 : decode cX7_emits 56 = .ok (.iadd, 1) := by decide +kernel
theorem dX7_emits_57 : decode cX7_emits 57 = .ok (.dup2, 1) := by decide +kernel
theorem dX7_emits_58 : decode cX7_emits 58 = .ok (.iaload, 1) := by decide +kernel
theorem dX7_emits_59 : decode cX7_emits 59 = .ok (.iconst 1, 1) := by decide +kernel
theorem dX7_emits_60 : decode cX7_emits 60 = .ok (.iadd, 1) := by decide +kernel
theorem dX7_emits_61 : decode cX7_emits 61 = .ok (.iastore, 1) := by decide +kernel
theorem dX7_emits_62 : decode cX7_emits 62 = .ok (.return_, 1) := by decide +kernel
theorem dX7_readsFactor_0 : decode cX7_readsFactor 0 = .ok (.aload_n 0, 1) := by decide +kernel
theorem dX7_readsFactor_1 : decode cX7_readsFactor 1 = .ok (.invokevirtual 164, 3) := by decide +kernel
theorem dX7_readsFactor_4 : decode cX7_readsFactor 4 = .ok (.bipush 40, 2) := by decide +kernel
theorem dX7_readsFactor_6 : decode cX7_readsFactor 6 = .ok (.if_icmp .ne 72, 3) := by decide +kernel
theorem dX7_readsFactor_9 : decode cX7_readsFactor 9 = .ok (.aload_n 0, 1) := by decide +kernel
theorem dX7_readsFactor_10 : decode cX7_readsFactor 10 = .ok (.getfield 198, 3) := by decide +kernel
theorem dX7_readsFactor_13 : decode cX7_readsFactor 13 = .ok (.iconst 4, 1) := by decide +kernel
theorem dX7_readsFactor_14 : decode cX7_readsFactor 14 = .ok (.if_icmp .ne 14, 3) := by decide +kernel
theorem dX7_readsFactor_17 : decode cX7_readsFactor 17 = .ok (.aload_n 0, 1) := by decide +kernel
theorem dX7_readsFactor_18 : decode cX7_readsFactor 18 = .ok (.bipush (-6), 2) := by decide +kernel
theorem dX7_readsFactor_20 : decode cX7_readsFactor 20 = .ok (.aload_n 0, 1) := by decide +kernel
theorem dX7_readsFactor_21 : decode cX7_readsFactor 21 = .ok (.getfield 158, 3) := by decide +kernel
theorem dX7_readsFactor_24 : decode cX7_readsFactor 24 = .ok (.invokevirtual 182, 3) := by decide +kernel
theorem dX7_readsFactor_27 : decode cX7_readsFactor 27 = .ok (.ireturn, 1) := by decide +kernel
theorem dX7_readsFactor_28 : decode cX7_readsFactor 28 = .ok (.aload_n 0, 1) := by decide +kernel
theorem dX7_readsFactor_29 : decode cX7_readsFactor 29 = .ok (.dup, 1) := by decide +kernel
theorem dX7_readsFactor_30 : decode cX7_readsFactor 30 = .ok (.getfield 198, 3) := by decide +kernel
theorem dX7_readsFactor_33 : decode cX7_readsFactor 33 = .ok (.iconst 1, 1) := by decide +kernel
theorem dX7_readsFactor_34 : decode cX7_readsFactor 34 = .ok (.iadd, 1) := by decide +kernel
theorem dX7_readsFactor_35 : decode cX7_readsFactor 35 = .ok (.putfield 198, 3) := by decide +kernel
theorem dX7_readsFactor_38 : decode cX7_readsFactor 38 = .ok (.aload_n 0, 1) := by decide +kernel
theorem dX7_readsFactor_39 : decode cX7_readsFactor 39 = .ok (.dup, 1) := by decide +kernel
theorem dX7_readsFactor_40 : decode cX7_readsFactor 40 = .ok (.getfield 158, 3) := by decide +kernel
theorem dX7_readsFactor_43 : decode cX7_readsFactor 43 = .ok (.iconst 1, 1) := by decide +kernel
theorem dX7_readsFactor_44 : decode cX7_readsFactor 44 = .ok (.iadd, 1) := by decide +kernel
theorem dX7_readsFactor_45 : decode cX7_readsFactor 45 = .ok (.putfield 158, 3) := by decide +kernel
theorem dX7_readsFactor_48 : decode cX7_readsFactor 48 = .ok (.aload_n 0, 1) := by decide +kernel
theorem dX7_readsFactor_49 : decode cX7_readsFactor 49 = .ok (.invokevirtual 201, 3) := by decide +kernel
theorem dX7_readsFactor_52 : decode cX7_readsFactor 52 = .ok (.ifCond .eq 12, 3) := by decide +kernel
theorem dX7_readsFactor_55 : decode cX7_readsFactor 55 = .ok (.aload_n 0, 1) := by decide +kernel
theorem dX7_readsFactor_56 : decode cX7_readsFactor 56 = .ok (.bipush 41, 2) := by decide +kernel
theorem dX7_readsFactor_58 : decode cX7_readsFactor 58 = .ok (.invokevirtual 205, 3) := by decide +kernel
theorem dX7_readsFactor_61 : decode cX7_readsFactor 61 = .ok (.ifCond .ne 5, 3) := by decide +kernel
theorem dX7_readsFactor_64 : decode cX7_readsFactor 64 = .ok (.iconst 0, 1) := by decide +kernel
theorem dX7_readsFactor_65 : decode cX7_readsFactor 65 = .ok (.ireturn, 1) := by decide +kernel
theorem dX7_readsFactor_66 : decode cX7_readsFactor 66 = .ok (.aload_n 0, 1) := by decide +kernel
theorem dX7_readsFactor_67 : decode cX7_readsFactor 67 = .ok (.dup, 1) := by decide +kernel
theorem dX7_readsFactor_68 : decode cX7_readsFactor 68 = .ok (.getfield 198, 3) := by decide +kernel
theorem dX7_readsFactor_71 : decode cX7_readsFactor 71 = .ok (.iconst 1, 1) := by decide +kernel
theorem dX7_readsFactor_72 : decode cX7_readsFactor 72 = .ok (.isub, 1) := by decide +kernel
theorem dX7_readsFactor_73 : decode cX7_readsFactor 73 = .ok (.putfield 198, 3) := by decide +kernel
theorem dX7_readsFactor_76 : decode cX7_readsFactor 76 = .ok (.iconst 1, 1) := by decide +kernel
theorem dX7_readsFactor_77 : decode cX7_readsFactor 77 = .ok (.ireturn, 1) := by decide +kernel
theorem dX7_readsFactor_78 : decode cX7_readsFactor 78 = .ok (.aload_n 0, 1) := by decide +kernel
theorem dX7_readsFactor_79 : decode cX7_readsFactor 79 = .ok (.invokevirtual 164, 3) := by decide +kernel
theorem dX7_readsFactor_82 : decode cX7_readsFactor 82 = .ok (.invokestatic 185, 3) := by decide +kernel
theorem dX7_readsFactor_85 : decode cX7_readsFactor 85 = .ok (.ifCond .eq 27, 3) := by decide +kernel
theorem dX7_readsFactor_88 : decode cX7_readsFactor 88 = .ok (.aload_n 0, 1) := by decide +kernel
theorem dX7_readsFactor_89 : decode cX7_readsFactor 89 = .ok (.iconst 0, 1) := by decide +kernel
theorem dX7_readsFactor_90 : decode cX7_readsFactor 90 = .ok (.sipush 9999, 3) := by decide +kernel
theorem dX7_readsFactor_93 : decode cX7_readsFactor 93 = .ok (.invokevirtual 208, 3) := by decide +kernel
theorem dX7_readsFactor_96 : decode cX7_readsFactor 96 = .ok (.ifCond .ne 5, 3) := by decide +kernel
theorem dX7_readsFactor_99 : decode cX7_readsFactor 99 = .ok (.iconst 0, 1) := by decide +kernel
theorem dX7_readsFactor_100 : decode cX7_readsFactor 100 = .ok (.ireturn, 1) := by decide +kernel
theorem dX7_readsFactor_101 : decode cX7_readsFactor 101 = .ok (.aload_n 0, 1) := by decide +kernel
theorem dX7_readsFactor_102 : decode cX7_readsFactor 102 = .ok (.iconst 0, 1) := by decide +kernel
theorem dX7_readsFactor_103 : decode cX7_readsFactor 103 = .ok (.aload_n 0, 1) := by decide +kernel
theorem dX7_readsFactor_104 : decode cX7_readsFactor 104 = .ok (.getfield 191, 3) := by decide +kernel
theorem dX7_readsFactor_107 : decode cX7_readsFactor 107 = .ok (.invokevirtual 211, 3) := by decide +kernel
theorem dX7_readsFactor_110 : decode cX7_readsFactor 110 = .ok (.iconst 1, 1) := by decide +kernel
theorem dX7_readsFactor_111 : decode cX7_readsFactor 111 = .ok (.ireturn, 1) := by decide +kernel
theorem dX7_readsFactor_112 : decode cX7_readsFactor 112 = .ok (.aload_n 0, 1) := by decide +kernel
theorem dX7_readsFactor_113 : decode cX7_readsFactor 113 = .ok (.ldc 214, 2) := by decide +kernel
theorem dX7_readsFactor_115 : decode cX7_readsFactor 115 = .ok (.invokevirtual 215, 3) := by decide +kernel
theorem dX7_readsFactor_118 : decode cX7_readsFactor 118 = .ok (.ifCond .eq 7, 3) := by decide +kernel
theorem dX7_readsFactor_121 : decode cX7_readsFactor 121 = .ok (.iconst 0, 1) := by decide +kernel
theorem dX7_readsFactor_122 : decode cX7_readsFactor 122 = .ok (.goto 43, 3) := by decide +kernel
theorem dX7_readsFactor_125 : decode cX7_readsFactor 125 = .ok (.aload_n 0, 1) := by decide +kernel
theorem dX7_readsFactor_126 : decode cX7_readsFactor 126 = .ok (.ldc 219, 2) := by decide +kernel
theorem dX7_readsFactor_128 : decode cX7_readsFactor 128 = .ok (.invokevirtual 215, 3) := by decide +kernel
theorem dX7_readsFactor_131 : decode cX7_readsFactor 131 = .ok (.ifCond .eq 7, 3) := by decide +kernel
theorem dX7_readsFactor_134 : decode cX7_readsFactor 134 = .ok (.iconst 1, 1) := by decide +kernel
theorem dX7_readsFactor_135 : decode cX7_readsFactor 135 = .ok (.goto 30, 3) := by decide +kernel
theorem dX7_readsFactor_138 : decode cX7_readsFactor 138 = .ok (.aload_n 0, 1) := by decide +kernel
theorem dX7_readsFactor_139 : decode cX7_readsFactor 139 = .ok (.ldc 221, 2) := by decide +kernel
theorem dX7_readsFactor_141 : decode cX7_readsFactor 141 = .ok (.invokevirtual 215, 3) := by decide +kernel
theorem dX7_readsFactor_144 : decode cX7_readsFactor 144 = .ok (.ifCond .eq 7, 3) := by decide +kernel
theorem dX7_readsFactor_147 : decode cX7_readsFactor 147 = .ok (.iconst 2, 1) := by decide +kernel
theorem dX7_readsFactor_148 : decode cX7_readsFactor 148 = .ok (.goto 17, 3) := by decide +kernel
theorem dX7_readsFactor_151 : decode cX7_readsFactor 151 = .ok (.aload_n 0, 1) := by decide +kernel
theorem dX7_readsFactor_152 : decode cX7_readsFactor 152 = .ok (.ldc 223, 2) := by decide +kernel
theorem dX7_readsFactor_154 : decode cX7_readsFactor 154 = .ok (.invokevirtual 215, 3) := by decide +kernel
theorem dX7_readsFactor_157 : decode cX7_readsFactor 157 = .ok (.ifCond .eq 7, 3) := by decide +kernel
theorem dX7_readsFactor_160 : decode cX7_readsFactor 160 = .ok (.iconst 3, 1) := by decide +kernel
theorem dX7_readsFactor_161 : decode cX7_readsFactor 161 = .ok (.goto 4, 3) := by decide +kernel
theorem dX7_readsFactor_164 : decode cX7_readsFactor 164 = .ok (.iconst (-1), 1) := by decide +kernel
theorem dX7_readsFactor_165 : decode cX7_readsFactor 165 = .ok (.istore_n 1, 1) := by decide +kernel
theorem dX7_readsFactor_166 : decode cX7_readsFactor 166 = .ok (.iload_n 1, 1) := by decide +kernel
theorem dX7_readsFactor_167 : decode cX7_readsFactor 167 = .ok (.iconst (-1), 1) := by decide +kernel
theorem dX7_readsFactor_168 : decode cX7_readsFactor 168 = .ok (.if_icmp .ne 14, 3) := by decide +kernel
theorem dX7_readsFactor_171 : decode cX7_readsFactor 171 = .ok (.aload_n 0, 1) := by decide +kernel
theorem dX7_readsFactor_172 : decode cX7_readsFactor 172 = .ok (.bipush (-2), 2) := by decide +kernel
theorem dX7_readsFactor_174 : decode cX7_readsFactor 174 = .ok (.aload_n 0, 1) := by decide +kernel
theorem dX7_readsFactor_175 : decode cX7_readsFactor 175 = .ok (.getfield 158, 3) := by decide +kernel
theorem dX7_readsFactor_178 : decode cX7_readsFactor 178 = .ok (.invokevirtual 182, 3) := by decide +kernel
theorem dX7_readsFactor_181 : decode cX7_readsFactor 181 = .ok (.ireturn, 1) := by decide +kernel
theorem dX7_readsFactor_182 : decode cX7_readsFactor 182 = .ok (.aload_n 0, 1) := by decide +kernel
theorem dX7_readsFactor_183 : decode cX7_readsFactor 183 = .ok (.iconst 1, 1) := by decide +kernel
theorem dX7_readsFactor_184 : decode cX7_readsFactor 184 = .ok (.iload_n 1, 1) := by decide +kernel
theorem dX7_readsFactor_185 : decode cX7_readsFactor 185 = .ok (.invokevirtual 211, 3) := by decide +kernel
theorem dX7_readsFactor_188 : decode cX7_readsFactor 188 = .ok (.iconst 1, 1) := by decide +kernel
theorem dX7_readsFactor_189 : decode cX7_readsFactor 189 = .ok (.ireturn, 1) := by decide +kernel
theorem dX7_readsTerm_0 : decode cX7_readsTerm 0 = .ok (.aload_n 0, 1) := by decide +kernel
theorem dX7_readsTerm_1 : decode cX7_readsTerm 1 = .ok (.invokevirtual 225, 3) := by decide +kernel
theorem dX7_readsTerm_4 : decode cX7_readsTerm 4 = .ok (.ifCond .ne 5, 3) := by decide +kernel
theorem dX7_readsTerm_7 : decode cX7_readsTerm 7 = .ok (.iconst 0, 1) := by decide +kernel
theorem dX7_readsTerm_8 : decode cX7_readsTerm 8 = .ok (.ireturn, 1) := by decide +kernel
theorem dX7_readsTerm_9 : decode cX7_readsTerm 9 = .ok (.aload_n 0, 1) := by decide +kernel
theorem dX7_readsTerm_10 : decode cX7_readsTerm 10 = .ok (.invokevirtual 164, 3) := by decide +kernel
theorem dX7_readsTerm_13 : decode cX7_readsTerm 13 = .ok (.bipush 42, 2) := by decide +kernel
theorem dX7_readsTerm_15 : decode cX7_readsTerm 15 = .ok (.if_icmp .eq 12, 3) := by decide +kernel
theorem dX7_readsTerm_18 : decode cX7_readsTerm 18 = .ok (.aload_n 0, 1) := by decide +kernel
theorem dX7_readsTerm_19 : decode cX7_readsTerm 19 = .ok (.invokevirtual 164, 3) := by decide +kernel
theorem dX7_readsTerm_22 : decode cX7_readsTerm 22 = .ok (.bipush 47, 2) := by decide +kernel
theorem dX7_readsTerm_24 : decode cX7_readsTerm 24 = .ok (.if_icmp .ne 46, 3) := by decide +kernel
theorem dX7_readsTerm_27 : decode cX7_readsTerm 27 = .ok (.aload_n 0, 1) := by decide +kernel
theorem dX7_readsTerm_28 : decode cX7_readsTerm 28 = .ok (.invokevirtual 164, 3) := by decide +kernel
theorem dX7_readsTerm_31 : decode cX7_readsTerm 31 = .ok (.bipush 42, 2) := by decide +kernel
theorem dX7_readsTerm_33 : decode cX7_readsTerm 33 = .ok (.if_icmp .ne 7, 3) := by decide +kernel
theorem dX7_readsTerm_36 : decode cX7_readsTerm 36 = .ok (.iconst 4, 1) := by decide +kernel
theorem dX7_readsTerm_37 : decode cX7_readsTerm 37 = .ok (.goto 4, 3) := by decide +kernel
theorem dX7_readsTerm_40 : decode cX7_readsTerm 40 = .ok (.iconst 5, 1) := by decide +kernel
theorem dX7_readsTerm_41 : decode cX7_readsTerm 41 = .ok (.istore_n 1, 1) := by decide +kernel
theorem dX7_readsTerm_42 : decode cX7_readsTerm 42 = .ok (.aload_n 0, 1) := by decide +kernel
theorem dX7_readsTerm_43 : decode cX7_readsTerm 43 = .ok (.dup, 1) := by decide +kernel
theorem dX7_readsTerm_44 : decode cX7_readsTerm 44 = .ok (.getfield 158, 3) := by decide +kernel
theorem dX7_readsTerm_47 : decode cX7_readsTerm 47 = .ok (.iconst 1, 1) := by decide +kernel
theorem dX7_readsTerm_48 : decode cX7_readsTerm 48 = .ok (.iadd, 1) := by decide +kernel
theorem dX7_readsTerm_49 : decode cX7_readsTerm 49 = .ok (.putfield 158, 3) := by decide +kernel
theorem dX7_readsTerm_52 : decode cX7_readsTerm 52 = .ok (.aload_n 0, 1) := by decide +kernel
theorem dX7_readsTerm_53 : decode cX7_readsTerm 53 = .ok (.invokevirtual 225, 3) := by decide +kernel
theorem dX7_readsTerm_56 : decode cX7_readsTerm 56 = .ok (.ifCond .ne 5, 3) := by decide +kernel
theorem dX7_readsTerm_59 : decode cX7_readsTerm 59 = .ok (.iconst 0, 1) := by decide +kernel
theorem dX7_readsTerm_60 : decode cX7_readsTerm 60 = .ok (.ireturn, 1) := by decide +kernel
theorem dX7_readsTerm_61 : decode cX7_readsTerm 61 = .ok (.aload_n 0, 1) := by decide +kernel
theorem dX7_readsTerm_62 : decode cX7_readsTerm 62 = .ok (.iload_n 1, 1) := by decide +kernel
theorem dX7_readsTerm_63 : decode cX7_readsTerm 63 = .ok (.iconst 0, 1) := by decide +kernel
theorem dX7_readsTerm_64 : decode cX7_readsTerm 64 = .ok (.invokevirtual 211, 3) := by decide +kernel
theorem dX7_readsTerm_67 : decode cX7_readsTerm 67 = .ok (.goto (-58), 3) := by decide +kernel
theorem dX7_readsTerm_70 : decode cX7_readsTerm 70 = .ok (.iconst 1, 1) := by decide +kernel
theorem dX7_readsTerm_71 : decode cX7_readsTerm 71 = .ok (.ireturn, 1) := by decide +kernel
theorem dX7_readsSum_0 : decode cX7_readsSum 0 = .ok (.aload_n 0, 1) := by decide +kernel
theorem dX7_readsSum_1 : decode cX7_readsSum 1 = .ok (.invokevirtual 228, 3) := by decide +kernel
theorem dX7_readsSum_4 : decode cX7_readsSum 4 = .ok (.ifCond .ne 5, 3) := by decide +kernel
theorem dX7_readsSum_7 : decode cX7_readsSum 7 = .ok (.iconst 0, 1) := by decide +kernel
theorem dX7_readsSum_8 : decode cX7_readsSum 8 = .ok (.ireturn, 1) := by decide +kernel
theorem dX7_readsSum_9 : decode cX7_readsSum 9 = .ok (.aload_n 0, 1) := by decide +kernel
theorem dX7_readsSum_10 : decode cX7_readsSum 10 = .ok (.invokevirtual 164, 3) := by decide +kernel
theorem dX7_readsSum_13 : decode cX7_readsSum 13 = .ok (.bipush 43, 2) := by decide +kernel
theorem dX7_readsSum_15 : decode cX7_readsSum 15 = .ok (.if_icmp .eq 12, 3) := by decide +kernel
theorem dX7_readsSum_18 : decode cX7_readsSum 18 = .ok (.aload_n 0, 1) := by decide +kernel
theorem dX7_readsSum_19 : decode cX7_readsSum 19 = .ok (.invokevirtual 164, 3) := by decide +kernel
theorem dX7_readsSum_22 : decode cX7_readsSum 22 = .ok (.bipush 45, 2) := by decide +kernel
theorem dX7_readsSum_24 : decode cX7_readsSum 24 = .ok (.if_icmp .ne 46, 3) := by decide +kernel
theorem dX7_readsSum_27 : decode cX7_readsSum 27 = .ok (.aload_n 0, 1) := by decide +kernel
theorem dX7_readsSum_28 : decode cX7_readsSum 28 = .ok (.invokevirtual 164, 3) := by decide +kernel
theorem dX7_readsSum_31 : decode cX7_readsSum 31 = .ok (.bipush 43, 2) := by decide +kernel
theorem dX7_readsSum_33 : decode cX7_readsSum 33 = .ok (.if_icmp .ne 7, 3) := by decide +kernel
theorem dX7_readsSum_36 : decode cX7_readsSum 36 = .ok (.iconst 2, 1) := by decide +kernel
theorem dX7_readsSum_37 : decode cX7_readsSum 37 = .ok (.goto 4, 3) := by decide +kernel
theorem dX7_readsSum_40 : decode cX7_readsSum 40 = .ok (.iconst 3, 1) := by decide +kernel
theorem dX7_readsSum_41 : decode cX7_readsSum 41 = .ok (.istore_n 1, 1) := by decide +kernel
theorem dX7_readsSum_42 : decode cX7_readsSum 42 = .ok (.aload_n 0, 1) := by decide +kernel
theorem dX7_readsSum_43 : decode cX7_readsSum 43 = .ok (.dup, 1) := by decide +kernel
theorem dX7_readsSum_44 : decode cX7_readsSum 44 = .ok (.getfield 158, 3) := by decide +kernel
theorem dX7_readsSum_47 : decode cX7_readsSum 47 = .ok (.iconst 1, 1) := by decide +kernel
theorem dX7_readsSum_48 : decode cX7_readsSum 48 = .ok (.iadd, 1) := by decide +kernel
theorem dX7_readsSum_49 : decode cX7_readsSum 49 = .ok (.putfield 158, 3) := by decide +kernel
theorem dX7_readsSum_52 : decode cX7_readsSum 52 = .ok (.aload_n 0, 1) := by decide +kernel
theorem dX7_readsSum_53 : decode cX7_readsSum 53 = .ok (.invokevirtual 228, 3) := by decide +kernel
theorem dX7_readsSum_56 : decode cX7_readsSum 56 = .ok (.ifCond .ne 5, 3) := by decide +kernel
theorem dX7_readsSum_59 : decode cX7_readsSum 59 = .ok (.iconst 0, 1) := by decide +kernel
theorem dX7_readsSum_60 : decode cX7_readsSum 60 = .ok (.ireturn, 1) := by decide +kernel
theorem dX7_readsSum_61 : decode cX7_readsSum 61 = .ok (.aload_n 0, 1) := by decide +kernel
theorem dX7_readsSum_62 : decode cX7_readsSum 62 = .ok (.iload_n 1, 1) := by decide +kernel
theorem dX7_readsSum_63 : decode cX7_readsSum 63 = .ok (.iconst 0, 1) := by decide +kernel
theorem dX7_readsSum_64 : decode cX7_readsSum 64 = .ok (.invokevirtual 211, 3) := by decide +kernel
theorem dX7_readsSum_67 : decode cX7_readsSum 67 = .ok (.goto (-58), 3) := by decide +kernel
theorem dX7_readsSum_70 : decode cX7_readsSum 70 = .ok (.iconst 1, 1) := by decide +kernel
theorem dX7_readsSum_71 : decode cX7_readsSum 71 = .ok (.ireturn, 1) := by decide +kernel
theorem dX7_named_0 : decode cX7_named 0 = .ok (.iconst 0, 1) := by decide +kernel
theorem dX7_named_1 : decode cX7_named 1 = .ok (.istore_n 3, 1) := by decide +kernel
theorem dX7_named_2 : decode cX7_named 2 = .ok (.iload_n 3, 1) := by decide +kernel
theorem dX7_named_3 : decode cX7_named 3 = .ok (.aload_n 0, 1) := by decide +kernel
theorem dX7_named_4 : decode cX7_named 4 = .ok (.getfield 14, 3) := by decide +kernel
theorem dX7_named_7 : decode cX7_named 7 = .ok (.iconst 2, 1) := by decide +kernel
theorem dX7_named_8 : decode cX7_named 8 = .ok (.iaload, 1) := by decide +kernel
theorem dX7_named_9 : decode cX7_named 9 = .ok (.if_icmp .ge 98, 3) := by decide +kernel
theorem dX7_named_12 : decode cX7_named 12 = .ok (.sipush 196, 3) := by decide +kernel
theorem dX7_named_15 : decode cX7_named 15 = .ok (.sipush 1226, 3) := by decide +kernel
theorem dX7_named_18 : decode cX7_named 18 = .ok (.iload_n 3, 1) := by decide +kernel
theorem dX7_named_19 : decode cX7_named 19 = .ok (.imul, 1) := by decide +kernel
theorem dX7_named_20 : decode cX7_named 20 = .ok (.iadd, 1) := by decide +kernel
theorem dX7_named_21 : decode cX7_named 21 = .ok (.istore 4, 2) := by decide +kernel
theorem dX7_named_23 : decode cX7_named 23 = .ok (.aload_n 0, 1) := by decide +kernel
theorem dX7_named_24 : decode cX7_named 24 = .ok (.getfield 14, 3) := by decide +kernel
theorem dX7_named_27 : decode cX7_named 27 = .ok (.iload 4, 2) := by decide +kernel
theorem dX7_named_29 : decode cX7_named 29 = .ok (.iconst 0, 1) := by decide +kernel
theorem dX7_named_30 : decode cX7_named 30 = .ok (.iadd, 1) := by decide +kernel
theorem dX7_named_31 : decode cX7_named 31 = .ok (.iaload, 1) := by decide +kernel
theorem dX7_named_32 : decode cX7_named 32 = .ok (.iload_n 2, 1) := by decide +kernel
theorem dX7_named_33 : decode cX7_named 33 = .ok (.if_icmp .ne 7, 3) := by decide +kernel
theorem dX7_named_36 : decode cX7_named 36 = .ok (.iconst 1, 1) := by decide +kernel
theorem dX7_named_37 : decode cX7_named 37 = .ok (.goto 4, 3) := by decide +kernel
theorem dX7_named_40 : decode cX7_named 40 = .ok (.iconst 0, 1) := by decide +kernel
theorem dX7_named_41 : decode cX7_named 41 = .ok (.istore 5, 2) := by decide +kernel
theorem dX7_named_43 : decode cX7_named 43 = .ok (.iconst 0, 1) := by decide +kernel
theorem dX7_named_44 : decode cX7_named 44 = .ok (.istore 6, 2) := by decide +kernel
theorem dX7_named_46 : decode cX7_named 46 = .ok (.iload 6, 2) := by decide +kernel
theorem dX7_named_48 : decode cX7_named 48 = .ok (.iload_n 2, 1) := by decide +kernel
theorem dX7_named_49 : decode cX7_named 49 = .ok (.if_icmp .ge 45, 3) := by decide +kernel
theorem dX7_named_52 : decode cX7_named 52 = .ok (.iload 5, 2) := by decide +kernel
theorem dX7_named_54 : decode cX7_named 54 = .ok (.ifCond .eq 40, 3) := by decide +kernel
theorem dX7_named_57 : decode cX7_named 57 = .ok (.aload_n 0, 1) := by decide +kernel
theorem dX7_named_58 : decode cX7_named 58 = .ok (.getfield 14, 3) := by decide +kernel
theorem dX7_named_61 : decode cX7_named 61 = .ok (.iload 4, 2) := by decide +kernel
theorem dX7_named_63 : decode cX7_named 63 = .ok (.iconst 1, 1) := by decide +kernel
theorem dX7_named_64 : decode cX7_named 64 = .ok (.iadd, 1) := by decide +kernel
theorem dX7_named_65 : decode cX7_named 65 = .ok (.iload 6, 2) := by decide +kernel
theorem dX7_named_67 : decode cX7_named 67 = .ok (.iadd, 1) := by decide +kernel
theorem dX7_named_68 : decode cX7_named 68 = .ok (.iaload, 1) := by decide +kernel
theorem dX7_named_69 : decode cX7_named 69 = .ok (.aload_n 0, 1) := by decide +kernel
theorem dX7_named_70 : decode cX7_named 70 = .ok (.getfield 33, 3) := by decide +kernel
theorem dX7_named_73 : decode cX7_named 73 = .ok (.iload_n 1, 1) := by decide +kernel
theorem dX7_named_74 : decode cX7_named 74 = .ok (.iload 6, 2) := by decide +kernel
theorem dX7_named_76 : decode cX7_named 76 = .ok (.iadd, 1) := by decide +kernel
theorem dX7_named_77 : decode cX7_named 77 = .ok (.iaload, 1) := by decide +kernel
theorem dX7_named_78 : decode cX7_named 78 = .ok (.if_icmp .ne 7, 3) := by decide +kernel
theorem dX7_named_81 : decode cX7_named 81 = .ok (.iconst 1, 1) := by decide +kernel
theorem dX7_named_82 : decode cX7_named 82 = .ok (.goto 4, 3) := by decide +kernel
theorem dX7_named_85 : decode cX7_named 85 = .ok (.iconst 0, 1) := by decide +kernel
theorem dX7_named_86 : decode cX7_named 86 = .ok (.istore 5, 2) := by decide +kernel
theorem dX7_named_88 : decode cX7_named 88 = .ok (.iinc 6 1, 3) := by decide +kernel
theorem dX7_named_91 : decode cX7_named 91 = .ok (.goto (-45), 3) := by decide +kernel
theorem dX7_named_94 : decode cX7_named 94 = .ok (.iload 5, 2) := by decide +kernel
theorem dX7_named_96 : decode cX7_named 96 = .ok (.ifCond .eq 5, 3) := by decide +kernel
theorem dX7_named_99 : decode cX7_named 99 = .ok (.iload_n 3, 1) := by decide +kernel
theorem dX7_named_100 : decode cX7_named 100 = .ok (.ireturn, 1) := by decide +kernel
theorem dX7_named_101 : decode cX7_named 101 = .ok (.iinc 3 1, 3) := by decide +kernel
theorem dX7_named_104 : decode cX7_named 104 = .ok (.goto (-102), 3) := by decide +kernel
theorem dX7_named_107 : decode cX7_named 107 = .ok (.iconst (-1), 1) := by decide +kernel
theorem dX7_named_108 : decode cX7_named 108 = .ok (.ireturn, 1) := by decide +kernel
theorem dX7_readsTones_0 : decode cX7_readsTones 0 = .ok (.iconst 0, 1) := by decide +kernel
theorem dX7_readsTones_1 : decode cX7_readsTones 1 = .ok (.istore_n 1, 1) := by decide +kernel
theorem dX7_readsTones_2 : decode cX7_readsTones 2 = .ok (.iload_n 1, 1) := by decide +kernel
theorem dX7_readsTones_3 : decode cX7_readsTones 3 = .ok (.aload_n 0, 1) := by decide +kernel
theorem dX7_readsTones_4 : decode cX7_readsTones 4 = .ok (.getfield 14, 3) := by decide +kernel
theorem dX7_readsTones_7 : decode cX7_readsTones 7 = .ok (.iconst 1, 1) := by decide +kernel
theorem dX7_readsTones_8 : decode cX7_readsTones 8 = .ok (.iaload, 1) := by decide +kernel
theorem dX7_readsTones_9 : decode cX7_readsTones 9 = .ok (.if_icmp .ge 142, 3) := by decide +kernel
theorem dX7_readsTones_12 : decode cX7_readsTones 12 = .ok (.aload_n 0, 1) := by decide +kernel
theorem dX7_readsTones_13 : decode cX7_readsTones 13 = .ok (.invokevirtual 164, 3) := by decide +kernel
theorem dX7_readsTones_16 : decode cX7_readsTones 16 = .ok (.invokestatic 185, 3) := by decide +kernel
theorem dX7_readsTones_19 : decode cX7_readsTones 19 = .ok (.ifCond .ne 14, 3) := by decide +kernel
theorem dX7_readsTones_22 : decode cX7_readsTones 22 = .ok (.aload_n 0, 1) := by decide +kernel
theorem dX7_readsTones_23 : decode cX7_readsTones 23 = .ok (.bipush (-2), 2) := by decide +kernel
theorem dX7_readsTones_25 : decode cX7_readsTones 25 = .ok (.aload_n 0, 1) := by decide +kernel
theorem dX7_readsTones_26 : decode cX7_readsTones 26 = .ok (.getfield 158, 3) := by decide +kernel
theorem dX7_readsTones_29 : decode cX7_readsTones 29 = .ok (.invokevirtual 182, 3) := by decide +kernel
theorem dX7_readsTones_32 : decode cX7_readsTones 32 = .ok (.ireturn, 1) := by decide +kernel
theorem dX7_readsTones_33 : decode cX7_readsTones 33 = .ok (.iconst 0, 1) := by decide +kernel
theorem dX7_readsTones_34 : decode cX7_readsTones 34 = .ok (.istore_n 2, 1) := by decide +kernel
theorem dX7_readsTones_35 : decode cX7_readsTones 35 = .ok (.aload_n 0, 1) := by decide +kernel
theorem dX7_readsTones_36 : decode cX7_readsTones 36 = .ok (.getfield 158, 3) := by decide +kernel
theorem dX7_readsTones_39 : decode cX7_readsTones 39 = .ok (.iload_n 2, 1) := by decide +kernel
theorem dX7_readsTones_40 : decode cX7_readsTones 40 = .ok (.iadd, 1) := by decide +kernel
theorem dX7_readsTones_41 : decode cX7_readsTones 41 = .ok (.aload_n 0, 1) := by decide +kernel
theorem dX7_readsTones_42 : decode cX7_readsTones 42 = .ok (.getfield 161, 3) := by decide +kernel
theorem dX7_readsTones_45 : decode cX7_readsTones 45 = .ok (.if_icmp .ge 26, 3) := by decide +kernel
theorem dX7_readsTones_48 : decode cX7_readsTones 48 = .ok (.aload_n 0, 1) := by decide +kernel
theorem dX7_readsTones_49 : decode cX7_readsTones 49 = .ok (.getfield 33, 3) := by decide +kernel
theorem dX7_readsTones_52 : decode cX7_readsTones 52 = .ok (.aload_n 0, 1) := by decide +kernel
theorem dX7_readsTones_53 : decode cX7_readsTones 53 = .ok (.getfield 158, 3) := by decide +kernel
theorem dX7_readsTones_56 : decode cX7_readsTones 56 = .ok (.iload_n 2, 1) := by decide +kernel
theorem dX7_readsTones_57 : decode cX7_readsTones 57 = .ok (.iadd, 1) := by decide +kernel
theorem dX7_readsTones_58 : decode cX7_readsTones 58 = .ok (.iaload, 1) := by decide +kernel
theorem dX7_readsTones_59 : decode cX7_readsTones 59 = .ok (.invokestatic 185, 3) := by decide +kernel
theorem dX7_readsTones_62 : decode cX7_readsTones 62 = .ok (.ifCond .eq 9, 3) := by decide +kernel
theorem dX7_readsTones_65 : decode cX7_readsTones 65 = .ok (.iinc 2 1, 3) := by decide +kernel
theorem dX7_readsTones_68 : decode cX7_readsTones 68 = .ok (.goto (-33), 3) := by decide +kernel
theorem dX7_readsTones_71 : decode cX7_readsTones 71 = .ok (.iload_n 2, 1) := by decide +kernel
theorem dX7_readsTones_72 : decode cX7_readsTones 72 = .ok (.aload_n 0, 1) := by decide +kernel
theorem dX7_readsTones_73 : decode cX7_readsTones 73 = .ok (.getfield 14, 3) := by decide +kernel
theorem dX7_readsTones_76 : decode cX7_readsTones 76 = .ok (.iconst 0, 1) := by decide +kernel
theorem dX7_readsTones_77 : decode cX7_readsTones 77 = .ok (.iaload, 1) := by decide +kernel
theorem dX7_readsTones_78 : decode cX7_readsTones 78 = .ok (.if_icmp .eq 14, 3) := by decide +kernel
theorem dX7_readsTones_81 : decode cX7_readsTones 81 = .ok (.aload_n 0, 1) := by decide +kernel
theorem dX7_readsTones_82 : decode cX7_readsTones 82 = .ok (.bipush (-3), 2) := by decide +kernel
theorem dX7_readsTones_84 : decode cX7_readsTones 84 = .ok (.aload_n 0, 1) := by decide +kernel
theorem dX7_readsTones_85 : decode cX7_readsTones 85 = .ok (.getfield 158, 3) := by decide +kernel
theorem dX7_readsTones_88 : decode cX7_readsTones 88 = .ok (.invokevirtual 182, 3) := by decide +kernel
theorem dX7_readsTones_91 : decode cX7_readsTones 91 = .ok (.ireturn, 1) := by decide +kernel
theorem dX7_readsTones_92 : decode cX7_readsTones 92 = .ok (.iconst 0, 1) := by decide +kernel
theorem dX7_readsTones_93 : decode cX7_readsTones 93 = .ok (.istore_n 3, 1) := by decide +kernel
theorem dX7_readsTones_94 : decode cX7_readsTones 94 = .ok (.iload_n 3, 1) := by decide +kernel
theorem dX7_readsTones_95 : decode cX7_readsTones 95 = .ok (.iload_n 2, 1) := by decide +kernel
theorem dX7_readsTones_96 : decode cX7_readsTones 96 = .ok (.if_icmp .ge 39, 3) := by decide +kernel
theorem dX7_readsTones_99 : decode cX7_readsTones 99 = .ok (.aload_n 0, 1) := by decide +kernel
theorem dX7_readsTones_100 : decode cX7_readsTones 100 = .ok (.getfield 14, 3) := by decide +kernel
theorem dX7_readsTones_103 : decode cX7_readsTones 103 = .ok (.iconst 4, 1) := by decide +kernel
theorem dX7_readsTones_104 : decode cX7_readsTones 104 = .ok (.bipush 16, 2) := by decide +kernel
theorem dX7_readsTones_106 : decode cX7_readsTones 106 = .ok (.iload_n 1, 1) := by decide +kernel
theorem dX7_readsTones_107 : decode cX7_readsTones 107 = .ok (.imul, 1) := by decide +kernel
theorem dX7_readsTones_108 : decode cX7_readsTones 108 = .ok (.iadd, 1) := by decide +kernel
theorem dX7_readsTones_109 : decode cX7_readsTones 109 = .ok (.iload_n 3, 1) := by decide +kernel
theorem dX7_readsTones_110 : decode cX7_readsTones 110 = .ok (.iadd, 1) := by decide +kernel
theorem dX7_readsTones_111 : decode cX7_readsTones 111 = .ok (.bipush 11, 2) := by decide +kernel
theorem dX7_readsTones_113 : decode cX7_readsTones 113 = .ok (.aload_n 0, 1) := by decide +kernel
theorem dX7_readsTones_114 : decode cX7_readsTones 114 = .ok (.getfield 33, 3) := by decide +kernel
theorem dX7_readsTones_117 : decode cX7_readsTones 117 = .ok (.aload_n 0, 1) := by decide +kernel
theorem dX7_readsTones_118 : decode cX7_readsTones 118 = .ok (.getfield 158, 3) := by decide +kernel
theorem dX7_readsTones_121 : decode cX7_readsTones 121 = .ok (.iload_n 3, 1) := by decide +kernel
theorem dX7_readsTones_122 : decode cX7_readsTones 122 = .ok (.iadd, 1) := by decide +kernel
theorem dX7_readsTones_123 : decode cX7_readsTones 123 = .ok (.iaload, 1) := by decide +kernel
theorem dX7_readsTones_124 : decode cX7_readsTones 124 = .ok (.bipush 48, 2) := by decide +kernel
theorem dX7_readsTones_126 : decode cX7_readsTones 126 = .ok (.isub, 1) := by decide +kernel
theorem dX7_readsTones_127 : decode cX7_readsTones 127 = .ok (.imul, 1) := by decide +kernel
theorem dX7_readsTones_128 : decode cX7_readsTones 128 = .ok (.iastore, 1) := by decide +kernel
theorem dX7_readsTones_129 : decode cX7_readsTones 129 = .ok (.iinc 3 1, 3) := by decide +kernel
theorem dX7_readsTones_132 : decode cX7_readsTones 132 = .ok (.goto (-38), 3) := by decide +kernel
theorem dX7_readsTones_135 : decode cX7_readsTones 135 = .ok (.aload_n 0, 1) := by decide +kernel
theorem dX7_readsTones_136 : decode cX7_readsTones 136 = .ok (.dup, 1) := by decide +kernel
theorem dX7_readsTones_137 : decode cX7_readsTones 137 = .ok (.getfield 158, 3) := by decide +kernel
theorem dX7_readsTones_140 : decode cX7_readsTones 140 = .ok (.iload_n 2, 1) := by decide +kernel
theorem dX7_readsTones_141 : decode cX7_readsTones 141 = .ok (.iadd, 1) := by decide +kernel
theorem dX7_readsTones_142 : decode cX7_readsTones 142 = .ok (.putfield 158, 3) := by decide +kernel
theorem dX7_readsTones_145 : decode cX7_readsTones 145 = .ok (.iinc 1 1, 3) := by decide +kernel
theorem dX7_readsTones_148 : decode cX7_readsTones 148 = .ok (.goto (-146), 3) := by decide +kernel
theorem dX7_readsTones_151 : decode cX7_readsTones 151 = .ok (.iconst 1, 1) := by decide +kernel
theorem dX7_readsTones_152 : decode cX7_readsTones 152 = .ok (.ireturn, 1) := by decide +kernel
theorem dX7_readsPlate_0 : decode cX7_readsPlate 0 = .ok (.aload_n 0, 1) := by decide +kernel
theorem dX7_readsPlate_1 : decode cX7_readsPlate 1 = .ok (.getfield 14, 3) := by decide +kernel
theorem dX7_readsPlate_4 : decode cX7_readsPlate 4 = .ok (.iconst 2, 1) := by decide +kernel
theorem dX7_readsPlate_5 : decode cX7_readsPlate 5 = .ok (.iaload, 1) := by decide +kernel
theorem dX7_readsPlate_6 : decode cX7_readsPlate 6 = .ok (.iconst 4, 1) := by decide +kernel
theorem dX7_readsPlate_7 : decode cX7_readsPlate 7 = .ok (.if_icmp .ne 11, 3) := by decide +kernel
theorem dX7_readsPlate_10 : decode cX7_readsPlate 10 = .ok (.aload_n 0, 1) := by decide +kernel
theorem dX7_readsPlate_11 : decode cX7_readsPlate 11 = .ok (.bipush (-5), 2) := by decide +kernel
theorem dX7_readsPlate_13 : decode cX7_readsPlate 13 = .ok (.iload_n 1, 1) := by decide +kernel
theorem dX7_readsPlate_14 : decode cX7_readsPlate 14 = .ok (.invokevirtual 182, 3) := by decide +kernel
theorem dX7_readsPlate_17 : decode cX7_readsPlate 17 = .ok (.ireturn, 1) := by decide +kernel
theorem dX7_readsPlate_18 : decode cX7_readsPlate 18 = .ok (.aload_n 0, 1) := by decide +kernel
theorem dX7_readsPlate_19 : decode cX7_readsPlate 19 = .ok (.invokevirtual 171, 3) := by decide +kernel
theorem dX7_readsPlate_22 : decode cX7_readsPlate 22 = .ok (.istore_n 2, 1) := by decide +kernel
theorem dX7_readsPlate_23 : decode cX7_readsPlate 23 = .ok (.iload_n 2, 1) := by decide +kernel
theorem dX7_readsPlate_24 : decode cX7_readsPlate 24 = .ok (.ifCond .ne 14, 3) := by decide +kernel
theorem dX7_readsPlate_27 : decode cX7_readsPlate 27 = .ok (.aload_n 0, 1) := by decide +kernel
theorem dX7_readsPlate_28 : decode cX7_readsPlate 28 = .ok (.bipush (-2), 2) := by decide +kernel
theorem dX7_readsPlate_30 : decode cX7_readsPlate 30 = .ok (.aload_n 0, 1) := by decide +kernel
theorem dX7_readsPlate_31 : decode cX7_readsPlate 31 = .ok (.getfield 158, 3) := by decide +kernel
theorem dX7_readsPlate_34 : decode cX7_readsPlate 34 = .ok (.invokevirtual 182, 3) := by decide +kernel
theorem dX7_readsPlate_37 : decode cX7_readsPlate 37 = .ok (.ireturn, 1) := by decide +kernel
theorem dX7_readsPlate_38 : decode cX7_readsPlate 38 = .ok (.iload_n 2, 1) := by decide +kernel
theorem dX7_readsPlate_39 : decode cX7_readsPlate 39 = .ok (.bipush 6, 2) := by decide +kernel
theorem dX7_readsPlate_41 : decode cX7_readsPlate 41 = .ok (.if_icmp .le 14, 3) := by decide +kernel
theorem dX7_readsPlate_44 : decode cX7_readsPlate 44 = .ok (.aload_n 0, 1) := by decide +kernel
theorem dX7_readsPlate_45 : decode cX7_readsPlate 45 = .ok (.bipush (-3), 2) := by decide +kernel
theorem dX7_readsPlate_47 : decode cX7_readsPlate 47 = .ok (.aload_n 0, 1) := by decide +kernel
theorem dX7_readsPlate_48 : decode cX7_readsPlate 48 = .ok (.getfield 158, 3) := by decide +kernel
theorem dX7_readsPlate_51 : decode cX7_readsPlate 51 = .ok (.invokevirtual 182, 3) := by decide +kernel
theorem dX7_readsPlate_54 : decode cX7_readsPlate 54 = .ok (.ireturn, 1) := by decide +kernel
theorem dX7_readsPlate_55 : decode cX7_readsPlate 55 = .ok (.aload_n 0, 1) := by decide +kernel
theorem dX7_readsPlate_56 : decode cX7_readsPlate 56 = .ok (.aload_n 0, 1) := by decide +kernel
theorem dX7_readsPlate_57 : decode cX7_readsPlate 57 = .ok (.getfield 158, 3) := by decide +kernel
theorem dX7_readsPlate_60 : decode cX7_readsPlate 60 = .ok (.iload_n 2, 1) := by decide +kernel
theorem dX7_readsPlate_61 : decode cX7_readsPlate 61 = .ok (.invokevirtual 231, 3) := by decide +kernel
theorem dX7_readsPlate_64 : decode cX7_readsPlate 64 = .ok (.iconst (-1), 1) := by decide +kernel
theorem dX7_readsPlate_65 : decode cX7_readsPlate 65 = .ok (.if_icmp .eq 14, 3) := by decide +kernel
theorem dX7_readsPlate_68 : decode cX7_readsPlate 68 = .ok (.aload_n 0, 1) := by decide +kernel
theorem dX7_readsPlate_69 : decode cX7_readsPlate 69 = .ok (.bipush (-4), 2) := by decide +kernel
theorem dX7_readsPlate_71 : decode cX7_readsPlate 71 = .ok (.aload_n 0, 1) := by decide +kernel
theorem dX7_readsPlate_72 : decode cX7_readsPlate 72 = .ok (.getfield 158, 3) := by decide +kernel
theorem dX7_readsPlate_75 : decode cX7_readsPlate 75 = .ok (.invokevirtual 182, 3) := by decide +kernel
theorem dX7_readsPlate_78 : decode cX7_readsPlate 78 = .ok (.ireturn, 1) := by decide +kernel
theorem dX7_readsPlate_79 : decode cX7_readsPlate 79 = .ok (.aload_n 0, 1) := by decide +kernel
theorem dX7_readsPlate_80 : decode cX7_readsPlate 80 = .ok (.aload_n 0, 1) := by decide +kernel
theorem dX7_readsPlate_81 : decode cX7_readsPlate 81 = .ok (.getfield 14, 3) := by decide +kernel
theorem dX7_readsPlate_84 : decode cX7_readsPlate 84 = .ok (.iconst 2, 1) := by decide +kernel
theorem dX7_readsPlate_85 : decode cX7_readsPlate 85 = .ok (.iaload, 1) := by decide +kernel
theorem dX7_readsPlate_86 : decode cX7_readsPlate 86 = .ok (.putfield 195, 3) := by decide +kernel
theorem dX7_readsPlate_89 : decode cX7_readsPlate 89 = .ok (.sipush 196, 3) := by decide +kernel
theorem dX7_readsPlate_92 : decode cX7_readsPlate 92 = .ok (.sipush 1226, 3) := by decide +kernel
theorem dX7_readsPlate_95 : decode cX7_readsPlate 95 = .ok (.aload_n 0, 1) := by decide +kernel
theorem dX7_readsPlate_96 : decode cX7_readsPlate 96 = .ok (.getfield 195, 3) := by decide +kernel
theorem dX7_readsPlate_99 : decode cX7_readsPlate 99 = .ok (.imul, 1) := by decide +kernel
theorem dX7_readsPlate_100 : decode cX7_readsPlate 100 = .ok (.iadd, 1) := by decide +kernel
theorem dX7_readsPlate_101 : decode cX7_readsPlate 101 = .ok (.istore_n 3, 1) := by decide +kernel
theorem dX7_readsPlate_102 : decode cX7_readsPlate 102 = .ok (.aload_n 0, 1) := by decide +kernel
theorem dX7_readsPlate_103 : decode cX7_readsPlate 103 = .ok (.getfield 14, 3) := by decide +kernel
theorem dX7_readsPlate_106 : decode cX7_readsPlate 106 = .ok (.iload_n 3, 1) := by decide +kernel
theorem dX7_readsPlate_107 : decode cX7_readsPlate 107 = .ok (.iconst 0, 1) := by decide +kernel
theorem dX7_readsPlate_108 : decode cX7_readsPlate 108 = .ok (.iadd, 1) := by decide +kernel
theorem dX7_readsPlate_109 : decode cX7_readsPlate 109 = .ok (.iload_n 2, 1) := by decide +kernel
theorem dX7_readsPlate_110 : decode cX7_readsPlate 110 = .ok (.iastore, 1) := by decide +kernel
theorem dX7_readsPlate_111 : decode cX7_readsPlate 111 = .ok (.iconst 0, 1) := by decide +kernel
theorem dX7_readsPlate_112 : decode cX7_readsPlate 112 = .ok (.istore 4, 2) := by decide +kernel
theorem dX7_readsPlate_114 : decode cX7_readsPlate 114 = .ok (.iload 4, 2) := by decide +kernel
theorem dX7_readsPlate_116 : decode cX7_readsPlate 116 = .ok (.iload_n 2, 1) := by decide +kernel
theorem dX7_readsPlate_117 : decode cX7_readsPlate 117 = .ok (.if_icmp .ge 32, 3) := by decide +kernel
theorem dX7_readsPlate_120 : decode cX7_readsPlate 120 = .ok (.aload_n 0, 1) := by decide +kernel
theorem dX7_readsPlate_121 : decode cX7_readsPlate 121 = .ok (.getfield 14, 3) := by decide +kernel
theorem dX7_readsPlate_124 : decode cX7_readsPlate 124 = .ok (.iload_n 3, 1) := by decide +kernel
theorem dX7_readsPlate_125 : decode cX7_readsPlate 125 = .ok (.iconst 1, 1) := by decide +kernel
theorem dX7_readsPlate_126 : decode cX7_readsPlate 126 = .ok (.iadd, 1) := by decide +kernel
theorem dX7_readsPlate_127 : decode cX7_readsPlate 127 = .ok (.iload 4, 2) := by decide +kernel
theorem dX7_readsPlate_129 : decode cX7_readsPlate 129 = .ok (.iadd, 1) := by decide +kernel
theorem dX7_readsPlate_130 : decode cX7_readsPlate 130 = .ok (.aload_n 0, 1) := by decide +kernel
theorem dX7_readsPlate_131 : decode cX7_readsPlate 131 = .ok (.getfield 33, 3) := by decide +kernel
theorem dX7_readsPlate_134 : decode cX7_readsPlate 134 = .ok (.aload_n 0, 1) := by decide +kernel
theorem dX7_readsPlate_135 : decode cX7_readsPlate 135 = .ok (.getfield 158, 3) := by decide +kernel
theorem dX7_readsPlate_138 : decode cX7_readsPlate 138 = .ok (.iload 4, 2) := by decide +kernel
theorem dX7_readsPlate_140 : decode cX7_readsPlate 140 = .ok (.iadd, 1) := by decide +kernel
theorem dX7_readsPlate_141 : decode cX7_readsPlate 141 = .ok (.iaload, 1) := by decide +kernel
theorem dX7_readsPlate_142 : decode cX7_readsPlate 142 = .ok (.iastore, 1) := by decide +kernel
theorem dX7_readsPlate_143 : decode cX7_readsPlate 143 = .ok (.iinc 4 1, 3) := by decide +kernel
theorem dX7_readsPlate_146 : decode cX7_readsPlate 146 = .ok (.goto (-32), 3) := by decide +kernel
theorem dX7_readsPlate_149 : decode cX7_readsPlate 149 = .ok (.aload_n 0, 1) := by decide +kernel
theorem dX7_readsPlate_150 : decode cX7_readsPlate 150 = .ok (.dup, 1) := by decide +kernel
theorem dX7_readsPlate_151 : decode cX7_readsPlate 151 = .ok (.getfield 158, 3) := by decide +kernel
theorem dX7_readsPlate_154 : decode cX7_readsPlate 154 = .ok (.iload_n 2, 1) := by decide +kernel
theorem dX7_readsPlate_155 : decode cX7_readsPlate 155 = .ok (.iadd, 1) := by decide +kernel
theorem dX7_readsPlate_156 : decode cX7_readsPlate 156 = .ok (.putfield 158, 3) := by decide +kernel
theorem dX7_readsPlate_159 : decode cX7_readsPlate 159 = .ok (.aload_n 0, 1) := by decide +kernel
theorem dX7_readsPlate_160 : decode cX7_readsPlate 160 = .ok (.iconst 0, 1) := by decide +kernel
theorem dX7_readsPlate_161 : decode cX7_readsPlate 161 = .ok (.iconst 3, 1) := by decide +kernel
theorem dX7_readsPlate_162 : decode cX7_readsPlate 162 = .ok (.invokevirtual 208, 3) := by decide +kernel
theorem dX7_readsPlate_165 : decode cX7_readsPlate 165 = .ok (.ifCond .ne 5, 3) := by decide +kernel
theorem dX7_readsPlate_168 : decode cX7_readsPlate 168 = .ok (.iconst 0, 1) := by decide +kernel
theorem dX7_readsPlate_169 : decode cX7_readsPlate 169 = .ok (.ireturn, 1) := by decide +kernel
theorem dX7_readsPlate_170 : decode cX7_readsPlate 170 = .ok (.aload_n 0, 1) := by decide +kernel
theorem dX7_readsPlate_171 : decode cX7_readsPlate 171 = .ok (.getfield 14, 3) := by decide +kernel
theorem dX7_readsPlate_174 : decode cX7_readsPlate 174 = .ok (.iload_n 3, 1) := by decide +kernel
theorem dX7_readsPlate_175 : decode cX7_readsPlate 175 = .ok (.bipush 7, 2) := by decide +kernel
theorem dX7_readsPlate_177 : decode cX7_readsPlate 177 = .ok (.iadd, 1) := by decide +kernel
theorem dX7_readsPlate_178 : decode cX7_readsPlate 178 = .ok (.aload_n 0, 1) := by decide +kernel
theorem dX7_readsPlate_179 : decode cX7_readsPlate 179 = .ok (.getfield 191, 3) := by decide +kernel
theorem dX7_readsPlate_182 : decode cX7_readsPlate 182 = .ok (.iastore, 1) := by decide +kernel
theorem dX7_readsPlate_183 : decode cX7_readsPlate 183 = .ok (.aload_n 0, 1) := by decide +kernel
theorem dX7_readsPlate_184 : decode cX7_readsPlate 184 = .ok (.iconst 0, 1) := by decide +kernel
theorem dX7_readsPlate_185 : decode cX7_readsPlate 185 = .ok (.iconst 3, 1) := by decide +kernel
theorem dX7_readsPlate_186 : decode cX7_readsPlate 186 = .ok (.invokevirtual 208, 3) := by decide +kernel
theorem dX7_readsPlate_189 : decode cX7_readsPlate 189 = .ok (.ifCond .ne 5, 3) := by decide +kernel
theorem dX7_readsPlate_192 : decode cX7_readsPlate 192 = .ok (.iconst 0, 1) := by decide +kernel
theorem dX7_readsPlate_193 : decode cX7_readsPlate 193 = .ok (.ireturn, 1) := by decide +kernel
theorem dX7_readsPlate_194 : decode cX7_readsPlate 194 = .ok (.aload_n 0, 1) := by decide +kernel
theorem dX7_readsPlate_195 : decode cX7_readsPlate 195 = .ok (.getfield 191, 3) := by decide +kernel
theorem dX7_readsPlate_198 : decode cX7_readsPlate 198 = .ok (.ifCond .ne 26, 3) := by decide +kernel
theorem dX7_readsPlate_201 : decode cX7_readsPlate 201 = .ok (.aload_n 0, 1) := by decide +kernel
theorem dX7_readsPlate_202 : decode cX7_readsPlate 202 = .ok (.getfield 14, 3) := by decide +kernel
theorem dX7_readsPlate_205 : decode cX7_readsPlate 205 = .ok (.iload_n 3, 1) := by decide +kernel
theorem dX7_readsPlate_206 : decode cX7_readsPlate 206 = .ok (.bipush 7, 2) := by decide +kernel
theorem dX7_readsPlate_208 : decode cX7_readsPlate 208 = .ok (.iadd, 1) := by decide +kernel
theorem dX7_readsPlate_209 : decode cX7_readsPlate 209 = .ok (.iaload, 1) := by decide +kernel
theorem dX7_readsPlate_210 : decode cX7_readsPlate 210 = .ok (.ifCond .ne 14, 3) := by decide +kernel
theorem dX7_readsPlate_213 : decode cX7_readsPlate 213 = .ok (.aload_n 0, 1) := by decide +kernel
theorem dX7_readsPlate_214 : decode cX7_readsPlate 214 = .ok (.bipush (-3), 2) := by decide +kernel
theorem dX7_readsPlate_216 : decode cX7_readsPlate 216 = .ok (.aload_n 0, 1) := by decide +kernel
theorem dX7_readsPlate_217 : decode cX7_readsPlate 217 = .ok (.getfield 188, 3) := by decide +kernel
theorem dX7_readsPlate_220 : decode cX7_readsPlate 220 = .ok (.invokevirtual 182, 3) := by decide +kernel
theorem dX7_readsPlate_223 : decode cX7_readsPlate 223 = .ok (.ireturn, 1) := by decide +kernel
theorem dX7_readsPlate_224 : decode cX7_readsPlate 224 = .ok (.aload_n 0, 1) := by decide +kernel
theorem dX7_readsPlate_225 : decode cX7_readsPlate 225 = .ok (.getfield 14, 3) := by decide +kernel
theorem dX7_readsPlate_228 : decode cX7_readsPlate 228 = .ok (.iload_n 3, 1) := by decide +kernel
theorem dX7_readsPlate_229 : decode cX7_readsPlate 229 = .ok (.bipush 8, 2) := by decide +kernel
theorem dX7_readsPlate_231 : decode cX7_readsPlate 231 = .ok (.iadd, 1) := by decide +kernel
theorem dX7_readsPlate_232 : decode cX7_readsPlate 232 = .ok (.aload_n 0, 1) := by decide +kernel
theorem dX7_readsPlate_233 : decode cX7_readsPlate 233 = .ok (.getfield 191, 3) := by decide +kernel
theorem dX7_readsPlate_236 : decode cX7_readsPlate 236 = .ok (.iastore, 1) := by decide +kernel
theorem dX7_readsPlate_237 : decode cX7_readsPlate 237 = .ok (.aload_n 0, 1) := by decide +kernel
theorem dX7_readsPlate_238 : decode cX7_readsPlate 238 = .ok (.ldc 234, 2) := by decide +kernel
theorem dX7_readsPlate_240 : decode cX7_readsPlate 240 = .ok (.invokevirtual 215, 3) := by decide +kernel
theorem dX7_readsPlate_243 : decode cX7_readsPlate 243 = .ok (.ifCond .eq 7, 3) := by decide +kernel
theorem dX7_readsPlate_246 : decode cX7_readsPlate 246 = .ok (.iconst 0, 1) := by decide +kernel
theorem dX7_readsPlate_247 : decode cX7_readsPlate 247 = .ok (.goto 43, 3) := by decide +kernel
theorem dX7_readsPlate_250 : decode cX7_readsPlate 250 = .ok (.aload_n 0, 1) := by decide +kernel
theorem dX7_readsPlate_251 : decode cX7_readsPlate 251 = .ok (.ldc 236, 2) := by decide +kernel
theorem dX7_readsPlate_253 : decode cX7_readsPlate 253 = .ok (.invokevirtual 215, 3) := by decide +kernel
theorem dX7_readsPlate_256 : decode cX7_readsPlate 256 = .ok (.ifCond .eq 7, 3) := by decide +kernel
theorem dX7_readsPlate_259 : decode cX7_readsPlate 259 = .ok (.iconst 1, 1) := by decide +kernel
theorem dX7_readsPlate_260 : decode cX7_readsPlate 260 = .ok (.goto 30, 3) := by decide +kernel
theorem dX7_readsPlate_263 : decode cX7_readsPlate 263 = .ok (.aload_n 0, 1) := by decide +kernel
theorem dX7_readsPlate_264 : decode cX7_readsPlate 264 = .ok (.ldc 238, 2) := by decide +kernel
theorem dX7_readsPlate_266 : decode cX7_readsPlate 266 = .ok (.invokevirtual 215, 3) := by decide +kernel
theorem dX7_readsPlate_269 : decode cX7_readsPlate 269 = .ok (.ifCond .eq 7, 3) := by decide +kernel
theorem dX7_readsPlate_272 : decode cX7_readsPlate 272 = .ok (.iconst 2, 1) := by decide +kernel
theorem dX7_readsPlate_273 : decode cX7_readsPlate 273 = .ok (.goto 17, 3) := by decide +kernel
theorem dX7_readsPlate_276 : decode cX7_readsPlate 276 = .ok (.aload_n 0, 1) := by decide +kernel
theorem dX7_readsPlate_277 : decode cX7_readsPlate 277 = .ok (.ldc 240, 2) := by decide +kernel
theorem dX7_readsPlate_279 : decode cX7_readsPlate 279 = .ok (.invokevirtual 215, 3) := by decide +kernel
theorem dX7_readsPlate_282 : decode cX7_readsPlate 282 = .ok (.ifCond .eq 7, 3) := by decide +kernel
theorem dX7_readsPlate_285 : decode cX7_readsPlate 285 = .ok (.iconst 3, 1) := by decide +kernel
theorem dX7_readsPlate_286 : decode cX7_readsPlate 286 = .ok (.goto 4, 3) := by decide +kernel
theorem dX7_readsPlate_289 : decode cX7_readsPlate 289 = .ok (.iconst (-1), 1) := by decide +kernel
theorem dX7_readsPlate_290 : decode cX7_readsPlate 290 = .ok (.istore 4, 2) := by decide +kernel
theorem dX7_readsPlate_292 : decode cX7_readsPlate 292 = .ok (.iload 4, 2) := by decide +kernel
theorem dX7_readsPlate_294 : decode cX7_readsPlate 294 = .ok (.iconst (-1), 1) := by decide +kernel
theorem dX7_readsPlate_295 : decode cX7_readsPlate 295 = .ok (.if_icmp .ne 14, 3) := by decide +kernel
theorem dX7_readsPlate_298 : decode cX7_readsPlate 298 = .ok (.aload_n 0, 1) := by decide +kernel
theorem dX7_readsPlate_299 : decode cX7_readsPlate 299 = .ok (.bipush (-2), 2) := by decide +kernel
theorem dX7_readsPlate_301 : decode cX7_readsPlate 301 = .ok (.aload_n 0, 1) := by decide +kernel
theorem dX7_readsPlate_302 : decode cX7_readsPlate 302 = .ok (.getfield 158, 3) := by decide +kernel
theorem dX7_readsPlate_305 : decode cX7_readsPlate 305 = .ok (.invokevirtual 182, 3) := by decide +kernel
theorem dX7_readsPlate_308 : decode cX7_readsPlate 308 = .ok (.ireturn, 1) := by decide +kernel
theorem dX7_readsPlate_309 : decode cX7_readsPlate 309 = .ok (.aload_n 0, 1) := by decide +kernel
theorem dX7_readsPlate_310 : decode cX7_readsPlate 310 = .ok (.getfield 14, 3) := by decide +kernel
theorem dX7_readsPlate_313 : decode cX7_readsPlate 313 = .ok (.iload_n 3, 1) := by decide +kernel
theorem dX7_readsPlate_314 : decode cX7_readsPlate 314 = .ok (.bipush 9, 2) := by decide +kernel
theorem dX7_readsPlate_316 : decode cX7_readsPlate 316 = .ok (.iadd, 1) := by decide +kernel
theorem dX7_readsPlate_317 : decode cX7_readsPlate 317 = .ok (.iload 4, 2) := by decide +kernel
theorem dX7_readsPlate_319 : decode cX7_readsPlate 319 = .ok (.iastore, 1) := by decide +kernel
theorem dX7_readsPlate_320 : decode cX7_readsPlate 320 = .ok (.aload_n 0, 1) := by decide +kernel
theorem dX7_readsPlate_321 : decode cX7_readsPlate 321 = .ok (.getfield 14, 3) := by decide +kernel
theorem dX7_readsPlate_324 : decode cX7_readsPlate 324 = .ok (.iload_n 3, 1) := by decide +kernel
theorem dX7_readsPlate_325 : decode cX7_readsPlate 325 = .ok (.bipush 12, 2) := by decide +kernel
theorem dX7_readsPlate_327 : decode cX7_readsPlate 327 = .ok (.iadd, 1) := by decide +kernel
theorem dX7_readsPlate_328 : decode cX7_readsPlate 328 = .ok (.sipush 1000, 3) := by decide +kernel
theorem dX7_readsPlate_331 : decode cX7_readsPlate 331 = .ok (.iastore, 1) := by decide +kernel
theorem dX7_readsPlate_332 : decode cX7_readsPlate 332 = .ok (.aload_n 0, 1) := by decide +kernel
theorem dX7_readsPlate_333 : decode cX7_readsPlate 333 = .ok (.iconst 0, 1) := by decide +kernel
theorem dX7_readsPlate_334 : decode cX7_readsPlate 334 = .ok (.putfield 198, 3) := by decide +kernel
theorem dX7_readsPlate_337 : decode cX7_readsPlate 337 = .ok (.aload_n 0, 1) := by decide +kernel
theorem dX7_readsPlate_338 : decode cX7_readsPlate 338 = .ok (.ldc 242, 2) := by decide +kernel
theorem dX7_readsPlate_340 : decode cX7_readsPlate 340 = .ok (.invokevirtual 215, 3) := by decide +kernel
theorem dX7_readsPlate_343 : decode cX7_readsPlate 343 = .ok (.ifCond .eq 12, 3) := by decide +kernel
theorem dX7_readsPlate_346 : decode cX7_readsPlate 346 = .ok (.aload_n 0, 1) := by decide +kernel
theorem dX7_readsPlate_347 : decode cX7_readsPlate 347 = .ok (.invokevirtual 201, 3) := by decide +kernel
theorem dX7_readsPlate_350 : decode cX7_readsPlate 350 = .ok (.ifCond .ne 5, 3) := by decide +kernel
theorem dX7_readsPlate_353 : decode cX7_readsPlate 353 = .ok (.iconst 0, 1) := by decide +kernel
theorem dX7_readsPlate_354 : decode cX7_readsPlate 354 = .ok (.ireturn, 1) := by decide +kernel
theorem dX7_readsPlate_355 : decode cX7_readsPlate 355 = .ok (.aload_n 0, 1) := by decide +kernel
theorem dX7_readsPlate_356 : decode cX7_readsPlate 356 = .ok (.getfield 14, 3) := by decide +kernel
theorem dX7_readsPlate_359 : decode cX7_readsPlate 359 = .ok (.iconst 2, 1) := by decide +kernel
theorem dX7_readsPlate_360 : decode cX7_readsPlate 360 = .ok (.dup2, 1) := by decide +kernel
theorem dX7_readsPlate_361 : decode cX7_readsPlate 361 = .ok (.iaload, 1) := by decide +kernel
theorem dX7_readsPlate_362 : decode cX7_readsPlate 362 = .ok (.iconst 1, 1) := by decide +kernel
theorem dX7_readsPlate_363 : decode cX7_readsPlate 363 = .ok (.iadd, 1) := by decide +kernel
theorem dX7_readsPlate_364 : decode cX7_readsPlate 364 = .ok (.iastore, 1) := by decide +kernel
theorem dX7_readsPlate_365 : decode cX7_readsPlate 365 = .ok (.iconst 1, 1) := by decide +kernel
theorem dX7_readsPlate_366 : decode cX7_readsPlate 366 = .ok (.ireturn, 1) := by decide +kernel
theorem dX7_readsInk_0 : decode cX7_readsInk 0 = .ok (.aload_n 0, 1) := by decide +kernel
theorem dX7_readsInk_1 : decode cX7_readsInk 1 = .ok (.invokevirtual 171, 3) := by decide +kernel
theorem dX7_readsInk_4 : decode cX7_readsInk 4 = .ok (.istore_n 1, 1) := by decide +kernel
theorem dX7_readsInk_5 : decode cX7_readsInk 5 = .ok (.iload_n 1, 1) := by decide +kernel
theorem dX7_readsInk_6 : decode cX7_readsInk 6 = .ok (.ifCond .ne 14, 3) := by decide +kernel
theorem dX7_readsInk_9 : decode cX7_readsInk 9 = .ok (.aload_n 0, 1) := by decide +kernel
theorem dX7_readsInk_10 : decode cX7_readsInk 10 = .ok (.bipush (-2), 2) := by decide +kernel
theorem dX7_readsInk_12 : decode cX7_readsInk 12 = .ok (.aload_n 0, 1) := by decide +kernel
theorem dX7_readsInk_13 : decode cX7_readsInk 13 = .ok (.getfield 158, 3) := by decide +kernel
theorem dX7_readsInk_16 : decode cX7_readsInk 16 = .ok (.invokevirtual 182, 3) := by decide +kernel
theorem dX7_readsInk_19 : decode cX7_readsInk 19 = .ok (.ireturn, 1) := by decide +kernel
theorem dX7_readsInk_20 : decode cX7_readsInk 20 = .ok (.iload_n 1, 1) := by decide +kernel
theorem dX7_readsInk_21 : decode cX7_readsInk 21 = .ok (.bipush 6, 2) := by decide +kernel
theorem dX7_readsInk_23 : decode cX7_readsInk 23 = .ok (.if_icmp .le 14, 3) := by decide +kernel
theorem dX7_readsInk_26 : decode cX7_readsInk 26 = .ok (.aload_n 0, 1) := by decide +kernel
theorem dX7_readsInk_27 : decode cX7_readsInk 27 = .ok (.bipush (-3), 2) := by decide +kernel
theorem dX7_readsInk_29 : decode cX7_readsInk 29 = .ok (.aload_n 0, 1) := by decide +kernel
theorem dX7_readsInk_30 : decode cX7_readsInk 30 = .ok (.getfield 158, 3) := by decide +kernel
theorem dX7_readsInk_33 : decode cX7_readsInk 33 = .ok (.invokevirtual 182, 3) := by decide +kernel
theorem dX7_readsInk_36 : decode cX7_readsInk 36 = .ok (.ireturn, 1) := by decide +kernel
theorem dX7_readsInk_37 : decode cX7_readsInk 37 = .ok (.aload_n 0, 1) := by decide +kernel
theorem dX7_readsInk_38 : decode cX7_readsInk 38 = .ok (.aload_n 0, 1) := by decide +kernel
theorem dX7_readsInk_39 : decode cX7_readsInk 39 = .ok (.getfield 158, 3) := by decide +kernel
theorem dX7_readsInk_42 : decode cX7_readsInk 42 = .ok (.iload_n 1, 1) := by decide +kernel
theorem dX7_readsInk_43 : decode cX7_readsInk 43 = .ok (.invokevirtual 231, 3) := by decide +kernel
theorem dX7_readsInk_46 : decode cX7_readsInk 46 = .ok (.istore_n 2, 1) := by decide +kernel
theorem dX7_readsInk_47 : decode cX7_readsInk 47 = .ok (.iload_n 2, 1) := by decide +kernel
theorem dX7_readsInk_48 : decode cX7_readsInk 48 = .ok (.iconst (-1), 1) := by decide +kernel
theorem dX7_readsInk_49 : decode cX7_readsInk 49 = .ok (.if_icmp .ne 14, 3) := by decide +kernel
theorem dX7_readsInk_52 : decode cX7_readsInk 52 = .ok (.aload_n 0, 1) := by decide +kernel
theorem dX7_readsInk_53 : decode cX7_readsInk 53 = .ok (.bipush (-4), 2) := by decide +kernel
theorem dX7_readsInk_55 : decode cX7_readsInk 55 = .ok (.aload_n 0, 1) := by decide +kernel
theorem dX7_readsInk_56 : decode cX7_readsInk 56 = .ok (.getfield 158, 3) := by decide +kernel
theorem dX7_readsInk_59 : decode cX7_readsInk 59 = .ok (.invokevirtual 182, 3) := by decide +kernel
theorem dX7_readsInk_62 : decode cX7_readsInk 62 = .ok (.ireturn, 1) := by decide +kernel
theorem dX7_readsInk_63 : decode cX7_readsInk 63 = .ok (.aload_n 0, 1) := by decide +kernel
theorem dX7_readsInk_64 : decode cX7_readsInk 64 = .ok (.dup, 1) := by decide +kernel
theorem dX7_readsInk_65 : decode cX7_readsInk 65 = .ok (.getfield 158, 3) := by decide +kernel
theorem dX7_readsInk_68 : decode cX7_readsInk 68 = .ok (.iload_n 1, 1) := by decide +kernel
theorem dX7_readsInk_69 : decode cX7_readsInk 69 = .ok (.iadd, 1) := by decide +kernel
theorem dX7_readsInk_70 : decode cX7_readsInk 70 = .ok (.putfield 158, 3) := by decide +kernel
theorem dX7_readsInk_73 : decode cX7_readsInk 73 = .ok (.aload_n 0, 1) := by decide +kernel
theorem dX7_readsInk_74 : decode cX7_readsInk 74 = .ok (.iconst 0, 1) := by decide +kernel
theorem dX7_readsInk_75 : decode cX7_readsInk 75 = .ok (.ldc 244, 2) := by decide +kernel
theorem dX7_readsInk_77 : decode cX7_readsInk 77 = .ok (.invokevirtual 208, 3) := by decide +kernel
theorem dX7_readsInk_80 : decode cX7_readsInk 80 = .ok (.ifCond .ne 5, 3) := by decide +kernel
theorem dX7_readsInk_83 : decode cX7_readsInk 83 = .ok (.iconst 0, 1) := by decide +kernel
theorem dX7_readsInk_84 : decode cX7_readsInk 84 = .ok (.ireturn, 1) := by decide +kernel
theorem dX7_readsInk_85 : decode cX7_readsInk 85 = .ok (.aload_n 0, 1) := by decide +kernel
theorem dX7_readsInk_86 : decode cX7_readsInk 86 = .ok (.getfield 14, 3) := by decide +kernel
theorem dX7_readsInk_89 : decode cX7_readsInk 89 = .ok (.sipush 196, 3) := by decide +kernel
theorem dX7_readsInk_92 : decode cX7_readsInk 92 = .ok (.sipush 1226, 3) := by decide +kernel
theorem dX7_readsInk_95 : decode cX7_readsInk 95 = .ok (.iload_n 2, 1) := by decide +kernel
theorem dX7_readsInk_96 : decode cX7_readsInk 96 = .ok (.imul, 1) := by decide +kernel
theorem dX7_readsInk_97 : decode cX7_readsInk 97 = .ok (.iadd, 1) := by decide +kernel
theorem dX7_readsInk_98 : decode cX7_readsInk 98 = .ok (.bipush 12, 2) := by decide +kernel
theorem dX7_readsInk_100 : decode cX7_readsInk 100 = .ok (.iadd, 1) := by decide +kernel
theorem dX7_readsInk_101 : decode cX7_readsInk 101 = .ok (.aload_n 0, 1) := by decide +kernel
theorem dX7_readsInk_102 : decode cX7_readsInk 102 = .ok (.getfield 191, 3) := by decide +kernel
theorem dX7_readsInk_105 : decode cX7_readsInk 105 = .ok (.iastore, 1) := by decide +kernel
theorem dX7_readsInk_106 : decode cX7_readsInk 106 = .ok (.iconst 1, 1) := by decide +kernel
theorem dX7_readsInk_107 : decode cX7_readsInk 107 = .ok (.ireturn, 1) := by decide +kernel
theorem dX7_readsStatement_0 : decode cX7_readsStatement 0 = .ok (.aload_n 0, 1) := by decide +kernel
theorem dX7_readsStatement_1 : decode cX7_readsStatement 1 = .ok (.invokevirtual 164, 3) := by decide +kernel
theorem dX7_readsStatement_4 : decode cX7_readsStatement 4 = .ok (.pop, 1) := by decide +kernel
theorem dX7_readsStatement_5 : decode cX7_readsStatement 5 = .ok (.aload_n 0, 1) := by decide +kernel
theorem dX7_readsStatement_6 : decode cX7_readsStatement 6 = .ok (.getfield 158, 3) := by decide +kernel
theorem dX7_readsStatement_9 : decode cX7_readsStatement 9 = .ok (.istore_n 1, 1) := by decide +kernel
theorem dX7_readsStatement_10 : decode cX7_readsStatement 10 = .ok (.aload_n 0, 1) := by decide +kernel
theorem dX7_readsStatement_11 : decode cX7_readsStatement 11 = .ok (.ldc 223, 2) := by decide +kernel
theorem dX7_readsStatement_13 : decode cX7_readsStatement 13 = .ok (.invokevirtual 215, 3) := by decide +kernel
theorem dX7_readsStatement_16 : decode cX7_readsStatement 16 = .ok (.ifCond .eq 9, 3) := by decide +kernel
theorem dX7_readsStatement_19 : decode cX7_readsStatement 19 = .ok (.aload_n 0, 1) := by decide +kernel
theorem dX7_readsStatement_20 : decode cX7_readsStatement 20 = .ok (.iload_n 1, 1) := by decide +kernel
theorem dX7_readsStatement_21 : decode cX7_readsStatement 21 = .ok (.invokevirtual 245, 3) := by decide +kernel
theorem dX7_readsStatement_24 : decode cX7_readsStatement 24 = .ok (.ireturn, 1) := by decide +kernel
theorem dX7_readsStatement_25 : decode cX7_readsStatement 25 = .ok (.aload_n 0, 1) := by decide +kernel
theorem dX7_readsStatement_26 : decode cX7_readsStatement 26 = .ok (.ldc 248, 2) := by decide +kernel
theorem dX7_readsStatement_28 : decode cX7_readsStatement 28 = .ok (.invokevirtual 215, 3) := by decide +kernel
theorem dX7_readsStatement_31 : decode cX7_readsStatement 31 = .ok (.ifCond .eq 8, 3) := by decide +kernel
theorem dX7_readsStatement_34 : decode cX7_readsStatement 34 = .ok (.aload_n 0, 1) := by decide +kernel
theorem dX7_readsStatement_35 : decode cX7_readsStatement 35 = .ok (.invokevirtual 250, 3) := by decide +kernel
theorem dX7_readsStatement_38 : decode cX7_readsStatement 38 = .ok (.ireturn, 1) := by decide +kernel
theorem dX7_readsStatement_39 : decode cX7_readsStatement 39 = .ok (.aload_n 0, 1) := by decide +kernel
theorem dX7_readsStatement_40 : decode cX7_readsStatement 40 = .ok (.ldc 253, 2) := by decide +kernel
theorem dX7_readsStatement_42 : decode cX7_readsStatement 42 = .ok (.invokevirtual 215, 3) := by decide +kernel
theorem dX7_readsStatement_45 : decode cX7_readsStatement 45 = .ok (.ifCond .eq 28, 3) := by decide +kernel
theorem dX7_readsStatement_48 : decode cX7_readsStatement 48 = .ok (.aload_n 0, 1) := by decide +kernel
theorem dX7_readsStatement_49 : decode cX7_readsStatement 49 = .ok (.getfield 255, 3) := by decide +kernel
theorem dX7_readsStatement_52 : decode cX7_readsStatement 52 = .ok (.ifCond .eq 11, 3) := by decide +kernel
theorem dX7_readsStatement_55 : decode cX7_readsStatement 55 = .ok (.aload_n 0, 1) := by decide +kernel
theorem dX7_readsStatement_56 : decode cX7_readsStatement 56 = .ok (.bipush (-2), 2) := by decide +kernel
theorem dX7_readsStatement_58 : decode cX7_readsStatement 58 = .ok (.iload_n 1, 1) := by decide +kernel
theorem dX7_readsStatement_59 : decode cX7_readsStatement 59 = .ok (.invokevirtual 182, 3) := by decide +kernel
theorem dX7_readsStatement_62 : decode cX7_readsStatement 62 = .ok (.ireturn, 1) := by decide +kernel
theorem dX7_readsStatement_63 : decode cX7_readsStatement 63 = .ok (.aload_n 0, 1) := by decide +kernel
theorem dX7_readsStatement_64 : decode cX7_readsStatement 64 = .ok (.iconst 1, 1) := by decide +kernel
theorem dX7_readsStatement_65 : decode cX7_readsStatement 65 = .ok (.putfield 255, 3) := by decide +kernel
theorem dX7_readsStatement_68 : decode cX7_readsStatement 68 = .ok (.aload_n 0, 1) := by decide +kernel
theorem dX7_readsStatement_69 : decode cX7_readsStatement 69 = .ok (.invokevirtual 258, 3) := by decide +kernel
theorem dX7_readsStatement_72 : decode cX7_readsStatement 72 = .ok (.ireturn, 1) := by decide +kernel
theorem dX7_readsStatement_73 : decode cX7_readsStatement 73 = .ok (.aload_n 0, 1) := by decide +kernel
theorem dX7_readsStatement_74 : decode cX7_readsStatement 74 = .ok (.ldc_w 261, 3) := by decide +kernel
theorem dX7_readsStatement_77 : decode cX7_readsStatement 77 = .ok (.invokevirtual 215, 3) := by decide +kernel
theorem dX7_readsStatement_80 : decode cX7_readsStatement 80 = .ok (.ifCond .eq 10, 3) := by decide +kernel
theorem dX7_readsStatement_83 : decode cX7_readsStatement 83 = .ok (.aload_n 0, 1) := by decide +kernel
theorem dX7_readsStatement_84 : decode cX7_readsStatement 84 = .ok (.getfield 263, 3) := by decide +kernel
theorem dX7_readsStatement_87 : decode cX7_readsStatement 87 = .ok (.ifCond .eq 11, 3) := by decide +kernel
theorem dX7_readsStatement_90 : decode cX7_readsStatement 90 = .ok (.aload_n 0, 1) := by decide +kernel
theorem dX7_readsStatement_91 : decode cX7_readsStatement 91 = .ok (.bipush (-2), 2) := by decide +kernel
theorem dX7_readsStatement_93 : decode cX7_readsStatement 93 = .ok (.iload_n 1, 1) := by decide +kernel
theorem dX7_readsStatement_94 : decode cX7_readsStatement 94 = .ok (.invokevirtual 182, 3) := by decide +kernel
theorem dX7_readsStatement_97 : decode cX7_readsStatement 97 = .ok (.ireturn, 1) := by decide +kernel
theorem dX7_readsStatement_98 : decode cX7_readsStatement 98 = .ok (.aload_n 0, 1) := by decide +kernel
theorem dX7_readsStatement_99 : decode cX7_readsStatement 99 = .ok (.iconst 1, 1) := by decide +kernel
theorem dX7_readsStatement_100 : decode cX7_readsStatement 100 = .ok (.putfield 263, 3) := by decide +kernel
theorem dX7_readsStatement_103 : decode cX7_readsStatement 103 = .ok (.aload_n 0, 1) := by decide +kernel
theorem dX7_readsStatement_104 : decode cX7_readsStatement 104 = .ok (.iconst 1, 1) := by decide +kernel
theorem dX7_readsStatement_105 : decode cX7_readsStatement 105 = .ok (.iconst 4, 1) := by decide +kernel
theorem dX7_readsStatement_106 : decode cX7_readsStatement 106 = .ok (.invokevirtual 208, 3) := by decide +kernel
theorem dX7_readsStatement_109 : decode cX7_readsStatement 109 = .ok (.ifCond .ne 5, 3) := by decide +kernel
theorem dX7_readsStatement_112 : decode cX7_readsStatement 112 = .ok (.iconst 0, 1) := by decide +kernel
theorem dX7_readsStatement_113 : decode cX7_readsStatement 113 = .ok (.ireturn, 1) := by decide +kernel
theorem dX7_readsStatement_114 : decode cX7_readsStatement 114 = .ok (.aload_n 0, 1) := by decide +kernel
theorem dX7_readsStatement_115 : decode cX7_readsStatement 115 = .ok (.getfield 14, 3) := by decide +kernel
theorem dX7_readsStatement_118 : decode cX7_readsStatement 118 = .ok (.iconst 3, 1) := by decide +kernel
theorem dX7_readsStatement_119 : decode cX7_readsStatement 119 = .ok (.aload_n 0, 1) := by decide +kernel
theorem dX7_readsStatement_120 : decode cX7_readsStatement 120 = .ok (.getfield 191, 3) := by decide +kernel
theorem dX7_readsStatement_123 : decode cX7_readsStatement 123 = .ok (.iastore, 1) := by decide +kernel
theorem dX7_readsStatement_124 : decode cX7_readsStatement 124 = .ok (.iconst 1, 1) := by decide +kernel
theorem dX7_readsStatement_125 : decode cX7_readsStatement 125 = .ok (.ireturn, 1) := by decide +kernel
theorem dX7_readsText_0 : decode cX7_readsText 0 = .ok (.aload_n 0, 1) := by decide +kernel
theorem dX7_readsText_1 : decode cX7_readsText 1 = .ok (.ldc_w 266, 3) := by decide +kernel
theorem dX7_readsText_4 : decode cX7_readsText 4 = .ok (.invokevirtual 215, 3) := by decide +kernel
theorem dX7_readsText_7 : decode cX7_readsText 7 = .ok (.ifCond .ne 14, 3) := by decide +kernel
theorem dX7_readsText_10 : decode cX7_readsText 10 = .ok (.aload_n 0, 1) := by decide +kernel
theorem dX7_readsText_11 : decode cX7_readsText 11 = .ok (.bipush (-2), 2) := by decide +kernel
theorem dX7_readsText_13 : decode cX7_readsText 13 = .ok (.aload_n 0, 1) := by decide +kernel
theorem dX7_readsText_14 : decode cX7_readsText 14 = .ok (.getfield 158, 3) := by decide +kernel
theorem dX7_readsText_17 : decode cX7_readsText 17 = .ok (.invokevirtual 182, 3) := by decide +kernel
theorem dX7_readsText_20 : decode cX7_readsText 20 = .ok (.ireturn, 1) := by decide +kernel
theorem dX7_readsText_21 : decode cX7_readsText 21 = .ok (.aload_n 0, 1) := by decide +kernel
theorem dX7_readsText_22 : decode cX7_readsText 22 = .ok (.iconst 1, 1) := by decide +kernel
theorem dX7_readsText_23 : decode cX7_readsText 23 = .ok (.bipush 16, 2) := by decide +kernel
theorem dX7_readsText_25 : decode cX7_readsText 25 = .ok (.invokevirtual 208, 3) := by decide +kernel
theorem dX7_readsText_28 : decode cX7_readsText 28 = .ok (.ifCond .ne 5, 3) := by decide +kernel
theorem dX7_readsText_31 : decode cX7_readsText 31 = .ok (.iconst 0, 1) := by decide +kernel
theorem dX7_readsText_32 : decode cX7_readsText 32 = .ok (.ireturn, 1) := by decide +kernel
theorem dX7_readsText_33 : decode cX7_readsText 33 = .ok (.aload_n 0, 1) := by decide +kernel
theorem dX7_readsText_34 : decode cX7_readsText 34 = .ok (.getfield 191, 3) := by decide +kernel
theorem dX7_readsText_37 : decode cX7_readsText 37 = .ok (.istore_n 1, 1) := by decide +kernel
theorem dX7_readsText_38 : decode cX7_readsText 38 = .ok (.aload_n 0, 1) := by decide +kernel
theorem dX7_readsText_39 : decode cX7_readsText 39 = .ok (.iconst 1, 1) := by decide +kernel
theorem dX7_readsText_40 : decode cX7_readsText 40 = .ok (.bipush 12, 2) := by decide +kernel
theorem dX7_readsText_42 : decode cX7_readsText 42 = .ok (.invokevirtual 208, 3) := by decide +kernel
theorem dX7_readsText_45 : decode cX7_readsText 45 = .ok (.ifCond .ne 5, 3) := by decide +kernel
theorem dX7_readsText_48 : decode cX7_readsText 48 = .ok (.iconst 0, 1) := by decide +kernel
theorem dX7_readsText_49 : decode cX7_readsText 49 = .ok (.ireturn, 1) := by decide +kernel
theorem dX7_readsText_50 : decode cX7_readsText 50 = .ok (.aload_n 0, 1) := by decide +kernel
theorem dX7_readsText_51 : decode cX7_readsText 51 = .ok (.iload_n 1, 1) := by decide +kernel
theorem dX7_readsText_52 : decode cX7_readsText 52 = .ok (.aload_n 0, 1) := by decide +kernel
theorem dX7_readsText_53 : decode cX7_readsText 53 = .ok (.getfield 191, 3) := by decide +kernel
theorem dX7_readsText_56 : decode cX7_readsText 56 = .ok (.invokevirtual 43, 3) := by decide +kernel
theorem dX7_readsText_59 : decode cX7_readsText 59 = .ok (.aload_n 0, 1) := by decide +kernel
theorem dX7_readsText_60 : decode cX7_readsText 60 = .ok (.iconst 0, 1) := by decide +kernel
theorem dX7_readsText_61 : decode cX7_readsText 61 = .ok (.putfield 255, 3) := by decide +kernel
theorem dX7_readsText_64 : decode cX7_readsText 64 = .ok (.aload_n 0, 1) := by decide +kernel
theorem dX7_readsText_65 : decode cX7_readsText 65 = .ok (.iconst 0, 1) := by decide +kernel
theorem dX7_readsText_66 : decode cX7_readsText 66 = .ok (.putfield 263, 3) := by decide +kernel
theorem dX7_readsText_69 : decode cX7_readsText 69 = .ok (.aload_n 0, 1) := by decide +kernel
theorem dX7_readsText_70 : decode cX7_readsText 70 = .ok (.bipush 59, 2) := by decide +kernel
theorem dX7_readsText_72 : decode cX7_readsText 72 = .ok (.invokevirtual 205, 3) := by decide +kernel
theorem dX7_readsText_75 : decode cX7_readsText 75 = .ok (.ifCond .ne 5, 3) := by decide +kernel
theorem dX7_readsText_78 : decode cX7_readsText 78 = .ok (.iconst 0, 1) := by decide +kernel
theorem dX7_readsText_79 : decode cX7_readsText 79 = .ok (.ireturn, 1) := by decide +kernel
theorem dX7_readsText_80 : decode cX7_readsText 80 = .ok (.aload_n 0, 1) := by decide +kernel
theorem dX7_readsText_81 : decode cX7_readsText 81 = .ok (.invokevirtual 164, 3) := by decide +kernel
theorem dX7_readsText_84 : decode cX7_readsText 84 = .ok (.iconst (-1), 1) := by decide +kernel
theorem dX7_readsText_85 : decode cX7_readsText 85 = .ok (.if_icmp .eq 21, 3) := by decide +kernel
theorem dX7_readsText_88 : decode cX7_readsText 88 = .ok (.aload_n 0, 1) := by decide +kernel
theorem dX7_readsText_89 : decode cX7_readsText 89 = .ok (.invokevirtual 268, 3) := by decide +kernel
theorem dX7_readsText_92 : decode cX7_readsText 92 = .ok (.ifCond .eq 12, 3) := by decide +kernel
theorem dX7_readsText_95 : decode cX7_readsText 95 = .ok (.aload_n 0, 1) := by decide +kernel
theorem dX7_readsText_96 : decode cX7_readsText 96 = .ok (.bipush 59, 2) := by decide +kernel
theorem dX7_readsText_98 : decode cX7_readsText 98 = .ok (.invokevirtual 205, 3) := by decide +kernel
theorem dX7_readsText_101 : decode cX7_readsText 101 = .ok (.ifCond .ne (-21), 3) := by decide +kernel
theorem dX7_readsText_104 : decode cX7_readsText 104 = .ok (.iconst 0, 1) := by decide +kernel
theorem dX7_readsText_105 : decode cX7_readsText 105 = .ok (.ireturn, 1) := by decide +kernel
theorem dX7_readsText_106 : decode cX7_readsText 106 = .ok (.iconst 1, 1) := by decide +kernel
theorem dX7_readsText_107 : decode cX7_readsText 107 = .ok (.ireturn, 1) := by decide +kernel
theorem dX7_load_0 : decode cX7_load 0 = .ok (.aload_n 0, 1) := by decide +kernel
theorem dX7_load_1 : decode cX7_load 1 = .ok (.iconst 0, 1) := by decide +kernel
theorem dX7_load_2 : decode cX7_load 2 = .ok (.putfield 47, 3) := by decide +kernel
theorem dX7_load_5 : decode cX7_load 5 = .ok (.aload_n 0, 1) := by decide +kernel
theorem dX7_load_6 : decode cX7_load 6 = .ok (.iload_n 1, 1) := by decide +kernel
theorem dX7_load_7 : decode cX7_load 7 = .ok (.iconst 0, 1) := by decide +kernel
theorem dX7_load_8 : decode cX7_load 8 = .ok (.aload_n 0, 1) := by decide +kernel
theorem dX7_load_9 : decode cX7_load 9 = .ok (.getfield 149, 3) := by decide +kernel
theorem dX7_load_12 : decode cX7_load 12 = .ok (.invokestatic 71, 3) := by decide +kernel
theorem dX7_load_15 : decode cX7_load 15 = .ok (.iconst 1, 1) := by decide +kernel
theorem dX7_load_16 : decode cX7_load 16 = .ok (.invokevirtual 271, 3) := by decide +kernel
theorem dX7_load_19 : decode cX7_load 19 = .ok (.ifCond .ne 5, 3) := by decide +kernel
theorem dX7_load_22 : decode cX7_load 22 = .ok (.iconst 0, 1) := by decide +kernel
theorem dX7_load_23 : decode cX7_load 23 = .ok (.ireturn, 1) := by decide +kernel
theorem dX7_load_24 : decode cX7_load 24 = .ok (.aload_n 0, 1) := by decide +kernel
theorem dX7_load_25 : decode cX7_load 25 = .ok (.iload_n 1, 1) := by decide +kernel
theorem dX7_load_26 : decode cX7_load 26 = .ok (.putfield 161, 3) := by decide +kernel
theorem dX7_load_29 : decode cX7_load 29 = .ok (.aload_n 0, 1) := by decide +kernel
theorem dX7_load_30 : decode cX7_load 30 = .ok (.iconst 0, 1) := by decide +kernel
theorem dX7_load_31 : decode cX7_load 31 = .ok (.putfield 158, 3) := by decide +kernel
theorem dX7_load_34 : decode cX7_load 34 = .ok (.aload_n 0, 1) := by decide +kernel
theorem dX7_load_35 : decode cX7_load 35 = .ok (.iconst 0, 1) := by decide +kernel
theorem dX7_load_36 : decode cX7_load 36 = .ok (.putfield 149, 3) := by decide +kernel
theorem dX7_load_39 : decode cX7_load 39 = .ok (.aload_n 0, 1) := by decide +kernel
theorem dX7_load_40 : decode cX7_load 40 = .ok (.iconst 0, 1) := by decide +kernel
theorem dX7_load_41 : decode cX7_load 41 = .ok (.putfield 155, 3) := by decide +kernel
theorem dX7_load_44 : decode cX7_load 44 = .ok (.aload_n 0, 1) := by decide +kernel
theorem dX7_load_45 : decode cX7_load 45 = .ok (.iconst (-1), 1) := by decide +kernel
theorem dX7_load_46 : decode cX7_load 46 = .ok (.putfield 36, 3) := by decide +kernel
theorem dX7_load_49 : decode cX7_load 49 = .ok (.aload_n 0, 1) := by decide +kernel
theorem dX7_load_50 : decode cX7_load 50 = .ok (.invokevirtual 275, 3) := by decide +kernel
theorem dX7_load_53 : decode cX7_load 53 = .ok (.ifCond .ne 8, 3) := by decide +kernel
theorem dX7_load_56 : decode cX7_load 56 = .ok (.aload_n 0, 1) := by decide +kernel
theorem dX7_load_57 : decode cX7_load 57 = .ok (.getfield 155, 3) := by decide +kernel
theorem dX7_load_60 : decode cX7_load 60 = .ok (.ireturn, 1) := by decide +kernel
theorem dX7_load_61 : decode cX7_load 61 = .ok (.aload_n 0, 1) := by decide +kernel
theorem dX7_load_62 : decode cX7_load 62 = .ok (.invokevirtual 278, 3) := by decide +kernel
theorem dX7_load_65 : decode cX7_load 65 = .ok (.iconst 0, 1) := by decide +kernel
theorem dX7_load_66 : decode cX7_load 66 = .ok (.istore_n 2, 1) := by decide +kernel
theorem dX7_load_67 : decode cX7_load 67 = .ok (.iload_n 2, 1) := by decide +kernel
theorem dX7_load_68 : decode cX7_load 68 = .ok (.sipush 5100, 3) := by decide +kernel
theorem dX7_load_71 : decode cX7_load 71 = .ok (.if_icmp .ge 20, 3) := by decide +kernel
theorem dX7_load_74 : decode cX7_load 74 = .ok (.aload_n 0, 1) := by decide +kernel
theorem dX7_load_75 : decode cX7_load 75 = .ok (.iload_n 2, 1) := by decide +kernel
theorem dX7_load_76 : decode cX7_load 76 = .ok (.aload_n 0, 1) := by decide +kernel
theorem dX7_load_77 : decode cX7_load 77 = .ok (.getfield 14, 3) := by decide +kernel
theorem dX7_load_80 : decode cX7_load 80 = .ok (.iload_n 2, 1) := by decide +kernel
theorem dX7_load_81 : decode cX7_load 81 = .ok (.iaload, 1) := by decide +kernel
theorem dX7_load_82 : decode cX7_load 82 = .ok (.invokevirtual 57, 3) := by decide +kernel
theorem dX7_load_85 : decode cX7_load 85 = .ok (.iinc 2 1, 3) := by decide +kernel
theorem dX7_load_88 : decode cX7_load 88 = .ok (.goto (-21), 3) := by decide +kernel
theorem dX7_load_91 : decode cX7_load 91 = .ok (.aload_n 0, 1) := by decide +kernel
theorem dX7_load_92 : decode cX7_load 92 = .ok (.invokevirtual 67, 3) := by decide +kernel
theorem dX7_load_95 : decode cX7_load 95 = .ok (.ireturn, 1) := by decide +kernel
theorem dX7_toldOf_0 : decode cX7_toldOf 0 = .ok (.iload_n 1, 1) := by decide +kernel
theorem dX7_toldOf_1 : decode cX7_toldOf 1 = .ok (.tableswitch 147 0 7 #[47, 52, 57, 62, 68, 73, 79, 99], 47) := by decide +kernel
theorem dX7_toldOf_48 : decode cX7_toldOf 48 = .ok (.aload_n 0, 1) := by decide +kernel
theorem dX7_toldOf_49 : decode cX7_toldOf 49 = .ok (.invokevirtual 75, 3) := by decide +kernel
theorem dX7_toldOf_52 : decode cX7_toldOf 52 = .ok (.ireturn, 1) := by decide +kernel
theorem dX7_toldOf_53 : decode cX7_toldOf 53 = .ok (.aload_n 0, 1) := by decide +kernel
theorem dX7_toldOf_54 : decode cX7_toldOf 54 = .ok (.invokevirtual 78, 3) := by decide +kernel
theorem dX7_toldOf_57 : decode cX7_toldOf 57 = .ok (.ireturn, 1) := by decide +kernel
theorem dX7_toldOf_58 : decode cX7_toldOf 58 = .ok (.aload_n 0, 1) := by decide +kernel
theorem dX7_toldOf_59 : decode cX7_toldOf 59 = .ok (.invokevirtual 67, 3) := by decide +kernel
theorem dX7_toldOf_62 : decode cX7_toldOf 62 = .ok (.ireturn, 1) := by decide +kernel
theorem dX7_toldOf_63 : decode cX7_toldOf 63 = .ok (.aload_n 0, 1) := by decide +kernel
theorem dX7_toldOf_64 : decode cX7_toldOf 64 = .ok (.iconst 3, 1) := by decide +kernel
theorem dX7_toldOf_65 : decode cX7_toldOf 65 = .ok (.invokevirtual 53, 3) := by decide +kernel
theorem dX7_toldOf_68 : decode cX7_toldOf 68 = .ok (.ireturn, 1) := by decide +kernel
theorem dX7_toldOf_69 : decode cX7_toldOf 69 = .ok (.aload_n 0, 1) := by decide +kernel
theorem dX7_toldOf_70 : decode cX7_toldOf 70 = .ok (.invokevirtual 281, 3) := by decide +kernel
theorem dX7_toldOf_73 : decode cX7_toldOf 73 = .ok (.ireturn, 1) := by decide +kernel
theorem dX7_toldOf_74 : decode cX7_toldOf 74 = .ok (.aload_n 0, 1) := by decide +kernel
theorem dX7_toldOf_75 : decode cX7_toldOf 75 = .ok (.iconst 0, 1) := by decide +kernel
theorem dX7_toldOf_76 : decode cX7_toldOf 76 = .ok (.invokevirtual 284, 3) := by decide +kernel
theorem dX7_toldOf_79 : decode cX7_toldOf 79 = .ok (.ireturn, 1) := by decide +kernel
theorem dX7_toldOf_80 : decode cX7_toldOf 80 = .ok (.aload_n 0, 1) := by decide +kernel
theorem dX7_toldOf_81 : decode cX7_toldOf 81 = .ok (.invokevirtual 67, 3) := by decide +kernel
theorem dX7_toldOf_84 : decode cX7_toldOf 84 = .ok (.ifCond .ne 7, 3) := by decide +kernel
theorem dX7_toldOf_87 : decode cX7_toldOf 87 = .ok (.iconst 0, 1) := by decide +kernel
theorem dX7_toldOf_88 : decode cX7_toldOf 88 = .ok (.goto 11, 3) := by decide +kernel
theorem dX7_toldOf_91 : decode cX7_toldOf 91 = .ok (.aload_n 0, 1) := by decide +kernel
theorem dX7_toldOf_92 : decode cX7_toldOf 92 = .ok (.aload_n 0, 1) := by decide +kernel
theorem dX7_toldOf_93 : decode cX7_toldOf 93 = .ok (.invokevirtual 67, 3) := by decide +kernel
theorem dX7_toldOf_96 : decode cX7_toldOf 96 = .ok (.invokevirtual 284, 3) := by decide +kernel
theorem dX7_toldOf_99 : decode cX7_toldOf 99 = .ok (.ireturn, 1) := by decide +kernel
theorem dX7_toldOf_100 : decode cX7_toldOf 100 = .ok (.iconst 0, 1) := by decide +kernel
theorem dX7_toldOf_101 : decode cX7_toldOf 101 = .ok (.istore_n 2, 1) := by decide +kernel
theorem dX7_toldOf_102 : decode cX7_toldOf 102 = .ok (.iconst 0, 1) := by decide +kernel
theorem dX7_toldOf_103 : decode cX7_toldOf 103 = .ok (.istore_n 3, 1) := by decide +kernel
theorem dX7_toldOf_104 : decode cX7_toldOf 104 = .ok (.iload_n 3, 1) := by decide +kernel
theorem dX7_toldOf_105 : decode cX7_toldOf 105 = .ok (.aload_n 0, 1) := by decide +kernel
theorem dX7_toldOf_106 : decode cX7_toldOf 106 = .ok (.invokevirtual 78, 3) := by decide +kernel
theorem dX7_toldOf_109 : decode cX7_toldOf 109 = .ok (.if_icmp .ge 37, 3) := by decide +kernel
theorem dX7_toldOf_112 : decode cX7_toldOf 112 = .ok (.iconst 0, 1) := by decide +kernel
theorem dX7_toldOf_113 : decode cX7_toldOf 113 = .ok (.istore 4, 2) := by decide +kernel
theorem dX7_toldOf_115 : decode cX7_toldOf 115 = .ok (.iload 4, 2) := by decide +kernel
theorem dX7_toldOf_117 : decode cX7_toldOf 117 = .ok (.aload_n 0, 1) := by decide +kernel
theorem dX7_toldOf_118 : decode cX7_toldOf 118 = .ok (.invokevirtual 75, 3) := by decide +kernel
theorem dX7_toldOf_121 : decode cX7_toldOf 121 = .ok (.if_icmp .ge 19, 3) := by decide +kernel
theorem dX7_toldOf_124 : decode cX7_toldOf 124 = .ok (.iload_n 2, 1) := by decide +kernel
theorem dX7_toldOf_125 : decode cX7_toldOf 125 = .ok (.aload_n 0, 1) := by decide +kernel
theorem dX7_toldOf_126 : decode cX7_toldOf 126 = .ok (.iload 4, 2) := by decide +kernel
theorem dX7_toldOf_128 : decode cX7_toldOf 128 = .ok (.iload_n 3, 1) := by decide +kernel
theorem dX7_toldOf_129 : decode cX7_toldOf 129 = .ok (.invokevirtual 97, 3) := by decide +kernel
theorem dX7_toldOf_132 : decode cX7_toldOf 132 = .ok (.iadd, 1) := by decide +kernel
theorem dX7_toldOf_133 : decode cX7_toldOf 133 = .ok (.istore_n 2, 1) := by decide +kernel
theorem dX7_toldOf_134 : decode cX7_toldOf 134 = .ok (.iinc 4 1, 3) := by decide +kernel
theorem dX7_toldOf_137 : decode cX7_toldOf 137 = .ok (.goto (-22), 3) := by decide +kernel
theorem dX7_toldOf_140 : decode cX7_toldOf 140 = .ok (.iinc 3 1, 3) := by decide +kernel
theorem dX7_toldOf_143 : decode cX7_toldOf 143 = .ok (.goto (-39), 3) := by decide +kernel
theorem dX7_toldOf_146 : decode cX7_toldOf 146 = .ok (.iload_n 2, 1) := by decide +kernel
theorem dX7_toldOf_147 : decode cX7_toldOf 147 = .ok (.ireturn, 1) := by decide +kernel
theorem dX7_toldOf_148 : decode cX7_toldOf 148 = .ok (.iconst 0, 1) := by decide +kernel
theorem dX7_toldOf_149 : decode cX7_toldOf 149 = .ok (.istore_n 2, 1) := by decide +kernel
theorem dX7_toldOf_150 : decode cX7_toldOf 150 = .ok (.iconst 0, 1) := by decide +kernel
theorem dX7_toldOf_151 : decode cX7_toldOf 151 = .ok (.istore_n 3, 1) := by decide +kernel
theorem dX7_toldOf_152 : decode cX7_toldOf 152 = .ok (.iload_n 3, 1) := by decide +kernel
theorem dX7_toldOf_153 : decode cX7_toldOf 153 = .ok (.aload_n 0, 1) := by decide +kernel
theorem dX7_toldOf_154 : decode cX7_toldOf 154 = .ok (.invokevirtual 67, 3) := by decide +kernel
theorem dX7_toldOf_157 : decode cX7_toldOf 157 = .ok (.if_icmp .ge 17, 3) := by decide +kernel
theorem dX7_toldOf_160 : decode cX7_toldOf 160 = .ok (.iload_n 2, 1) := by decide +kernel
theorem dX7_toldOf_161 : decode cX7_toldOf 161 = .ok (.aload_n 0, 1) := by decide +kernel
theorem dX7_toldOf_162 : decode cX7_toldOf 162 = .ok (.iload_n 3, 1) := by decide +kernel
theorem dX7_toldOf_163 : decode cX7_toldOf 163 = .ok (.invokevirtual 287, 3) := by decide +kernel
theorem dX7_toldOf_166 : decode cX7_toldOf 166 = .ok (.iadd, 1) := by decide +kernel
theorem dX7_toldOf_167 : decode cX7_toldOf 167 = .ok (.istore_n 2, 1) := by decide +kernel
theorem dX7_toldOf_168 : decode cX7_toldOf 168 = .ok (.iinc 3 1, 3) := by decide +kernel
theorem dX7_toldOf_171 : decode cX7_toldOf 171 = .ok (.goto (-19), 3) := by decide +kernel
theorem dX7_toldOf_174 : decode cX7_toldOf 174 = .ok (.iload_n 2, 1) := by decide +kernel
theorem dX7_toldOf_175 : decode cX7_toldOf 175 = .ok (.ireturn, 1) := by decide +kernel
theorem dX7_toldOfPlate_0 : decode cX7_toldOfPlate 0 = .ok (.iload_n 2, 1) := by decide +kernel
theorem dX7_toldOfPlate_1 : decode cX7_toldOfPlate 1 = .ok (.tableswitch 127 0 9 #[55, 63, 71, 77, 85, 93, 101, 109, 115, 121], 55) := by decide +kernel
theorem dX7_toldOfPlate_56 : decode cX7_toldOfPlate 56 = .ok (.aload_n 0, 1) := by decide +kernel
theorem dX7_toldOfPlate_57 : decode cX7_toldOfPlate 57 = .ok (.iload_n 1, 1) := by decide +kernel
theorem dX7_toldOfPlate_58 : decode cX7_toldOfPlate 58 = .ok (.bipush 7, 2) := by decide +kernel
theorem dX7_toldOfPlate_60 : decode cX7_toldOfPlate 60 = .ok (.invokevirtual 81, 3) := by decide +kernel
theorem dX7_toldOfPlate_63 : decode cX7_toldOfPlate 63 = .ok (.ireturn, 1) := by decide +kernel
theorem dX7_toldOfPlate_64 : decode cX7_toldOfPlate 64 = .ok (.aload_n 0, 1) := by decide +kernel
theorem dX7_toldOfPlate_65 : decode cX7_toldOfPlate 65 = .ok (.iload_n 1, 1) := by decide +kernel
theorem dX7_toldOfPlate_66 : decode cX7_toldOfPlate 66 = .ok (.bipush 8, 2) := by decide +kernel
theorem dX7_toldOfPlate_68 : decode cX7_toldOfPlate 68 = .ok (.invokevirtual 81, 3) := by decide +kernel
theorem dX7_toldOfPlate_71 : decode cX7_toldOfPlate 71 = .ok (.ireturn, 1) := by decide +kernel
theorem dX7_toldOfPlate_72 : decode cX7_toldOfPlate 72 = .ok (.aload_n 0, 1) := by decide +kernel
theorem dX7_toldOfPlate_73 : decode cX7_toldOfPlate 73 = .ok (.iload_n 1, 1) := by decide +kernel
theorem dX7_toldOfPlate_74 : decode cX7_toldOfPlate 74 = .ok (.invokevirtual 90, 3) := by decide +kernel
theorem dX7_toldOfPlate_77 : decode cX7_toldOfPlate 77 = .ok (.ireturn, 1) := by decide +kernel
theorem dX7_toldOfPlate_78 : decode cX7_toldOfPlate 78 = .ok (.aload_n 0, 1) := by decide +kernel
theorem dX7_toldOfPlate_79 : decode cX7_toldOfPlate 79 = .ok (.iload_n 1, 1) := by decide +kernel
theorem dX7_toldOfPlate_80 : decode cX7_toldOfPlate 80 = .ok (.bipush 9, 2) := by decide +kernel
theorem dX7_toldOfPlate_82 : decode cX7_toldOfPlate 82 = .ok (.invokevirtual 81, 3) := by decide +kernel
theorem dX7_toldOfPlate_85 : decode cX7_toldOfPlate 85 = .ok (.ireturn, 1) := by decide +kernel
theorem dX7_toldOfPlate_86 : decode cX7_toldOfPlate 86 = .ok (.aload_n 0, 1) := by decide +kernel
theorem dX7_toldOfPlate_87 : decode cX7_toldOfPlate 87 = .ok (.iload_n 1, 1) := by decide +kernel
theorem dX7_toldOfPlate_88 : decode cX7_toldOfPlate 88 = .ok (.bipush 10, 2) := by decide +kernel
theorem dX7_toldOfPlate_90 : decode cX7_toldOfPlate 90 = .ok (.invokevirtual 81, 3) := by decide +kernel
theorem dX7_toldOfPlate_93 : decode cX7_toldOfPlate 93 = .ok (.ireturn, 1) := by decide +kernel
theorem dX7_toldOfPlate_94 : decode cX7_toldOfPlate 94 = .ok (.aload_n 0, 1) := by decide +kernel
theorem dX7_toldOfPlate_95 : decode cX7_toldOfPlate 95 = .ok (.iload_n 1, 1) := by decide +kernel
theorem dX7_toldOfPlate_96 : decode cX7_toldOfPlate 96 = .ok (.bipush 11, 2) := by decide +kernel
theorem dX7_toldOfPlate_98 : decode cX7_toldOfPlate 98 = .ok (.invokevirtual 81, 3) := by decide +kernel
theorem dX7_toldOfPlate_101 : decode cX7_toldOfPlate 101 = .ok (.ireturn, 1) := by decide +kernel
theorem dX7_toldOfPlate_102 : decode cX7_toldOfPlate 102 = .ok (.aload_n 0, 1) := by decide +kernel
theorem dX7_toldOfPlate_103 : decode cX7_toldOfPlate 103 = .ok (.iload_n 1, 1) := by decide +kernel
theorem dX7_toldOfPlate_104 : decode cX7_toldOfPlate 104 = .ok (.bipush 12, 2) := by decide +kernel
theorem dX7_toldOfPlate_106 : decode cX7_toldOfPlate 106 = .ok (.invokevirtual 81, 3) := by decide +kernel
theorem dX7_toldOfPlate_109 : decode cX7_toldOfPlate 109 = .ok (.ireturn, 1) := by decide +kernel
theorem dX7_toldOfPlate_110 : decode cX7_toldOfPlate 110 = .ok (.aload_n 0, 1) := by decide +kernel
theorem dX7_toldOfPlate_111 : decode cX7_toldOfPlate 111 = .ok (.iload_n 1, 1) := by decide +kernel
theorem dX7_toldOfPlate_112 : decode cX7_toldOfPlate 112 = .ok (.invokevirtual 142, 3) := by decide +kernel
theorem dX7_toldOfPlate_115 : decode cX7_toldOfPlate 115 = .ok (.ireturn, 1) := by decide +kernel
theorem dX7_toldOfPlate_116 : decode cX7_toldOfPlate 116 = .ok (.aload_n 0, 1) := by decide +kernel
theorem dX7_toldOfPlate_117 : decode cX7_toldOfPlate 117 = .ok (.iload_n 1, 1) := by decide +kernel
theorem dX7_toldOfPlate_118 : decode cX7_toldOfPlate 118 = .ok (.invokevirtual 290, 3) := by decide +kernel
theorem dX7_toldOfPlate_121 : decode cX7_toldOfPlate 121 = .ok (.ireturn, 1) := by decide +kernel
theorem dX7_toldOfPlate_122 : decode cX7_toldOfPlate 122 = .ok (.aload_n 0, 1) := by decide +kernel
theorem dX7_toldOfPlate_123 : decode cX7_toldOfPlate 123 = .ok (.iload_n 1, 1) := by decide +kernel
theorem dX7_toldOfPlate_124 : decode cX7_toldOfPlate 124 = .ok (.invokevirtual 293, 3) := by decide +kernel
theorem dX7_toldOfPlate_127 : decode cX7_toldOfPlate 127 = .ok (.ireturn, 1) := by decide +kernel
theorem dX7_toldOfPlate_128 : decode cX7_toldOfPlate 128 = .ok (.aload_n 0, 1) := by decide +kernel
theorem dX7_toldOfPlate_129 : decode cX7_toldOfPlate 129 = .ok (.iload_n 1, 1) := by decide +kernel
theorem dX7_toldOfPlate_130 : decode cX7_toldOfPlate 130 = .ok (.invokevirtual 296, 3) := by decide +kernel
theorem dX7_toldOfPlate_133 : decode cX7_toldOfPlate 133 = .ok (.ireturn, 1) := by decide +kernel
theorem dX7_state_0 : decode cX7_state 0 = .ok (.aload_n 0, 1) := by decide +kernel
theorem dX7_state_1 : decode cX7_state 1 = .ok (.iconst 0, 1) := by decide +kernel
theorem dX7_state_2 : decode cX7_state 2 = .ok (.putfield 47, 3) := by decide +kernel
theorem dX7_state_5 : decode cX7_state 5 = .ok (.aload_n 0, 1) := by decide +kernel
theorem dX7_state_6 : decode cX7_state 6 = .ok (.iload_n 1, 1) := by decide +kernel
theorem dX7_state_7 : decode cX7_state 7 = .ok (.iconst 0, 1) := by decide +kernel
theorem dX7_state_8 : decode cX7_state 8 = .ok (.bipush 8, 2) := by decide +kernel
theorem dX7_state_10 : decode cX7_state 10 = .ok (.invokestatic 71, 3) := by decide +kernel
theorem dX7_state_13 : decode cX7_state 13 = .ok (.iconst 1, 1) := by decide +kernel
theorem dX7_state_14 : decode cX7_state 14 = .ok (.invokevirtual 271, 3) := by decide +kernel
theorem dX7_state_17 : decode cX7_state 17 = .ok (.ifCond .eq 11, 3) := by decide +kernel
theorem dX7_state_20 : decode cX7_state 20 = .ok (.aload_n 0, 1) := by decide +kernel
theorem dX7_state_21 : decode cX7_state 21 = .ok (.iload_n 1, 1) := by decide +kernel
theorem dX7_state_22 : decode cX7_state 22 = .ok (.invokevirtual 299, 3) := by decide +kernel
theorem dX7_state_25 : decode cX7_state 25 = .ok (.goto 4, 3) := by decide +kernel
theorem dX7_state_28 : decode cX7_state 28 = .ok (.iconst 0, 1) := by decide +kernel
theorem dX7_state_29 : decode cX7_state 29 = .ok (.ireturn, 1) := by decide +kernel
theorem dX7_find_0 : decode cX7_find 0 = .ok (.aload_n 0, 1) := by decide +kernel
theorem dX7_find_1 : decode cX7_find 1 = .ok (.iconst 0, 1) := by decide +kernel
theorem dX7_find_2 : decode cX7_find 2 = .ok (.putfield 47, 3) := by decide +kernel
theorem dX7_find_5 : decode cX7_find 5 = .ok (.aload_n 0, 1) := by decide +kernel
theorem dX7_find_6 : decode cX7_find 6 = .ok (.iload_n 1, 1) := by decide +kernel
theorem dX7_find_7 : decode cX7_find 7 = .ok (.iconst 0, 1) := by decide +kernel
theorem dX7_find_8 : decode cX7_find 8 = .ok (.aload_n 0, 1) := by decide +kernel
theorem dX7_find_9 : decode cX7_find 9 = .ok (.getfield 149, 3) := by decide +kernel
theorem dX7_find_12 : decode cX7_find 12 = .ok (.invokestatic 71, 3) := by decide +kernel
theorem dX7_find_15 : decode cX7_find 15 = .ok (.iconst 1, 1) := by decide +kernel
theorem dX7_find_16 : decode cX7_find 16 = .ok (.invokevirtual 271, 3) := by decide +kernel
theorem dX7_find_19 : decode cX7_find 19 = .ok (.ifCond .ne 5, 3) := by decide +kernel
theorem dX7_find_22 : decode cX7_find 22 = .ok (.iconst 0, 1) := by decide +kernel
theorem dX7_find_23 : decode cX7_find 23 = .ok (.ireturn, 1) := by decide +kernel
theorem dX7_find_24 : decode cX7_find 24 = .ok (.iconst 0, 1) := by decide +kernel
theorem dX7_find_25 : decode cX7_find 25 = .ok (.istore_n 2, 1) := by decide +kernel
theorem dX7_find_26 : decode cX7_find 26 = .ok (.iload_n 2, 1) := by decide +kernel
theorem dX7_find_27 : decode cX7_find 27 = .ok (.aload_n 0, 1) := by decide +kernel
theorem dX7_find_28 : decode cX7_find 28 = .ok (.invokevirtual 67, 3) := by decide +kernel
theorem dX7_find_31 : decode cX7_find 31 = .ok (.if_icmp .ge 75, 3) := by decide +kernel
theorem dX7_find_34 : decode cX7_find 34 = .ok (.aload_n 0, 1) := by decide +kernel
theorem dX7_find_35 : decode cX7_find 35 = .ok (.iload_n 2, 1) := by decide +kernel
theorem dX7_find_36 : decode cX7_find 36 = .ok (.iconst 0, 1) := by decide +kernel
theorem dX7_find_37 : decode cX7_find 37 = .ok (.invokevirtual 81, 3) := by decide +kernel
theorem dX7_find_40 : decode cX7_find 40 = .ok (.iload_n 1, 1) := by decide +kernel
theorem dX7_find_41 : decode cX7_find 41 = .ok (.if_icmp .ne 7, 3) := by decide +kernel
theorem dX7_find_44 : decode cX7_find 44 = .ok (.iconst 1, 1) := by decide +kernel
theorem dX7_find_45 : decode cX7_find 45 = .ok (.goto 4, 3) := by decide +kernel
theorem dX7_find_48 : decode cX7_find 48 = .ok (.iconst 0, 1) := by decide +kernel
theorem dX7_find_49 : decode cX7_find 49 = .ok (.istore_n 3, 1) := by decide +kernel
theorem dX7_find_50 : decode cX7_find 50 = .ok (.iconst 0, 1) := by decide +kernel
theorem dX7_find_51 : decode cX7_find 51 = .ok (.istore 4, 2) := by decide +kernel
theorem dX7_find_53 : decode cX7_find 53 = .ok (.iload 4, 2) := by decide +kernel
theorem dX7_find_55 : decode cX7_find 55 = .ok (.iload_n 1, 1) := by decide +kernel
theorem dX7_find_56 : decode cX7_find 56 = .ok (.if_icmp .ge 38, 3) := by decide +kernel
theorem dX7_find_59 : decode cX7_find 59 = .ok (.iload_n 3, 1) := by decide +kernel
theorem dX7_find_60 : decode cX7_find 60 = .ok (.ifCond .eq 34, 3) := by decide +kernel
theorem dX7_find_63 : decode cX7_find 63 = .ok (.aload_n 0, 1) := by decide +kernel
theorem dX7_find_64 : decode cX7_find 64 = .ok (.iload_n 2, 1) := by decide +kernel
theorem dX7_find_65 : decode cX7_find 65 = .ok (.iconst 1, 1) := by decide +kernel
theorem dX7_find_66 : decode cX7_find 66 = .ok (.iload 4, 2) := by decide +kernel
theorem dX7_find_68 : decode cX7_find 68 = .ok (.iadd, 1) := by decide +kernel
theorem dX7_find_69 : decode cX7_find 69 = .ok (.invokevirtual 81, 3) := by decide +kernel
theorem dX7_find_72 : decode cX7_find 72 = .ok (.aload_n 0, 1) := by decide +kernel
theorem dX7_find_73 : decode cX7_find 73 = .ok (.getfield 33, 3) := by decide +kernel
theorem dX7_find_76 : decode cX7_find 76 = .ok (.iload 4, 2) := by decide +kernel
theorem dX7_find_78 : decode cX7_find 78 = .ok (.iaload, 1) := by decide +kernel
theorem dX7_find_79 : decode cX7_find 79 = .ok (.if_icmp .ne 7, 3) := by decide +kernel
theorem dX7_find_82 : decode cX7_find 82 = .ok (.iconst 1, 1) := by decide +kernel
theorem dX7_find_83 : decode cX7_find 83 = .ok (.goto 4, 3) := by decide +kernel
theorem dX7_find_86 : decode cX7_find 86 = .ok (.iconst 0, 1) := by decide +kernel
theorem dX7_find_87 : decode cX7_find 87 = .ok (.istore_n 3, 1) := by decide +kernel
theorem dX7_find_88 : decode cX7_find 88 = .ok (.iinc 4 1, 3) := by decide +kernel
theorem dX7_find_91 : decode cX7_find 91 = .ok (.goto (-38), 3) := by decide +kernel
theorem dX7_find_94 : decode cX7_find 94 = .ok (.iload_n 3, 1) := by decide +kernel
theorem dX7_find_95 : decode cX7_find 95 = .ok (.ifCond .eq 5, 3) := by decide +kernel
theorem dX7_find_98 : decode cX7_find 98 = .ok (.iload_n 2, 1) := by decide +kernel
theorem dX7_find_99 : decode cX7_find 99 = .ok (.ireturn, 1) := by decide +kernel
theorem dX7_find_100 : decode cX7_find 100 = .ok (.iinc 2 1, 3) := by decide +kernel
theorem dX7_find_103 : decode cX7_find 103 = .ok (.goto (-77), 3) := by decide +kernel
theorem dX7_find_106 : decode cX7_find 106 = .ok (.iconst (-1), 1) := by decide +kernel
theorem dX7_find_107 : decode cX7_find 107 = .ok (.ireturn, 1) := by decide +kernel
theorem dX7_plate_0 : decode cX7_plate 0 = .ok (.aload_n 0, 1) := by decide +kernel
theorem dX7_plate_1 : decode cX7_plate 1 = .ok (.iconst 0, 1) := by decide +kernel
theorem dX7_plate_2 : decode cX7_plate 2 = .ok (.putfield 47, 3) := by decide +kernel
theorem dX7_plate_5 : decode cX7_plate 5 = .ok (.aload_n 0, 1) := by decide +kernel
theorem dX7_plate_6 : decode cX7_plate 6 = .ok (.aload_n 0, 1) := by decide +kernel
theorem dX7_plate_7 : decode cX7_plate 7 = .ok (.iload_n 1, 1) := by decide +kernel
theorem dX7_plate_8 : decode cX7_plate 8 = .ok (.invokevirtual 302, 3) := by decide +kernel
theorem dX7_plate_11 : decode cX7_plate 11 = .ok (.iconst 1, 1) := by decide +kernel
theorem dX7_plate_12 : decode cX7_plate 12 = .ok (.invokevirtual 271, 3) := by decide +kernel
theorem dX7_plate_15 : decode cX7_plate 15 = .ok (.ifCond .eq 27, 3) := by decide +kernel
theorem dX7_plate_18 : decode cX7_plate 18 = .ok (.aload_n 0, 1) := by decide +kernel
theorem dX7_plate_19 : decode cX7_plate 19 = .ok (.iload_n 2, 1) := by decide +kernel
theorem dX7_plate_20 : decode cX7_plate 20 = .ok (.iconst 0, 1) := by decide +kernel
theorem dX7_plate_21 : decode cX7_plate 21 = .ok (.bipush 10, 2) := by decide +kernel
theorem dX7_plate_23 : decode cX7_plate 23 = .ok (.invokestatic 71, 3) := by decide +kernel
theorem dX7_plate_26 : decode cX7_plate 26 = .ok (.iconst 2, 1) := by decide +kernel
theorem dX7_plate_27 : decode cX7_plate 27 = .ok (.invokevirtual 271, 3) := by decide +kernel
theorem dX7_plate_30 : decode cX7_plate 30 = .ok (.ifCond .eq 12, 3) := by decide +kernel
theorem dX7_plate_33 : decode cX7_plate 33 = .ok (.aload_n 0, 1) := by decide +kernel
theorem dX7_plate_34 : decode cX7_plate 34 = .ok (.iload_n 1, 1) := by decide +kernel
theorem dX7_plate_35 : decode cX7_plate 35 = .ok (.iload_n 2, 1) := by decide +kernel
theorem dX7_plate_36 : decode cX7_plate 36 = .ok (.invokevirtual 305, 3) := by decide +kernel
theorem dX7_plate_39 : decode cX7_plate 39 = .ok (.goto 4, 3) := by decide +kernel
theorem dX7_plate_42 : decode cX7_plate 42 = .ok (.iconst 0, 1) := by decide +kernel
theorem dX7_plate_43 : decode cX7_plate 43 = .ok (.ireturn, 1) := by decide +kernel
theorem dX7_cell_0 : decode cX7_cell 0 = .ok (.aload_n 0, 1) := by decide +kernel
theorem dX7_cell_1 : decode cX7_cell 1 = .ok (.iconst 0, 1) := by decide +kernel
theorem dX7_cell_2 : decode cX7_cell 2 = .ok (.putfield 47, 3) := by decide +kernel
theorem dX7_cell_5 : decode cX7_cell 5 = .ok (.aload_n 0, 1) := by decide +kernel
theorem dX7_cell_6 : decode cX7_cell 6 = .ok (.aload_n 0, 1) := by decide +kernel
theorem dX7_cell_7 : decode cX7_cell 7 = .ok (.iload_n 1, 1) := by decide +kernel
theorem dX7_cell_8 : decode cX7_cell 8 = .ok (.invokevirtual 302, 3) := by decide +kernel
theorem dX7_cell_11 : decode cX7_cell 11 = .ok (.ifCond .eq 16, 3) := by decide +kernel
theorem dX7_cell_14 : decode cX7_cell 14 = .ok (.aload_n 0, 1) := by decide +kernel
theorem dX7_cell_15 : decode cX7_cell 15 = .ok (.iload_n 2, 1) := by decide +kernel
theorem dX7_cell_16 : decode cX7_cell 16 = .ok (.iload_n 3, 1) := by decide +kernel
theorem dX7_cell_17 : decode cX7_cell 17 = .ok (.invokevirtual 130, 3) := by decide +kernel
theorem dX7_cell_20 : decode cX7_cell 20 = .ok (.ifCond .eq 7, 3) := by decide +kernel
theorem dX7_cell_23 : decode cX7_cell 23 = .ok (.iconst 1, 1) := by decide +kernel
theorem dX7_cell_24 : decode cX7_cell 24 = .ok (.goto 4, 3) := by decide +kernel
theorem dX7_cell_27 : decode cX7_cell 27 = .ok (.iconst 0, 1) := by decide +kernel
theorem dX7_cell_28 : decode cX7_cell 28 = .ok (.iconst 1, 1) := by decide +kernel
theorem dX7_cell_29 : decode cX7_cell 29 = .ok (.invokevirtual 271, 3) := by decide +kernel
theorem dX7_cell_32 : decode cX7_cell 32 = .ok (.ifCond .eq 18, 3) := by decide +kernel
theorem dX7_cell_35 : decode cX7_cell 35 = .ok (.aload_n 0, 1) := by decide +kernel
theorem dX7_cell_36 : decode cX7_cell 36 = .ok (.iload 4, 2) := by decide +kernel
theorem dX7_cell_38 : decode cX7_cell 38 = .ok (.iconst 0, 1) := by decide +kernel
theorem dX7_cell_39 : decode cX7_cell 39 = .ok (.iconst 4, 1) := by decide +kernel
theorem dX7_cell_40 : decode cX7_cell 40 = .ok (.invokestatic 71, 3) := by decide +kernel
theorem dX7_cell_43 : decode cX7_cell 43 = .ok (.iconst 2, 1) := by decide +kernel
theorem dX7_cell_44 : decode cX7_cell 44 = .ok (.invokevirtual 271, 3) := by decide +kernel
theorem dX7_cell_47 : decode cX7_cell 47 = .ok (.ifCond .ne 5, 3) := by decide +kernel
theorem dX7_cell_50 : decode cX7_cell 50 = .ok (.iconst 0, 1) := by decide +kernel
theorem dX7_cell_51 : decode cX7_cell 51 = .ok (.ireturn, 1) := by decide +kernel
theorem dX7_cell_52 : decode cX7_cell 52 = .ok (.aload_n 0, 1) := by decide +kernel
theorem dX7_cell_53 : decode cX7_cell 53 = .ok (.invokevirtual 136, 3) := by decide +kernel
theorem dX7_cell_56 : decode cX7_cell 56 = .ok (.sipush 192, 3) := by decide +kernel
theorem dX7_cell_59 : decode cX7_cell 59 = .ok (.iload_n 1, 1) := by decide +kernel
theorem dX7_cell_60 : decode cX7_cell 60 = .ok (.imul, 1) := by decide +kernel
theorem dX7_cell_61 : decode cX7_cell 61 = .ok (.bipush 16, 2) := by decide +kernel
theorem dX7_cell_63 : decode cX7_cell 63 = .ok (.iload_n 3, 1) := by decide +kernel
theorem dX7_cell_64 : decode cX7_cell 64 = .ok (.imul, 1) := by decide +kernel
theorem dX7_cell_65 : decode cX7_cell 65 = .ok (.iadd, 1) := by decide +kernel
theorem dX7_cell_66 : decode cX7_cell 66 = .ok (.iload_n 2, 1) := by decide +kernel
theorem dX7_cell_67 : decode cX7_cell 67 = .ok (.iadd, 1) := by decide +kernel
theorem dX7_cell_68 : decode cX7_cell 68 = .ok (.istore 5, 2) := by decide +kernel
theorem dX7_cell_70 : decode cX7_cell 70 = .ok (.iload 4, 2) := by decide +kernel
theorem dX7_cell_72 : decode cX7_cell 72 = .ok (.tableswitch 80 0 3 #[32, 40, 48, 64], 32) := by decide +kernel
theorem dX7_cell_104 : decode cX7_cell 104 = .ok (.aload_n 0, 1) := by decide +kernel
theorem dX7_cell_105 : decode cX7_cell 105 = .ok (.getfield 24, 3) := by decide +kernel
theorem dX7_cell_108 : decode cX7_cell 108 = .ok (.iload 5, 2) := by decide +kernel
theorem dX7_cell_110 : decode cX7_cell 110 = .ok (.iaload, 1) := by decide +kernel
theorem dX7_cell_111 : decode cX7_cell 111 = .ok (.ireturn, 1) := by decide +kernel
theorem dX7_cell_112 : decode cX7_cell 112 = .ok (.aload_n 0, 1) := by decide +kernel
theorem dX7_cell_113 : decode cX7_cell 113 = .ok (.getfield 27, 3) := by decide +kernel
theorem dX7_cell_116 : decode cX7_cell 116 = .ok (.iload 5, 2) := by decide +kernel
theorem dX7_cell_118 : decode cX7_cell 118 = .ok (.iaload, 1) := by decide +kernel
theorem dX7_cell_119 : decode cX7_cell 119 = .ok (.ireturn, 1) := by decide +kernel
theorem dX7_cell_120 : decode cX7_cell 120 = .ok (.aload_n 0, 1) := by decide +kernel
theorem dX7_cell_121 : decode cX7_cell 121 = .ok (.iload_n 1, 1) := by decide +kernel
theorem dX7_cell_122 : decode cX7_cell 122 = .ok (.iload_n 2, 1) := by decide +kernel
theorem dX7_cell_123 : decode cX7_cell 123 = .ok (.iload_n 3, 1) := by decide +kernel
theorem dX7_cell_124 : decode cX7_cell 124 = .ok (.invokevirtual 133, 3) := by decide +kernel
theorem dX7_cell_127 : decode cX7_cell 127 = .ok (.ifCond .eq 7, 3) := by decide +kernel
theorem dX7_cell_130 : decode cX7_cell 130 = .ok (.iconst 1, 1) := by decide +kernel
theorem dX7_cell_131 : decode cX7_cell 131 = .ok (.goto 4, 3) := by decide +kernel
theorem dX7_cell_134 : decode cX7_cell 134 = .ok (.iconst 0, 1) := by decide +kernel
theorem dX7_cell_135 : decode cX7_cell 135 = .ok (.ireturn, 1) := by decide +kernel
theorem dX7_cell_136 : decode cX7_cell 136 = .ok (.aload_n 0, 1) := by decide +kernel
theorem dX7_cell_137 : decode cX7_cell 137 = .ok (.iload_n 1, 1) := by decide +kernel
theorem dX7_cell_138 : decode cX7_cell 138 = .ok (.iload_n 2, 1) := by decide +kernel
theorem dX7_cell_139 : decode cX7_cell 139 = .ok (.iload_n 3, 1) := by decide +kernel
theorem dX7_cell_140 : decode cX7_cell 140 = .ok (.invokevirtual 139, 3) := by decide +kernel
theorem dX7_cell_143 : decode cX7_cell 143 = .ok (.ifCond .eq 7, 3) := by decide +kernel
theorem dX7_cell_146 : decode cX7_cell 146 = .ok (.iconst 1, 1) := by decide +kernel
theorem dX7_cell_147 : decode cX7_cell 147 = .ok (.goto 4, 3) := by decide +kernel
theorem dX7_cell_150 : decode cX7_cell 150 = .ok (.iconst 0, 1) := by decide +kernel
theorem dX7_cell_151 : decode cX7_cell 151 = .ok (.ireturn, 1) := by decide +kernel
theorem dX7_cell_152 : decode cX7_cell 152 = .ok (.aload_n 0, 1) := by decide +kernel
theorem dX7_cell_153 : decode cX7_cell 153 = .ok (.iload_n 1, 1) := by decide +kernel
theorem dX7_cell_154 : decode cX7_cell 154 = .ok (.iload_n 2, 1) := by decide +kernel
theorem dX7_cell_155 : decode cX7_cell 155 = .ok (.iload_n 3, 1) := by decide +kernel
theorem dX7_cell_156 : decode cX7_cell 156 = .ok (.invokevirtual 121, 3) := by decide +kernel
theorem dX7_cell_159 : decode cX7_cell 159 = .ok (.ifCond .eq 7, 3) := by decide +kernel
theorem dX7_cell_162 : decode cX7_cell 162 = .ok (.iconst 1, 1) := by decide +kernel
theorem dX7_cell_163 : decode cX7_cell 163 = .ok (.goto 4, 3) := by decide +kernel
theorem dX7_cell_166 : decode cX7_cell 166 = .ok (.iconst 0, 1) := by decide +kernel
theorem dX7_cell_167 : decode cX7_cell 167 = .ok (.ireturn, 1) := by decide +kernel
theorem dX7_tone_0 : decode cX7_tone 0 = .ok (.aload_n 0, 1) := by decide +kernel
theorem dX7_tone_1 : decode cX7_tone 1 = .ok (.iconst 0, 1) := by decide +kernel
theorem dX7_tone_2 : decode cX7_tone 2 = .ok (.putfield 47, 3) := by decide +kernel
theorem dX7_tone_5 : decode cX7_tone 5 = .ok (.aload_n 0, 1) := by decide +kernel
theorem dX7_tone_6 : decode cX7_tone 6 = .ok (.aload_n 0, 1) := by decide +kernel
theorem dX7_tone_7 : decode cX7_tone 7 = .ok (.iload_n 1, 1) := by decide +kernel
theorem dX7_tone_8 : decode cX7_tone 8 = .ok (.iload_n 2, 1) := by decide +kernel
theorem dX7_tone_9 : decode cX7_tone 9 = .ok (.invokevirtual 130, 3) := by decide +kernel
theorem dX7_tone_12 : decode cX7_tone 12 = .ok (.iconst 1, 1) := by decide +kernel
theorem dX7_tone_13 : decode cX7_tone 13 = .ok (.invokevirtual 271, 3) := by decide +kernel
theorem dX7_tone_16 : decode cX7_tone 16 = .ok (.ifCond .eq 12, 3) := by decide +kernel
theorem dX7_tone_19 : decode cX7_tone 19 = .ok (.aload_n 0, 1) := by decide +kernel
theorem dX7_tone_20 : decode cX7_tone 20 = .ok (.iload_n 1, 1) := by decide +kernel
theorem dX7_tone_21 : decode cX7_tone 21 = .ok (.iload_n 2, 1) := by decide +kernel
theorem dX7_tone_22 : decode cX7_tone 22 = .ok (.invokevirtual 97, 3) := by decide +kernel
theorem dX7_tone_25 : decode cX7_tone 25 = .ok (.goto 4, 3) := by decide +kernel
theorem dX7_tone_28 : decode cX7_tone 28 = .ok (.iconst 0, 1) := by decide +kernel
theorem dX7_tone_29 : decode cX7_tone 29 = .ok (.ireturn, 1) := by decide +kernel
theorem dX7_inks_0 : decode cX7_inks 0 = .ok (.aload_n 0, 1) := by decide +kernel
theorem dX7_inks_1 : decode cX7_inks 1 = .ok (.iconst 0, 1) := by decide +kernel
theorem dX7_inks_2 : decode cX7_inks 2 = .ok (.putfield 47, 3) := by decide +kernel
theorem dX7_inks_5 : decode cX7_inks 5 = .ok (.aload_n 0, 1) := by decide +kernel
theorem dX7_inks_6 : decode cX7_inks 6 = .ok (.aload_n 0, 1) := by decide +kernel
theorem dX7_inks_7 : decode cX7_inks 7 = .ok (.iload_n 1, 1) := by decide +kernel
theorem dX7_inks_8 : decode cX7_inks 8 = .ok (.iload_n 2, 1) := by decide +kernel
theorem dX7_inks_9 : decode cX7_inks 9 = .ok (.invokevirtual 130, 3) := by decide +kernel
theorem dX7_inks_12 : decode cX7_inks 12 = .ok (.iconst 1, 1) := by decide +kernel
theorem dX7_inks_13 : decode cX7_inks 13 = .ok (.invokevirtual 271, 3) := by decide +kernel
theorem dX7_inks_16 : decode cX7_inks 16 = .ok (.ifCond .ne 5, 3) := by decide +kernel
theorem dX7_inks_19 : decode cX7_inks 19 = .ok (.iconst 0, 1) := by decide +kernel
theorem dX7_inks_20 : decode cX7_inks 20 = .ok (.ireturn, 1) := by decide +kernel
theorem dX7_inks_21 : decode cX7_inks 21 = .ok (.aload_n 0, 1) := by decide +kernel
theorem dX7_inks_22 : decode cX7_inks 22 = .ok (.invokevirtual 136, 3) := by decide +kernel
theorem dX7_inks_25 : decode cX7_inks 25 = .ok (.aload_n 0, 1) := by decide +kernel
theorem dX7_inks_26 : decode cX7_inks 26 = .ok (.getfield 30, 3) := by decide +kernel
theorem dX7_inks_29 : decode cX7_inks 29 = .ok (.bipush 16, 2) := by decide +kernel
theorem dX7_inks_31 : decode cX7_inks 31 = .ok (.iload_n 2, 1) := by decide +kernel
theorem dX7_inks_32 : decode cX7_inks 32 = .ok (.imul, 1) := by decide +kernel
theorem dX7_inks_33 : decode cX7_inks 33 = .ok (.iload_n 1, 1) := by decide +kernel
theorem dX7_inks_34 : decode cX7_inks 34 = .ok (.iadd, 1) := by decide +kernel
theorem dX7_inks_35 : decode cX7_inks 35 = .ok (.iaload, 1) := by decide +kernel
theorem dX7_inks_36 : decode cX7_inks 36 = .ok (.ireturn, 1) := by decide +kernel
theorem dX7_why_0 : decode cX7_why 0 = .ok (.aload_n 0, 1) := by decide +kernel
theorem dX7_why_1 : decode cX7_why 1 = .ok (.iconst 0, 1) := by decide +kernel
theorem dX7_why_2 : decode cX7_why 2 = .ok (.putfield 47, 3) := by decide +kernel
theorem dX7_why_5 : decode cX7_why 5 = .ok (.aload_n 0, 1) := by decide +kernel
theorem dX7_why_6 : decode cX7_why 6 = .ok (.aload_n 0, 1) := by decide +kernel
theorem dX7_why_7 : decode cX7_why 7 = .ok (.iload_n 1, 1) := by decide +kernel
theorem dX7_why_8 : decode cX7_why 8 = .ok (.invokevirtual 302, 3) := by decide +kernel
theorem dX7_why_11 : decode cX7_why 11 = .ok (.ifCond .eq 16, 3) := by decide +kernel
theorem dX7_why_14 : decode cX7_why 14 = .ok (.aload_n 0, 1) := by decide +kernel
theorem dX7_why_15 : decode cX7_why 15 = .ok (.iload_n 2, 1) := by decide +kernel
theorem dX7_why_16 : decode cX7_why 16 = .ok (.iload_n 3, 1) := by decide +kernel
theorem dX7_why_17 : decode cX7_why 17 = .ok (.invokevirtual 130, 3) := by decide +kernel
theorem dX7_why_20 : decode cX7_why 20 = .ok (.ifCond .eq 7, 3) := by decide +kernel
theorem dX7_why_23 : decode cX7_why 23 = .ok (.iconst 1, 1) := by decide +kernel
theorem dX7_why_24 : decode cX7_why 24 = .ok (.goto 4, 3) := by decide +kernel
theorem dX7_why_27 : decode cX7_why 27 = .ok (.iconst 0, 1) := by decide +kernel
theorem dX7_why_28 : decode cX7_why 28 = .ok (.iconst 1, 1) := by decide +kernel
theorem dX7_why_29 : decode cX7_why 29 = .ok (.invokevirtual 271, 3) := by decide +kernel
theorem dX7_why_32 : decode cX7_why 32 = .ok (.ifCond .ne 5, 3) := by decide +kernel
theorem dX7_why_35 : decode cX7_why 35 = .ok (.iconst 0, 1) := by decide +kernel
theorem dX7_why_36 : decode cX7_why 36 = .ok (.ireturn, 1) := by decide +kernel
theorem dX7_why_37 : decode cX7_why 37 = .ok (.aload_n 0, 1) := by decide +kernel
theorem dX7_why_38 : decode cX7_why 38 = .ok (.invokevirtual 136, 3) := by decide +kernel
theorem dX7_why_41 : decode cX7_why 41 = .ok (.aload_n 0, 1) := by decide +kernel
theorem dX7_why_42 : decode cX7_why 42 = .ok (.iload_n 1, 1) := by decide +kernel
theorem dX7_why_43 : decode cX7_why 43 = .ok (.iload_n 2, 1) := by decide +kernel
theorem dX7_why_44 : decode cX7_why 44 = .ok (.iload_n 3, 1) := by decide +kernel
theorem dX7_why_45 : decode cX7_why 45 = .ok (.invokevirtual 121, 3) := by decide +kernel
theorem dX7_why_48 : decode cX7_why 48 = .ok (.ifCond .eq 5, 3) := by decide +kernel
theorem dX7_why_51 : decode cX7_why 51 = .ok (.iconst 1, 1) := by decide +kernel
theorem dX7_why_52 : decode cX7_why 52 = .ok (.ireturn, 1) := by decide +kernel
theorem dX7_why_53 : decode cX7_why 53 = .ok (.aload_n 0, 1) := by decide +kernel
theorem dX7_why_54 : decode cX7_why 54 = .ok (.iload_n 1, 1) := by decide +kernel
theorem dX7_why_55 : decode cX7_why 55 = .ok (.bipush 16, 2) := by decide +kernel
theorem dX7_why_57 : decode cX7_why 57 = .ok (.iload_n 3, 1) := by decide +kernel
theorem dX7_why_58 : decode cX7_why 58 = .ok (.imul, 1) := by decide +kernel
theorem dX7_why_59 : decode cX7_why 59 = .ok (.iload_n 2, 1) := by decide +kernel
theorem dX7_why_60 : decode cX7_why 60 = .ok (.iadd, 1) := by decide +kernel
theorem dX7_why_61 : decode cX7_why 61 = .ok (.invokevirtual 117, 3) := by decide +kernel
theorem dX7_why_64 : decode cX7_why 64 = .ok (.ifCond .ne 5, 3) := by decide +kernel
theorem dX7_why_67 : decode cX7_why 67 = .ok (.iconst 2, 1) := by decide +kernel
theorem dX7_why_68 : decode cX7_why 68 = .ok (.ireturn, 1) := by decide +kernel
theorem dX7_why_69 : decode cX7_why 69 = .ok (.aload_n 0, 1) := by decide +kernel
theorem dX7_why_70 : decode cX7_why 70 = .ok (.iload_n 1, 1) := by decide +kernel
theorem dX7_why_71 : decode cX7_why 71 = .ok (.iload_n 2, 1) := by decide +kernel
theorem dX7_why_72 : decode cX7_why 72 = .ok (.iload_n 3, 1) := by decide +kernel
theorem dX7_why_73 : decode cX7_why 73 = .ok (.invokevirtual 133, 3) := by decide +kernel
theorem dX7_why_76 : decode cX7_why 76 = .ok (.ifCond .eq 7, 3) := by decide +kernel
theorem dX7_why_79 : decode cX7_why 79 = .ok (.iconst 0, 1) := by decide +kernel
theorem dX7_why_80 : decode cX7_why 80 = .ok (.goto 4, 3) := by decide +kernel
theorem dX7_why_83 : decode cX7_why 83 = .ok (.iconst 3, 1) := by decide +kernel
theorem dX7_why_84 : decode cX7_why 84 = .ok (.ireturn, 1) := by decide +kernel
theorem dX7_off_0 : decode cX7_off 0 = .ok (.aload_n 0, 1) := by decide +kernel
theorem dX7_off_1 : decode cX7_off 1 = .ok (.iconst 0, 1) := by decide +kernel
theorem dX7_off_2 : decode cX7_off 2 = .ok (.putfield 47, 3) := by decide +kernel
theorem dX7_off_5 : decode cX7_off 5 = .ok (.aload_n 0, 1) := by decide +kernel
theorem dX7_off_6 : decode cX7_off 6 = .ok (.aload_n 0, 1) := by decide +kernel
theorem dX7_off_7 : decode cX7_off 7 = .ok (.iload_n 1, 1) := by decide +kernel
theorem dX7_off_8 : decode cX7_off 8 = .ok (.invokevirtual 302, 3) := by decide +kernel
theorem dX7_off_11 : decode cX7_off 11 = .ok (.iconst 1, 1) := by decide +kernel
theorem dX7_off_12 : decode cX7_off 12 = .ok (.invokevirtual 271, 3) := by decide +kernel
theorem dX7_off_15 : decode cX7_off 15 = .ok (.ifCond .eq 23, 3) := by decide +kernel
theorem dX7_off_18 : decode cX7_off 18 = .ok (.aload_n 0, 1) := by decide +kernel
theorem dX7_off_19 : decode cX7_off 19 = .ok (.iload_n 2, 1) := by decide +kernel
theorem dX7_off_20 : decode cX7_off 20 = .ok (.iconst 0, 1) := by decide +kernel
theorem dX7_off_21 : decode cX7_off 21 = .ok (.aload_n 0, 1) := by decide +kernel
theorem dX7_off_22 : decode cX7_off 22 = .ok (.iload_n 1, 1) := by decide +kernel
theorem dX7_off_23 : decode cX7_off 23 = .ok (.invokevirtual 293, 3) := by decide +kernel
theorem dX7_off_26 : decode cX7_off 26 = .ok (.iconst 1, 1) := by decide +kernel
theorem dX7_off_27 : decode cX7_off 27 = .ok (.isub, 1) := by decide +kernel
theorem dX7_off_28 : decode cX7_off 28 = .ok (.invokestatic 71, 3) := by decide +kernel
theorem dX7_off_31 : decode cX7_off 31 = .ok (.iconst 2, 1) := by decide +kernel
theorem dX7_off_32 : decode cX7_off 32 = .ok (.invokevirtual 271, 3) := by decide +kernel
theorem dX7_off_35 : decode cX7_off 35 = .ok (.ifCond .ne 5, 3) := by decide +kernel
theorem dX7_off_38 : decode cX7_off 38 = .ok (.iconst 0, 1) := by decide +kernel
theorem dX7_off_39 : decode cX7_off 39 = .ok (.ireturn, 1) := by decide +kernel
theorem dX7_off_40 : decode cX7_off 40 = .ok (.aload_n 0, 1) := by decide +kernel
theorem dX7_off_41 : decode cX7_off 41 = .ok (.invokevirtual 136, 3) := by decide +kernel
theorem dX7_off_44 : decode cX7_off 44 = .ok (.aload_n 0, 1) := by decide +kernel
theorem dX7_off_45 : decode cX7_off 45 = .ok (.iload_n 1, 1) := by decide +kernel
theorem dX7_off_46 : decode cX7_off 46 = .ok (.invokevirtual 90, 3) := by decide +kernel
theorem dX7_off_49 : decode cX7_off 49 = .ok (.istore_n 3, 1) := by decide +kernel
theorem dX7_off_50 : decode cX7_off 50 = .ok (.iload_n 3, 1) := by decide +kernel
theorem dX7_off_51 : decode cX7_off 51 = .ok (.iload_n 2, 1) := by decide +kernel
theorem dX7_off_52 : decode cX7_off 52 = .ok (.aload_n 0, 1) := by decide +kernel
theorem dX7_off_53 : decode cX7_off 53 = .ok (.invokevirtual 75, 3) := by decide +kernel
theorem dX7_off_56 : decode cX7_off 56 = .ok (.iload_n 3, 1) := by decide +kernel
theorem dX7_off_57 : decode cX7_off 57 = .ok (.idiv, 1) := by decide +kernel
theorem dX7_off_58 : decode cX7_off 58 = .ok (.irem, 1) := by decide +kernel
theorem dX7_off_59 : decode cX7_off 59 = .ok (.imul, 1) := by decide +kernel
theorem dX7_off_60 : decode cX7_off 60 = .ok (.istore 4, 2) := by decide +kernel
theorem dX7_off_62 : decode cX7_off 62 = .ok (.iload_n 3, 1) := by decide +kernel
theorem dX7_off_63 : decode cX7_off 63 = .ok (.iload_n 2, 1) := by decide +kernel
theorem dX7_off_64 : decode cX7_off 64 = .ok (.aload_n 0, 1) := by decide +kernel
theorem dX7_off_65 : decode cX7_off 65 = .ok (.invokevirtual 75, 3) := by decide +kernel
theorem dX7_off_68 : decode cX7_off 68 = .ok (.iload_n 3, 1) := by decide +kernel
theorem dX7_off_69 : decode cX7_off 69 = .ok (.idiv, 1) := by decide +kernel
theorem dX7_off_70 : decode cX7_off 70 = .ok (.idiv, 1) := by decide +kernel
theorem dX7_off_71 : decode cX7_off 71 = .ok (.imul, 1) := by decide +kernel
theorem dX7_off_72 : decode cX7_off 72 = .ok (.istore 5, 2) := by decide +kernel
theorem dX7_off_74 : decode cX7_off 74 = .ok (.iconst 0, 1) := by decide +kernel
theorem dX7_off_75 : decode cX7_off 75 = .ok (.istore 6, 2) := by decide +kernel
theorem dX7_off_77 : decode cX7_off 77 = .ok (.iload 5, 2) := by decide +kernel
theorem dX7_off_79 : decode cX7_off 79 = .ok (.istore 7, 2) := by decide +kernel
theorem dX7_off_81 : decode cX7_off 81 = .ok (.iload 7, 2) := by decide +kernel
theorem dX7_off_83 : decode cX7_off 83 = .ok (.iload 5, 2) := by decide +kernel
theorem dX7_off_85 : decode cX7_off 85 = .ok (.iload_n 3, 1) := by decide +kernel
theorem dX7_off_86 : decode cX7_off 86 = .ok (.iadd, 1) := by decide +kernel
theorem dX7_off_87 : decode cX7_off 87 = .ok (.if_icmp .ge 71, 3) := by decide +kernel
theorem dX7_off_90 : decode cX7_off 90 = .ok (.iload 4, 2) := by decide +kernel
theorem dX7_off_92 : decode cX7_off 92 = .ok (.istore 8, 2) := by decide +kernel
theorem dX7_off_94 : decode cX7_off 94 = .ok (.iload 8, 2) := by decide +kernel
theorem dX7_off_96 : decode cX7_off 96 = .ok (.iload 4, 2) := by decide +kernel
theorem dX7_off_98 : decode cX7_off 98 = .ok (.iload_n 3, 1) := by decide +kernel
theorem dX7_off_99 : decode cX7_off 99 = .ok (.iadd, 1) := by decide +kernel
theorem dX7_off_100 : decode cX7_off 100 = .ok (.if_icmp .ge 52, 3) := by decide +kernel
theorem dX7_off_103 : decode cX7_off 103 = .ok (.iload 6, 2) := by decide +kernel
theorem dX7_off_105 : decode cX7_off 105 = .ok (.aload_n 0, 1) := by decide +kernel
theorem dX7_off_106 : decode cX7_off 106 = .ok (.iload_n 1, 1) := by decide +kernel
theorem dX7_off_107 : decode cX7_off 107 = .ok (.iload 8, 2) := by decide +kernel
theorem dX7_off_109 : decode cX7_off 109 = .ok (.iload 7, 2) := by decide +kernel
theorem dX7_off_111 : decode cX7_off 111 = .ok (.invokevirtual 133, 3) := by decide +kernel
theorem dX7_off_114 : decode cX7_off 114 = .ok (.ifCond .eq 8, 3) := by decide +kernel
theorem dX7_off_117 : decode cX7_off 117 = .ok (.bipush 100, 2) := by decide +kernel
theorem dX7_off_119 : decode cX7_off 119 = .ok (.goto 4, 3) := by decide +kernel
theorem dX7_off_122 : decode cX7_off 122 = .ok (.iconst 0, 1) := by decide +kernel
theorem dX7_off_123 : decode cX7_off 123 = .ok (.aload_n 0, 1) := by decide +kernel
theorem dX7_off_124 : decode cX7_off 124 = .ok (.getfield 27, 3) := by decide +kernel
theorem dX7_off_127 : decode cX7_off 127 = .ok (.sipush 192, 3) := by decide +kernel
theorem dX7_off_130 : decode cX7_off 130 = .ok (.iload_n 1, 1) := by decide +kernel
theorem dX7_off_131 : decode cX7_off 131 = .ok (.imul, 1) := by decide +kernel
theorem dX7_off_132 : decode cX7_off 132 = .ok (.bipush 16, 2) := by decide +kernel
theorem dX7_off_134 : decode cX7_off 134 = .ok (.iload 7, 2) := by decide +kernel
theorem dX7_off_136 : decode cX7_off 136 = .ok (.imul, 1) := by decide +kernel
theorem dX7_off_137 : decode cX7_off 137 = .ok (.iadd, 1) := by decide +kernel
theorem dX7_off_138 : decode cX7_off 138 = .ok (.iload 8, 2) := by decide +kernel
theorem dX7_off_140 : decode cX7_off 140 = .ok (.iadd, 1) := by decide +kernel
theorem dX7_off_141 : decode cX7_off 141 = .ok (.iaload, 1) := by decide +kernel
theorem dX7_off_142 : decode cX7_off 142 = .ok (.isub, 1) := by decide +kernel
theorem dX7_off_143 : decode cX7_off 143 = .ok (.iadd, 1) := by decide +kernel
theorem dX7_off_144 : decode cX7_off 144 = .ok (.istore 6, 2) := by decide +kernel
theorem dX7_off_146 : decode cX7_off 146 = .ok (.iinc 8 1, 3) := by decide +kernel
theorem dX7_off_149 : decode cX7_off 149 = .ok (.goto (-55), 3) := by decide +kernel
theorem dX7_off_152 : decode cX7_off 152 = .ok (.iinc 7 1, 3) := by decide +kernel
theorem dX7_off_155 : decode cX7_off 155 = .ok (.goto (-74), 3) := by decide +kernel
theorem dX7_off_158 : decode cX7_off 158 = .ok (.iload 6, 2) := by decide +kernel
theorem dX7_off_160 : decode cX7_off 160 = .ok (.ireturn, 1) := by decide +kernel
theorem dX7_covered_0 : decode cX7_covered 0 = .ok (.aload_n 0, 1) := by decide +kernel
theorem dX7_covered_1 : decode cX7_covered 1 = .ok (.iconst 0, 1) := by decide +kernel
theorem dX7_covered_2 : decode cX7_covered 2 = .ok (.putfield 47, 3) := by decide +kernel
theorem dX7_covered_5 : decode cX7_covered 5 = .ok (.aload_n 0, 1) := by decide +kernel
theorem dX7_covered_6 : decode cX7_covered 6 = .ok (.aload_n 0, 1) := by decide +kernel
theorem dX7_covered_7 : decode cX7_covered 7 = .ok (.iload_n 1, 1) := by decide +kernel
theorem dX7_covered_8 : decode cX7_covered 8 = .ok (.invokevirtual 302, 3) := by decide +kernel
theorem dX7_covered_11 : decode cX7_covered 11 = .ok (.iconst 1, 1) := by decide +kernel
theorem dX7_covered_12 : decode cX7_covered 12 = .ok (.invokevirtual 271, 3) := by decide +kernel
theorem dX7_covered_15 : decode cX7_covered 15 = .ok (.ifCond .eq 23, 3) := by decide +kernel
theorem dX7_covered_18 : decode cX7_covered 18 = .ok (.aload_n 0, 1) := by decide +kernel
theorem dX7_covered_19 : decode cX7_covered 19 = .ok (.iload_n 1, 1) := by decide +kernel
theorem dX7_covered_20 : decode cX7_covered 20 = .ok (.invokevirtual 142, 3) := by decide +kernel
theorem dX7_covered_23 : decode cX7_covered 23 = .ok (.i2f, 1) := by decide +kernel
theorem dX7_covered_24 : decode cX7_covered 24 = .ok (.aload_n 0, 1) := by decide +kernel
theorem dX7_covered_25 : decode cX7_covered 25 = .ok (.invokevirtual 75, 3) := by decide +kernel
theorem dX7_covered_28 : decode cX7_covered 28 = .ok (.aload_n 0, 1) := by decide +kernel
theorem dX7_covered_29 : decode cX7_covered 29 = .ok (.invokevirtual 78, 3) := by decide +kernel
theorem dX7_covered_32 : decode cX7_covered 32 = .ok (.imul, 1) := by decide +kernel
theorem dX7_covered_33 : decode cX7_covered 33 = .ok (.i2f, 1) := by decide +kernel
theorem dX7_covered_34 : decode cX7_covered 34 = .ok (.fdiv, 1) := by decide +kernel
theorem dX7_covered_35 : decode cX7_covered 35 = .ok (.goto 4, 3) := by decide +kernel
theorem dX7_covered_38 : decode cX7_covered 38 = .ok (.fconst 0, 1) := by decide +kernel
theorem dX7_covered_39 : decode cX7_covered 39 = .ok (.freturn, 1) := by decide +kernel
theorem dX7_moire_0 : decode cX7_moire 0 = .ok (.aload_n 0, 1) := by decide +kernel
theorem dX7_moire_1 : decode cX7_moire 1 = .ok (.iconst 0, 1) := by decide +kernel
theorem dX7_moire_2 : decode cX7_moire 2 = .ok (.putfield 47, 3) := by decide +kernel
theorem dX7_moire_5 : decode cX7_moire 5 = .ok (.aload_n 0, 1) := by decide +kernel
theorem dX7_moire_6 : decode cX7_moire 6 = .ok (.aload_n 0, 1) := by decide +kernel
theorem dX7_moire_7 : decode cX7_moire 7 = .ok (.iload_n 1, 1) := by decide +kernel
theorem dX7_moire_8 : decode cX7_moire 8 = .ok (.invokevirtual 302, 3) := by decide +kernel
theorem dX7_moire_11 : decode cX7_moire 11 = .ok (.ifCond .eq 15, 3) := by decide +kernel
theorem dX7_moire_14 : decode cX7_moire 14 = .ok (.aload_n 0, 1) := by decide +kernel
theorem dX7_moire_15 : decode cX7_moire 15 = .ok (.iload_n 2, 1) := by decide +kernel
theorem dX7_moire_16 : decode cX7_moire 16 = .ok (.invokevirtual 302, 3) := by decide +kernel
theorem dX7_moire_19 : decode cX7_moire 19 = .ok (.ifCond .eq 7, 3) := by decide +kernel
theorem dX7_moire_22 : decode cX7_moire 22 = .ok (.iconst 1, 1) := by decide +kernel
theorem dX7_moire_23 : decode cX7_moire 23 = .ok (.goto 4, 3) := by decide +kernel
theorem dX7_moire_26 : decode cX7_moire 26 = .ok (.iconst 0, 1) := by decide +kernel
theorem dX7_moire_27 : decode cX7_moire 27 = .ok (.iconst 1, 1) := by decide +kernel
theorem dX7_moire_28 : decode cX7_moire 28 = .ok (.invokevirtual 271, 3) := by decide +kernel
theorem dX7_moire_31 : decode cX7_moire 31 = .ok (.ifCond .eq 12, 3) := by decide +kernel
theorem dX7_moire_34 : decode cX7_moire 34 = .ok (.aload_n 0, 1) := by decide +kernel
theorem dX7_moire_35 : decode cX7_moire 35 = .ok (.iload_n 1, 1) := by decide +kernel
theorem dX7_moire_36 : decode cX7_moire 36 = .ok (.iload_n 2, 1) := by decide +kernel
theorem dX7_moire_37 : decode cX7_moire 37 = .ok (.invokevirtual 308, 3) := by decide +kernel
theorem dX7_moire_40 : decode cX7_moire 40 = .ok (.goto 4, 3) := by decide +kernel
theorem dX7_moire_43 : decode cX7_moire 43 = .ok (.dconst 0, 1) := by decide +kernel
theorem dX7_moire_44 : decode cX7_moire 44 = .ok (.dreturn, 1) := by decide +kernel
theorem dX7_worst_0 : decode cX7_worst 0 = .ok (.aload_n 0, 1) := by decide +kernel
theorem dX7_worst_1 : decode cX7_worst 1 = .ok (.iconst 0, 1) := by decide +kernel
theorem dX7_worst_2 : decode cX7_worst 2 = .ok (.putfield 47, 3) := by decide +kernel
theorem dX7_worst_5 : decode cX7_worst 5 = .ok (.iconst (-1), 1) := by decide +kernel
theorem dX7_worst_6 : decode cX7_worst 6 = .ok (.istore_n 2, 1) := by decide +kernel
theorem dX7_worst_7 : decode cX7_worst 7 = .ok (.iconst (-1), 1) := by decide +kernel
theorem dX7_worst_8 : decode cX7_worst 8 = .ok (.istore_n 3, 1) := by decide +kernel
theorem dX7_worst_9 : decode cX7_worst 9 = .ok (.iconst 0, 1) := by decide +kernel
theorem dX7_worst_10 : decode cX7_worst 10 = .ok (.istore 4, 2) := by decide +kernel
theorem dX7_worst_12 : decode cX7_worst 12 = .ok (.iload 4, 2) := by decide +kernel
theorem dX7_worst_14 : decode cX7_worst 14 = .ok (.aload_n 0, 1) := by decide +kernel
theorem dX7_worst_15 : decode cX7_worst 15 = .ok (.invokevirtual 67, 3) := by decide +kernel
theorem dX7_worst_18 : decode cX7_worst 18 = .ok (.if_icmp .ge 62, 3) := by decide +kernel
theorem dX7_worst_21 : decode cX7_worst 21 = .ok (.iload 4, 2) := by decide +kernel
theorem dX7_worst_23 : decode cX7_worst 23 = .ok (.iconst 1, 1) := by decide +kernel
theorem dX7_worst_24 : decode cX7_worst 24 = .ok (.iadd, 1) := by decide +kernel
theorem dX7_worst_25 : decode cX7_worst 25 = .ok (.istore 5, 2) := by decide +kernel
theorem dX7_worst_27 : decode cX7_worst 27 = .ok (.iload 5, 2) := by decide +kernel
theorem dX7_worst_29 : decode cX7_worst 29 = .ok (.aload_n 0, 1) := by decide +kernel
theorem dX7_worst_30 : decode cX7_worst 30 = .ok (.invokevirtual 67, 3) := by decide +kernel
theorem dX7_worst_33 : decode cX7_worst 33 = .ok (.if_icmp .ge 41, 3) := by decide +kernel
theorem dX7_worst_36 : decode cX7_worst 36 = .ok (.iload_n 2, 1) := by decide +kernel
theorem dX7_worst_37 : decode cX7_worst 37 = .ok (.iconst (-1), 1) := by decide +kernel
theorem dX7_worst_38 : decode cX7_worst 38 = .ok (.if_icmp .eq 24, 3) := by decide +kernel
theorem dX7_worst_41 : decode cX7_worst 41 = .ok (.aload_n 0, 1) := by decide +kernel
theorem dX7_worst_42 : decode cX7_worst 42 = .ok (.iload 4, 2) := by decide +kernel
theorem dX7_worst_44 : decode cX7_worst 44 = .ok (.iload 5, 2) := by decide +kernel
theorem dX7_worst_46 : decode cX7_worst 46 = .ok (.invokevirtual 308, 3) := by decide +kernel
theorem dX7_worst_49 : decode cX7_worst 49 = .ok (.aload_n 0, 1) := by decide +kernel
theorem dX7_worst_50 : decode cX7_worst 50 = .ok (.iload_n 2, 1) := by decide +kernel
theorem dX7_worst_51 : decode cX7_worst 51 = .ok (.iload_n 3, 1) := by decide +kernel
theorem dX7_worst_52 : decode cX7_worst 52 = .ok (.invokevirtual 308, 3) := by decide +kernel
theorem dX7_worst_55 : decode cX7_worst 55 = .ok (.dcmp .g, 1) := by decide +kernel
theorem dX7_worst_56 : decode cX7_worst 56 = .ok (.ifCond .gt 6, 3) := by decide +kernel
theorem dX7_worst_59 : decode cX7_worst 59 = .ok (.goto 9, 3) := by decide +kernel
theorem dX7_worst_62 : decode cX7_worst 62 = .ok (.iload 4, 2) := by decide +kernel
theorem dX7_worst_64 : decode cX7_worst 64 = .ok (.istore_n 2, 1) := by decide +kernel
theorem dX7_worst_65 : decode cX7_worst 65 = .ok (.iload 5, 2) := by decide +kernel
theorem dX7_worst_67 : decode cX7_worst 67 = .ok (.istore_n 3, 1) := by decide +kernel
theorem dX7_worst_68 : decode cX7_worst 68 = .ok (.iinc 5 1, 3) := by decide +kernel
theorem dX7_worst_71 : decode cX7_worst 71 = .ok (.goto (-44), 3) := by decide +kernel
theorem dX7_worst_74 : decode cX7_worst 74 = .ok (.iinc 4 1, 3) := by decide +kernel
theorem dX7_worst_77 : decode cX7_worst 77 = .ok (.goto (-65), 3) := by decide +kernel
theorem dX7_worst_80 : decode cX7_worst 80 = .ok (.iload_n 1, 1) := by decide +kernel
theorem dX7_worst_81 : decode cX7_worst 81 = .ok (.ifCond .eq 7, 3) := by decide +kernel
theorem dX7_worst_84 : decode cX7_worst 84 = .ok (.iload_n 3, 1) := by decide +kernel
theorem dX7_worst_85 : decode cX7_worst 85 = .ok (.goto 4, 3) := by decide +kernel
theorem dX7_worst_88 : decode cX7_worst 88 = .ok (.iload_n 2, 1) := by decide +kernel
theorem dX7_worst_89 : decode cX7_worst 89 = .ok (.ireturn, 1) := by decide +kernel
theorem dX7_greatestWith_0 : decode cX7_greatestWith 0 = .ok (.dconst 0, 1) := by decide +kernel
theorem dX7_greatestWith_1 : decode cX7_greatestWith 1 = .ok (.dstore 4, 2) := by decide +kernel
theorem dX7_greatestWith_3 : decode cX7_greatestWith 3 = .ok (.iconst 0, 1) := by decide +kernel
theorem dX7_greatestWith_4 : decode cX7_greatestWith 4 = .ok (.istore 6, 2) := by decide +kernel
theorem dX7_greatestWith_6 : decode cX7_greatestWith 6 = .ok (.iload 6, 2) := by decide +kernel
theorem dX7_greatestWith_8 : decode cX7_greatestWith 8 = .ok (.aload_n 0, 1) := by decide +kernel
theorem dX7_greatestWith_9 : decode cX7_greatestWith 9 = .ok (.invokevirtual 67, 3) := by decide +kernel
theorem dX7_greatestWith_12 : decode cX7_greatestWith 12 = .ok (.if_icmp .ge 43, 3) := by decide +kernel
theorem dX7_greatestWith_15 : decode cX7_greatestWith 15 = .ok (.iload 6, 2) := by decide +kernel
theorem dX7_greatestWith_17 : decode cX7_greatestWith 17 = .ok (.iload_n 1, 1) := by decide +kernel
theorem dX7_greatestWith_18 : decode cX7_greatestWith 18 = .ok (.if_icmp .eq 31, 3) := by decide +kernel
theorem dX7_greatestWith_21 : decode cX7_greatestWith 21 = .ok (.dload 4, 2) := by decide +kernel
theorem dX7_greatestWith_23 : decode cX7_greatestWith 23 = .ok (.iload_n 2, 1) := by decide +kernel
theorem dX7_greatestWith_24 : decode cX7_greatestWith 24 = .ok (.iload_n 3, 1) := by decide +kernel
theorem dX7_greatestWith_25 : decode cX7_greatestWith 25 = .ok (.aload_n 0, 1) := by decide +kernel
theorem dX7_greatestWith_26 : decode cX7_greatestWith 26 = .ok (.iload 6, 2) := by decide +kernel
theorem dX7_greatestWith_28 : decode cX7_greatestWith 28 = .ok (.bipush 7, 2) := by decide +kernel
theorem dX7_greatestWith_30 : decode cX7_greatestWith 30 = .ok (.invokevirtual 81, 3) := by decide +kernel
theorem dX7_greatestWith_33 : decode cX7_greatestWith 33 = .ok (.aload_n 0, 1) := by decide +kernel
theorem dX7_greatestWith_34 : decode cX7_greatestWith 34 = .ok (.iload 6, 2) := by decide +kernel
theorem dX7_greatestWith_36 : decode cX7_greatestWith 36 = .ok (.bipush 8, 2) := by decide +kernel
theorem dX7_greatestWith_38 : decode cX7_greatestWith 38 = .ok (.invokevirtual 81, 3) := by decide +kernel
theorem dX7_greatestWith_41 : decode cX7_greatestWith 41 = .ok (.invokestatic 145, 3) := by decide +kernel
theorem dX7_greatestWith_44 : decode cX7_greatestWith 44 = .ok (.invokestatic 312, 3) := by decide +kernel
theorem dX7_greatestWith_47 : decode cX7_greatestWith 47 = .ok (.dstore 4, 2) := by decide +kernel
theorem dX7_greatestWith_49 : decode cX7_greatestWith 49 = .ok (.iinc 6 1, 3) := by decide +kernel
theorem dX7_greatestWith_52 : decode cX7_greatestWith 52 = .ok (.goto (-46), 3) := by decide +kernel
theorem dX7_greatestWith_55 : decode cX7_greatestWith 55 = .ok (.dload 4, 2) := by decide +kernel
theorem dX7_greatestWith_57 : decode cX7_greatestWith 57 = .ok (.dreturn, 1) := by decide +kernel
theorem dX7_bestTurn_0 : decode cX7_bestTurn 0 = .ok (.aload_n 0, 1) := by decide +kernel
theorem dX7_bestTurn_1 : decode cX7_bestTurn 1 = .ok (.iconst 0, 1) := by decide +kernel
theorem dX7_bestTurn_2 : decode cX7_bestTurn 2 = .ok (.putfield 47, 3) := by decide +kernel
theorem dX7_bestTurn_5 : decode cX7_bestTurn 5 = .ok (.aload_n 0, 1) := by decide +kernel
theorem dX7_bestTurn_6 : decode cX7_bestTurn 6 = .ok (.aload_n 0, 1) := by decide +kernel
theorem dX7_bestTurn_7 : decode cX7_bestTurn 7 = .ok (.iload_n 1, 1) := by decide +kernel
theorem dX7_bestTurn_8 : decode cX7_bestTurn 8 = .ok (.invokevirtual 302, 3) := by decide +kernel
theorem dX7_bestTurn_11 : decode cX7_bestTurn 11 = .ok (.iconst 1, 1) := by decide +kernel
theorem dX7_bestTurn_12 : decode cX7_bestTurn 12 = .ok (.invokevirtual 271, 3) := by decide +kernel
theorem dX7_bestTurn_15 : decode cX7_bestTurn 15 = .ok (.ifCond .ne 5, 3) := by decide +kernel
theorem dX7_bestTurn_18 : decode cX7_bestTurn 18 = .ok (.iconst 0, 1) := by decide +kernel
theorem dX7_bestTurn_19 : decode cX7_bestTurn 19 = .ok (.ireturn, 1) := by decide +kernel
theorem dX7_bestTurn_20 : decode cX7_bestTurn 20 = .ok (.aload_n 0, 1) := by decide +kernel
theorem dX7_bestTurn_21 : decode cX7_bestTurn 21 = .ok (.invokevirtual 67, 3) := by decide +kernel
theorem dX7_bestTurn_24 : decode cX7_bestTurn 24 = .ok (.iconst 1, 1) := by decide +kernel
theorem dX7_bestTurn_25 : decode cX7_bestTurn 25 = .ok (.if_icmp .ne 22, 3) := by decide +kernel
theorem dX7_bestTurn_28 : decode cX7_bestTurn 28 = .ok (.bipush 10, 2) := by decide +kernel
theorem dX7_bestTurn_30 : decode cX7_bestTurn 30 = .ok (.aload_n 0, 1) := by decide +kernel
theorem dX7_bestTurn_31 : decode cX7_bestTurn 31 = .ok (.iload_n 1, 1) := by decide +kernel
theorem dX7_bestTurn_32 : decode cX7_bestTurn 32 = .ok (.bipush 7, 2) := by decide +kernel
theorem dX7_bestTurn_34 : decode cX7_bestTurn 34 = .ok (.invokevirtual 81, 3) := by decide +kernel
theorem dX7_bestTurn_37 : decode cX7_bestTurn 37 = .ok (.imul, 1) := by decide +kernel
theorem dX7_bestTurn_38 : decode cX7_bestTurn 38 = .ok (.aload_n 0, 1) := by decide +kernel
theorem dX7_bestTurn_39 : decode cX7_bestTurn 39 = .ok (.iload_n 1, 1) := by decide +kernel
theorem dX7_bestTurn_40 : decode cX7_bestTurn 40 = .ok (.bipush 8, 2) := by decide +kernel
theorem dX7_bestTurn_42 : decode cX7_bestTurn 42 = .ok (.invokevirtual 81, 3) := by decide +kernel
theorem dX7_bestTurn_45 : decode cX7_bestTurn 45 = .ok (.iadd, 1) := by decide +kernel
theorem dX7_bestTurn_46 : decode cX7_bestTurn 46 = .ok (.ireturn, 1) := by decide +kernel
theorem dX7_bestTurn_47 : decode cX7_bestTurn 47 = .ok (.iconst 1, 1) := by decide +kernel
theorem dX7_bestTurn_48 : decode cX7_bestTurn 48 = .ok (.istore_n 2, 1) := by decide +kernel
theorem dX7_bestTurn_49 : decode cX7_bestTurn 49 = .ok (.iconst 2, 1) := by decide +kernel
theorem dX7_bestTurn_50 : decode cX7_bestTurn 50 = .ok (.istore_n 3, 1) := by decide +kernel
theorem dX7_bestTurn_51 : decode cX7_bestTurn 51 = .ok (.iload_n 3, 1) := by decide +kernel
theorem dX7_bestTurn_52 : decode cX7_bestTurn 52 = .ok (.bipush 16, 2) := by decide +kernel
theorem dX7_bestTurn_54 : decode cX7_bestTurn 54 = .ok (.if_icmp .ge 37, 3) := by decide +kernel
theorem dX7_bestTurn_57 : decode cX7_bestTurn 57 = .ok (.aload_n 0, 1) := by decide +kernel
theorem dX7_bestTurn_58 : decode cX7_bestTurn 58 = .ok (.iload_n 1, 1) := by decide +kernel
theorem dX7_bestTurn_59 : decode cX7_bestTurn 59 = .ok (.iload_n 3, 1) := by decide +kernel
theorem dX7_bestTurn_60 : decode cX7_bestTurn 60 = .ok (.iconst 4, 1) := by decide +kernel
theorem dX7_bestTurn_61 : decode cX7_bestTurn 61 = .ok (.idiv, 1) := by decide +kernel
theorem dX7_bestTurn_62 : decode cX7_bestTurn 62 = .ok (.iload_n 3, 1) := by decide +kernel
theorem dX7_bestTurn_63 : decode cX7_bestTurn 63 = .ok (.iconst 4, 1) := by decide +kernel
theorem dX7_bestTurn_64 : decode cX7_bestTurn 64 = .ok (.irem, 1) := by decide +kernel
theorem dX7_bestTurn_65 : decode cX7_bestTurn 65 = .ok (.invokevirtual 315, 3) := by decide +kernel
theorem dX7_bestTurn_68 : decode cX7_bestTurn 68 = .ok (.aload_n 0, 1) := by decide +kernel
theorem dX7_bestTurn_69 : decode cX7_bestTurn 69 = .ok (.iload_n 1, 1) := by decide +kernel
theorem dX7_bestTurn_70 : decode cX7_bestTurn 70 = .ok (.iload_n 2, 1) := by decide +kernel
theorem dX7_bestTurn_71 : decode cX7_bestTurn 71 = .ok (.iconst 4, 1) := by decide +kernel
theorem dX7_bestTurn_72 : decode cX7_bestTurn 72 = .ok (.idiv, 1) := by decide +kernel
theorem dX7_bestTurn_73 : decode cX7_bestTurn 73 = .ok (.iload_n 2, 1) := by decide +kernel
theorem dX7_bestTurn_74 : decode cX7_bestTurn 74 = .ok (.iconst 4, 1) := by decide +kernel
theorem dX7_bestTurn_75 : decode cX7_bestTurn 75 = .ok (.irem, 1) := by decide +kernel
theorem dX7_bestTurn_76 : decode cX7_bestTurn 76 = .ok (.invokevirtual 315, 3) := by decide +kernel
theorem dX7_bestTurn_79 : decode cX7_bestTurn 79 = .ok (.dcmp .g, 1) := by decide +kernel
theorem dX7_bestTurn_80 : decode cX7_bestTurn 80 = .ok (.ifCond .ge 5, 3) := by decide +kernel
theorem dX7_bestTurn_83 : decode cX7_bestTurn 83 = .ok (.iload_n 3, 1) := by decide +kernel
theorem dX7_bestTurn_84 : decode cX7_bestTurn 84 = .ok (.istore_n 2, 1) := by decide +kernel
theorem dX7_bestTurn_85 : decode cX7_bestTurn 85 = .ok (.iinc 3 1, 3) := by decide +kernel
theorem dX7_bestTurn_88 : decode cX7_bestTurn 88 = .ok (.goto (-37), 3) := by decide +kernel
theorem dX7_bestTurn_91 : decode cX7_bestTurn 91 = .ok (.bipush 10, 2) := by decide +kernel
theorem dX7_bestTurn_93 : decode cX7_bestTurn 93 = .ok (.iload_n 2, 1) := by decide +kernel
theorem dX7_bestTurn_94 : decode cX7_bestTurn 94 = .ok (.iconst 4, 1) := by decide +kernel
theorem dX7_bestTurn_95 : decode cX7_bestTurn 95 = .ok (.idiv, 1) := by decide +kernel
theorem dX7_bestTurn_96 : decode cX7_bestTurn 96 = .ok (.imul, 1) := by decide +kernel
theorem dX7_bestTurn_97 : decode cX7_bestTurn 97 = .ok (.iload_n 2, 1) := by decide +kernel
theorem dX7_bestTurn_98 : decode cX7_bestTurn 98 = .ok (.iconst 4, 1) := by decide +kernel
theorem dX7_bestTurn_99 : decode cX7_bestTurn 99 = .ok (.irem, 1) := by decide +kernel
theorem dX7_bestTurn_100 : decode cX7_bestTurn 100 = .ok (.iadd, 1) := by decide +kernel
theorem dX7_bestTurn_101 : decode cX7_bestTurn 101 = .ok (.ireturn, 1) := by decide +kernel
theorem dX7_possible_0 : decode cX7_possible 0 = .ok (.iconst (-1), 1) := by decide +kernel
theorem dX7_possible_1 : decode cX7_possible 1 = .ok (.istore_n 1, 1) := by decide +kernel
theorem dX7_possible_2 : decode cX7_possible 2 = .ok (.iconst 0, 1) := by decide +kernel
theorem dX7_possible_3 : decode cX7_possible 3 = .ok (.istore_n 2, 1) := by decide +kernel
theorem dX7_possible_4 : decode cX7_possible 4 = .ok (.iload_n 2, 1) := by decide +kernel
theorem dX7_possible_5 : decode cX7_possible 5 = .ok (.aload_n 0, 1) := by decide +kernel
theorem dX7_possible_6 : decode cX7_possible 6 = .ok (.invokevirtual 67, 3) := by decide +kernel
theorem dX7_possible_9 : decode cX7_possible 9 = .ok (.if_icmp .ge 51, 3) := by decide +kernel
theorem dX7_possible_12 : decode cX7_possible 12 = .ok (.aload_n 0, 1) := by decide +kernel
theorem dX7_possible_13 : decode cX7_possible 13 = .ok (.iload_n 2, 1) := by decide +kernel
theorem dX7_possible_14 : decode cX7_possible 14 = .ok (.invokevirtual 142, 3) := by decide +kernel
theorem dX7_possible_17 : decode cX7_possible 17 = .ok (.istore_n 3, 1) := by decide +kernel
theorem dX7_possible_18 : decode cX7_possible 18 = .ok (.iload_n 3, 1) := by decide +kernel
theorem dX7_possible_19 : decode cX7_possible 19 = .ok (.ifCond .ne 6, 3) := by decide +kernel
theorem dX7_possible_22 : decode cX7_possible 22 = .ok (.goto 32, 3) := by decide +kernel
theorem dX7_possible_25 : decode cX7_possible 25 = .ok (.aload_n 0, 1) := by decide +kernel
theorem dX7_possible_26 : decode cX7_possible 26 = .ok (.iload_n 2, 1) := by decide +kernel
theorem dX7_possible_27 : decode cX7_possible 27 = .ok (.bipush 12, 2) := by decide +kernel
theorem dX7_possible_29 : decode cX7_possible 29 = .ok (.invokevirtual 81, 3) := by decide +kernel
theorem dX7_possible_32 : decode cX7_possible 32 = .ok (.iload_n 3, 1) := by decide +kernel
theorem dX7_possible_33 : decode cX7_possible 33 = .ok (.idiv, 1) := by decide +kernel
theorem dX7_possible_34 : decode cX7_possible 34 = .ok (.istore 4, 2) := by decide +kernel
theorem dX7_possible_36 : decode cX7_possible 36 = .ok (.iload_n 1, 1) := by decide +kernel
theorem dX7_possible_37 : decode cX7_possible 37 = .ok (.iconst (-1), 1) := by decide +kernel
theorem dX7_possible_38 : decode cX7_possible 38 = .ok (.if_icmp .eq 9, 3) := by decide +kernel
theorem dX7_possible_41 : decode cX7_possible 41 = .ok (.iload 4, 2) := by decide +kernel
theorem dX7_possible_43 : decode cX7_possible 43 = .ok (.iload_n 1, 1) := by decide +kernel
theorem dX7_possible_44 : decode cX7_possible 44 = .ok (.if_icmp .ge 8, 3) := by decide +kernel
theorem dX7_possible_47 : decode cX7_possible 47 = .ok (.iload 4, 2) := by decide +kernel
theorem dX7_possible_49 : decode cX7_possible 49 = .ok (.goto 4, 3) := by decide +kernel
theorem dX7_possible_52 : decode cX7_possible 52 = .ok (.iload_n 1, 1) := by decide +kernel
theorem dX7_possible_53 : decode cX7_possible 53 = .ok (.istore_n 1, 1) := by decide +kernel
theorem dX7_possible_54 : decode cX7_possible 54 = .ok (.iinc 2 1, 3) := by decide +kernel
theorem dX7_possible_57 : decode cX7_possible 57 = .ok (.goto (-53), 3) := by decide +kernel
theorem dX7_possible_60 : decode cX7_possible 60 = .ok (.iload_n 1, 1) := by decide +kernel
theorem dX7_possible_61 : decode cX7_possible 61 = .ok (.ireturn, 1) := by decide +kernel
theorem dX7_copies_0 : decode cX7_copies 0 = .ok (.aload_n 0, 1) := by decide +kernel
theorem dX7_copies_1 : decode cX7_copies 1 = .ok (.iconst 0, 1) := by decide +kernel
theorem dX7_copies_2 : decode cX7_copies 2 = .ok (.putfield 47, 3) := by decide +kernel
theorem dX7_copies_5 : decode cX7_copies 5 = .ok (.aload_n 0, 1) := by decide +kernel
theorem dX7_copies_6 : decode cX7_copies 6 = .ok (.invokevirtual 319, 3) := by decide +kernel
theorem dX7_copies_9 : decode cX7_copies 9 = .ok (.ireturn, 1) := by decide +kernel
theorem dX7_cellsWith_0 : decode cX7_cellsWith 0 = .ok (.aload_n 0, 1) := by decide +kernel
theorem dX7_cellsWith_1 : decode cX7_cellsWith 1 = .ok (.iconst 0, 1) := by decide +kernel
theorem dX7_cellsWith_2 : decode cX7_cellsWith 2 = .ok (.putfield 47, 3) := by decide +kernel
theorem dX7_cellsWith_5 : decode cX7_cellsWith 5 = .ok (.aload_n 0, 1) := by decide +kernel
theorem dX7_cellsWith_6 : decode cX7_cellsWith 6 = .ok (.iload_n 1, 1) := by decide +kernel
theorem dX7_cellsWith_7 : decode cX7_cellsWith 7 = .ok (.iconst 0, 1) := by decide +kernel
theorem dX7_cellsWith_8 : decode cX7_cellsWith 8 = .ok (.iconst 4, 1) := by decide +kernel
theorem dX7_cellsWith_9 : decode cX7_cellsWith 9 = .ok (.invokestatic 71, 3) := by decide +kernel
theorem dX7_cellsWith_12 : decode cX7_cellsWith 12 = .ok (.iconst 1, 1) := by decide +kernel
theorem dX7_cellsWith_13 : decode cX7_cellsWith 13 = .ok (.invokevirtual 271, 3) := by decide +kernel
theorem dX7_cellsWith_16 : decode cX7_cellsWith 16 = .ok (.ifCond .eq 11, 3) := by decide +kernel
theorem dX7_cellsWith_19 : decode cX7_cellsWith 19 = .ok (.aload_n 0, 1) := by decide +kernel
theorem dX7_cellsWith_20 : decode cX7_cellsWith 20 = .ok (.iload_n 1, 1) := by decide +kernel
theorem dX7_cellsWith_21 : decode cX7_cellsWith 21 = .ok (.invokevirtual 284, 3) := by decide +kernel
theorem dX7_cellsWith_24 : decode cX7_cellsWith 24 = .ok (.goto 4, 3) := by decide +kernel
theorem dX7_cellsWith_27 : decode cX7_cellsWith 27 = .ok (.iconst 0, 1) := by decide +kernel
theorem dX7_cellsWith_28 : decode cX7_cellsWith 28 = .ok (.ireturn, 1) := by decide +kernel
theorem dX7_paint_0 : decode cX7_paint 0 = .ok (.aload_n 0, 1) := by decide +kernel
theorem dX7_paint_1 : decode cX7_paint 1 = .ok (.iconst 0, 1) := by decide +kernel
theorem dX7_paint_2 : decode cX7_paint 2 = .ok (.putfield 47, 3) := by decide +kernel
theorem dX7_paint_5 : decode cX7_paint 5 = .ok (.aload_n 0, 1) := by decide +kernel
theorem dX7_paint_6 : decode cX7_paint 6 = .ok (.aload_n 0, 1) := by decide +kernel
theorem dX7_paint_7 : decode cX7_paint 7 = .ok (.iload_n 1, 1) := by decide +kernel
theorem dX7_paint_8 : decode cX7_paint 8 = .ok (.iload_n 2, 1) := by decide +kernel
theorem dX7_paint_9 : decode cX7_paint 9 = .ok (.invokevirtual 130, 3) := by decide +kernel
theorem dX7_paint_12 : decode cX7_paint 12 = .ok (.iconst 1, 1) := by decide +kernel
theorem dX7_paint_13 : decode cX7_paint 13 = .ok (.invokevirtual 271, 3) := by decide +kernel
theorem dX7_paint_16 : decode cX7_paint 16 = .ok (.ifCond .eq 56, 3) := by decide +kernel
theorem dX7_paint_19 : decode cX7_paint 19 = .ok (.aload_n 0, 1) := by decide +kernel
theorem dX7_paint_20 : decode cX7_paint 20 = .ok (.iload_n 3, 1) := by decide +kernel
theorem dX7_paint_21 : decode cX7_paint 21 = .ok (.iconst 1, 1) := by decide +kernel
theorem dX7_paint_22 : decode cX7_paint 22 = .ok (.aload_n 0, 1) := by decide +kernel
theorem dX7_paint_23 : decode cX7_paint 23 = .ok (.invokevirtual 75, 3) := by decide +kernel
theorem dX7_paint_26 : decode cX7_paint 26 = .ok (.iload_n 1, 1) := by decide +kernel
theorem dX7_paint_27 : decode cX7_paint 27 = .ok (.isub, 1) := by decide +kernel
theorem dX7_paint_28 : decode cX7_paint 28 = .ok (.invokestatic 71, 3) := by decide +kernel
theorem dX7_paint_31 : decode cX7_paint 31 = .ok (.ifCond .eq 33, 3) := by decide +kernel
theorem dX7_paint_34 : decode cX7_paint 34 = .ok (.iload 4, 2) := by decide +kernel
theorem dX7_paint_36 : decode cX7_paint 36 = .ok (.iconst 1, 1) := by decide +kernel
theorem dX7_paint_37 : decode cX7_paint 37 = .ok (.aload_n 0, 1) := by decide +kernel
theorem dX7_paint_38 : decode cX7_paint 38 = .ok (.invokevirtual 78, 3) := by decide +kernel
theorem dX7_paint_41 : decode cX7_paint 41 = .ok (.iload_n 2, 1) := by decide +kernel
theorem dX7_paint_42 : decode cX7_paint 42 = .ok (.isub, 1) := by decide +kernel
theorem dX7_paint_43 : decode cX7_paint 43 = .ok (.invokestatic 71, 3) := by decide +kernel
theorem dX7_paint_46 : decode cX7_paint 46 = .ok (.ifCond .eq 18, 3) := by decide +kernel
theorem dX7_paint_49 : decode cX7_paint 49 = .ok (.iload 5, 2) := by decide +kernel
theorem dX7_paint_51 : decode cX7_paint 51 = .ok (.iconst 0, 1) := by decide +kernel
theorem dX7_paint_52 : decode cX7_paint 52 = .ok (.bipush 100, 2) := by decide +kernel
theorem dX7_paint_54 : decode cX7_paint 54 = .ok (.invokestatic 71, 3) := by decide +kernel
theorem dX7_paint_57 : decode cX7_paint 57 = .ok (.ifCond .eq 7, 3) := by decide +kernel
theorem dX7_paint_60 : decode cX7_paint 60 = .ok (.iconst 1, 1) := by decide +kernel
theorem dX7_paint_61 : decode cX7_paint 61 = .ok (.goto 4, 3) := by decide +kernel
theorem dX7_paint_64 : decode cX7_paint 64 = .ok (.iconst 0, 1) := by decide +kernel
theorem dX7_paint_65 : decode cX7_paint 65 = .ok (.iconst 2, 1) := by decide +kernel
theorem dX7_paint_66 : decode cX7_paint 66 = .ok (.invokevirtual 271, 3) := by decide +kernel
theorem dX7_paint_69 : decode cX7_paint 69 = .ok (.ifCond .ne 5, 3) := by decide +kernel
theorem dX7_paint_72 : decode cX7_paint 72 = .ok (.iconst 0, 1) := by decide +kernel
theorem dX7_paint_73 : decode cX7_paint 73 = .ok (.ireturn, 1) := by decide +kernel
theorem dX7_paint_74 : decode cX7_paint 74 = .ok (.aload_n 0, 1) := by decide +kernel
theorem dX7_paint_75 : decode cX7_paint 75 = .ok (.invokevirtual 278, 3) := by decide +kernel
theorem dX7_paint_78 : decode cX7_paint 78 = .ok (.iload_n 2, 1) := by decide +kernel
theorem dX7_paint_79 : decode cX7_paint 79 = .ok (.istore 6, 2) := by decide +kernel
theorem dX7_paint_81 : decode cX7_paint 81 = .ok (.iload 6, 2) := by decide +kernel
theorem dX7_paint_83 : decode cX7_paint 83 = .ok (.iload_n 2, 1) := by decide +kernel
theorem dX7_paint_84 : decode cX7_paint 84 = .ok (.iload 4, 2) := by decide +kernel
theorem dX7_paint_86 : decode cX7_paint 86 = .ok (.iadd, 1) := by decide +kernel
theorem dX7_paint_87 : decode cX7_paint 87 = .ok (.if_icmp .ge 42, 3) := by decide +kernel
theorem dX7_paint_90 : decode cX7_paint 90 = .ok (.iload_n 1, 1) := by decide +kernel
theorem dX7_paint_91 : decode cX7_paint 91 = .ok (.istore 7, 2) := by decide +kernel
theorem dX7_paint_93 : decode cX7_paint 93 = .ok (.iload 7, 2) := by decide +kernel
theorem dX7_paint_95 : decode cX7_paint 95 = .ok (.iload_n 1, 1) := by decide +kernel
theorem dX7_paint_96 : decode cX7_paint 96 = .ok (.iload_n 3, 1) := by decide +kernel
theorem dX7_paint_97 : decode cX7_paint 97 = .ok (.iadd, 1) := by decide +kernel
theorem dX7_paint_98 : decode cX7_paint 98 = .ok (.if_icmp .ge 25, 3) := by decide +kernel
theorem dX7_paint_101 : decode cX7_paint 101 = .ok (.aload_n 0, 1) := by decide +kernel
theorem dX7_paint_102 : decode cX7_paint 102 = .ok (.iconst 4, 1) := by decide +kernel
theorem dX7_paint_103 : decode cX7_paint 103 = .ok (.bipush 16, 2) := by decide +kernel
theorem dX7_paint_105 : decode cX7_paint 105 = .ok (.iload 6, 2) := by decide +kernel
theorem dX7_paint_107 : decode cX7_paint 107 = .ok (.imul, 1) := by decide +kernel
theorem dX7_paint_108 : decode cX7_paint 108 = .ok (.iadd, 1) := by decide +kernel
theorem dX7_paint_109 : decode cX7_paint 109 = .ok (.iload 7, 2) := by decide +kernel
theorem dX7_paint_111 : decode cX7_paint 111 = .ok (.iadd, 1) := by decide +kernel
theorem dX7_paint_112 : decode cX7_paint 112 = .ok (.iload 5, 2) := by decide +kernel
theorem dX7_paint_114 : decode cX7_paint 114 = .ok (.invokevirtual 57, 3) := by decide +kernel
theorem dX7_paint_117 : decode cX7_paint 117 = .ok (.iinc 7 1, 3) := by decide +kernel
theorem dX7_paint_120 : decode cX7_paint 120 = .ok (.goto (-27), 3) := by decide +kernel
theorem dX7_paint_123 : decode cX7_paint 123 = .ok (.iinc 6 1, 3) := by decide +kernel
theorem dX7_paint_126 : decode cX7_paint 126 = .ok (.goto (-45), 3) := by decide +kernel
theorem dX7_paint_129 : decode cX7_paint 129 = .ok (.aload_n 0, 1) := by decide +kernel
theorem dX7_paint_130 : decode cX7_paint 130 = .ok (.invokevirtual 281, 3) := by decide +kernel
theorem dX7_paint_133 : decode cX7_paint 133 = .ok (.ireturn, 1) := by decide +kernel
theorem dX7_turn_0 : decode cX7_turn 0 = .ok (.aload_n 0, 1) := by decide +kernel
theorem dX7_turn_1 : decode cX7_turn 1 = .ok (.iconst 0, 1) := by decide +kernel
theorem dX7_turn_2 : decode cX7_turn 2 = .ok (.putfield 47, 3) := by decide +kernel
theorem dX7_turn_5 : decode cX7_turn 5 = .ok (.aload_n 0, 1) := by decide +kernel
theorem dX7_turn_6 : decode cX7_turn 6 = .ok (.aload_n 0, 1) := by decide +kernel
theorem dX7_turn_7 : decode cX7_turn 7 = .ok (.iload_n 1, 1) := by decide +kernel
theorem dX7_turn_8 : decode cX7_turn 8 = .ok (.invokevirtual 302, 3) := by decide +kernel
theorem dX7_turn_11 : decode cX7_turn 11 = .ok (.iconst 1, 1) := by decide +kernel
theorem dX7_turn_12 : decode cX7_turn 12 = .ok (.invokevirtual 271, 3) := by decide +kernel
theorem dX7_turn_15 : decode cX7_turn 15 = .ok (.ifCond .eq 40, 3) := by decide +kernel
theorem dX7_turn_18 : decode cX7_turn 18 = .ok (.aload_n 0, 1) := by decide +kernel
theorem dX7_turn_19 : decode cX7_turn 19 = .ok (.iload_n 2, 1) := by decide +kernel
theorem dX7_turn_20 : decode cX7_turn 20 = .ok (.iconst 0, 1) := by decide +kernel
theorem dX7_turn_21 : decode cX7_turn 21 = .ok (.iconst 3, 1) := by decide +kernel
theorem dX7_turn_22 : decode cX7_turn 22 = .ok (.invokestatic 71, 3) := by decide +kernel
theorem dX7_turn_25 : decode cX7_turn 25 = .ok (.ifCond .eq 22, 3) := by decide +kernel
theorem dX7_turn_28 : decode cX7_turn 28 = .ok (.iload_n 3, 1) := by decide +kernel
theorem dX7_turn_29 : decode cX7_turn 29 = .ok (.iconst 0, 1) := by decide +kernel
theorem dX7_turn_30 : decode cX7_turn 30 = .ok (.iconst 3, 1) := by decide +kernel
theorem dX7_turn_31 : decode cX7_turn 31 = .ok (.invokestatic 71, 3) := by decide +kernel
theorem dX7_turn_34 : decode cX7_turn 34 = .ok (.ifCond .eq 13, 3) := by decide +kernel
theorem dX7_turn_37 : decode cX7_turn 37 = .ok (.iload_n 2, 1) := by decide +kernel
theorem dX7_turn_38 : decode cX7_turn 38 = .ok (.iload_n 3, 1) := by decide +kernel
theorem dX7_turn_39 : decode cX7_turn 39 = .ok (.iadd, 1) := by decide +kernel
theorem dX7_turn_40 : decode cX7_turn 40 = .ok (.ifCond .le 7, 3) := by decide +kernel
theorem dX7_turn_43 : decode cX7_turn 43 = .ok (.iconst 1, 1) := by decide +kernel
theorem dX7_turn_44 : decode cX7_turn 44 = .ok (.goto 4, 3) := by decide +kernel
theorem dX7_turn_47 : decode cX7_turn 47 = .ok (.iconst 0, 1) := by decide +kernel
theorem dX7_turn_48 : decode cX7_turn 48 = .ok (.iconst 2, 1) := by decide +kernel
theorem dX7_turn_49 : decode cX7_turn 49 = .ok (.invokevirtual 271, 3) := by decide +kernel
theorem dX7_turn_52 : decode cX7_turn 52 = .ok (.ifCond .ne 5, 3) := by decide +kernel
theorem dX7_turn_55 : decode cX7_turn 55 = .ok (.iconst 0, 1) := by decide +kernel
theorem dX7_turn_56 : decode cX7_turn 56 = .ok (.ireturn, 1) := by decide +kernel
theorem dX7_turn_57 : decode cX7_turn 57 = .ok (.aload_n 0, 1) := by decide +kernel
theorem dX7_turn_58 : decode cX7_turn 58 = .ok (.invokevirtual 278, 3) := by decide +kernel
theorem dX7_turn_61 : decode cX7_turn 61 = .ok (.aload_n 0, 1) := by decide +kernel
theorem dX7_turn_62 : decode cX7_turn 62 = .ok (.iload_n 1, 1) := by decide +kernel
theorem dX7_turn_63 : decode cX7_turn 63 = .ok (.bipush 7, 2) := by decide +kernel
theorem dX7_turn_65 : decode cX7_turn 65 = .ok (.iload_n 2, 1) := by decide +kernel
theorem dX7_turn_66 : decode cX7_turn 66 = .ok (.invokevirtual 322, 3) := by decide +kernel
theorem dX7_turn_69 : decode cX7_turn 69 = .ok (.aload_n 0, 1) := by decide +kernel
theorem dX7_turn_70 : decode cX7_turn 70 = .ok (.iload_n 1, 1) := by decide +kernel
theorem dX7_turn_71 : decode cX7_turn 71 = .ok (.bipush 8, 2) := by decide +kernel
theorem dX7_turn_73 : decode cX7_turn 73 = .ok (.iload_n 3, 1) := by decide +kernel
theorem dX7_turn_74 : decode cX7_turn 74 = .ok (.invokevirtual 322, 3) := by decide +kernel
theorem dX7_turn_77 : decode cX7_turn 77 = .ok (.aload_n 0, 1) := by decide +kernel
theorem dX7_turn_78 : decode cX7_turn 78 = .ok (.iload_n 1, 1) := by decide +kernel
theorem dX7_turn_79 : decode cX7_turn 79 = .ok (.invokevirtual 90, 3) := by decide +kernel
theorem dX7_turn_82 : decode cX7_turn 82 = .ok (.ireturn, 1) := by decide +kernel
theorem dX7_shape_0 : decode cX7_shape 0 = .ok (.aload_n 0, 1) := by decide +kernel
theorem dX7_shape_1 : decode cX7_shape 1 = .ok (.iconst 0, 1) := by decide +kernel
theorem dX7_shape_2 : decode cX7_shape 2 = .ok (.putfield 47, 3) := by decide +kernel
theorem dX7_shape_5 : decode cX7_shape 5 = .ok (.aload_n 0, 1) := by decide +kernel
theorem dX7_shape_6 : decode cX7_shape 6 = .ok (.aload_n 0, 1) := by decide +kernel
theorem dX7_shape_7 : decode cX7_shape 7 = .ok (.iload_n 1, 1) := by decide +kernel
theorem dX7_shape_8 : decode cX7_shape 8 = .ok (.invokevirtual 302, 3) := by decide +kernel
theorem dX7_shape_11 : decode cX7_shape 11 = .ok (.iconst 1, 1) := by decide +kernel
theorem dX7_shape_12 : decode cX7_shape 12 = .ok (.invokevirtual 271, 3) := by decide +kernel
theorem dX7_shape_15 : decode cX7_shape 15 = .ok (.ifCond .eq 17, 3) := by decide +kernel
theorem dX7_shape_18 : decode cX7_shape 18 = .ok (.aload_n 0, 1) := by decide +kernel
theorem dX7_shape_19 : decode cX7_shape 19 = .ok (.iload_n 2, 1) := by decide +kernel
theorem dX7_shape_20 : decode cX7_shape 20 = .ok (.iconst 0, 1) := by decide +kernel
theorem dX7_shape_21 : decode cX7_shape 21 = .ok (.iconst 3, 1) := by decide +kernel
theorem dX7_shape_22 : decode cX7_shape 22 = .ok (.invokestatic 71, 3) := by decide +kernel
theorem dX7_shape_25 : decode cX7_shape 25 = .ok (.iconst 2, 1) := by decide +kernel
theorem dX7_shape_26 : decode cX7_shape 26 = .ok (.invokevirtual 271, 3) := by decide +kernel
theorem dX7_shape_29 : decode cX7_shape 29 = .ok (.ifCond .ne 5, 3) := by decide +kernel
theorem dX7_shape_32 : decode cX7_shape 32 = .ok (.iconst 0, 1) := by decide +kernel
theorem dX7_shape_33 : decode cX7_shape 33 = .ok (.ireturn, 1) := by decide +kernel
theorem dX7_shape_34 : decode cX7_shape 34 = .ok (.aload_n 0, 1) := by decide +kernel
theorem dX7_shape_35 : decode cX7_shape 35 = .ok (.invokevirtual 278, 3) := by decide +kernel
theorem dX7_shape_38 : decode cX7_shape 38 = .ok (.aload_n 0, 1) := by decide +kernel
theorem dX7_shape_39 : decode cX7_shape 39 = .ok (.iload_n 1, 1) := by decide +kernel
theorem dX7_shape_40 : decode cX7_shape 40 = .ok (.bipush 9, 2) := by decide +kernel
theorem dX7_shape_42 : decode cX7_shape 42 = .ok (.invokevirtual 81, 3) := by decide +kernel
theorem dX7_shape_45 : decode cX7_shape 45 = .ok (.istore_n 3, 1) := by decide +kernel
theorem dX7_shape_46 : decode cX7_shape 46 = .ok (.aload_n 0, 1) := by decide +kernel
theorem dX7_shape_47 : decode cX7_shape 47 = .ok (.iload_n 1, 1) := by decide +kernel
theorem dX7_shape_48 : decode cX7_shape 48 = .ok (.bipush 9, 2) := by decide +kernel
theorem dX7_shape_50 : decode cX7_shape 50 = .ok (.iload_n 2, 1) := by decide +kernel
theorem dX7_shape_51 : decode cX7_shape 51 = .ok (.invokevirtual 322, 3) := by decide +kernel
theorem dX7_shape_54 : decode cX7_shape 54 = .ok (.iload_n 3, 1) := by decide +kernel
theorem dX7_shape_55 : decode cX7_shape 55 = .ok (.ireturn, 1) := by decide +kernel
theorem dX7_shift_0 : decode cX7_shift 0 = .ok (.aload_n 0, 1) := by decide +kernel
theorem dX7_shift_1 : decode cX7_shift 1 = .ok (.iconst 0, 1) := by decide +kernel
theorem dX7_shift_2 : decode cX7_shift 2 = .ok (.putfield 47, 3) := by decide +kernel
theorem dX7_shift_5 : decode cX7_shift 5 = .ok (.aload_n 0, 1) := by decide +kernel
theorem dX7_shift_6 : decode cX7_shift 6 = .ok (.aload_n 0, 1) := by decide +kernel
theorem dX7_shift_7 : decode cX7_shift 7 = .ok (.iload_n 1, 1) := by decide +kernel
theorem dX7_shift_8 : decode cX7_shift 8 = .ok (.invokevirtual 302, 3) := by decide +kernel
theorem dX7_shift_11 : decode cX7_shift 11 = .ok (.iconst 1, 1) := by decide +kernel
theorem dX7_shift_12 : decode cX7_shift 12 = .ok (.invokevirtual 271, 3) := by decide +kernel
theorem dX7_shift_15 : decode cX7_shift 15 = .ok (.ifCond .eq 36, 3) := by decide +kernel
theorem dX7_shift_18 : decode cX7_shift 18 = .ok (.aload_n 0, 1) := by decide +kernel
theorem dX7_shift_19 : decode cX7_shift 19 = .ok (.iload_n 2, 1) := by decide +kernel
theorem dX7_shift_20 : decode cX7_shift 20 = .ok (.iconst 0, 1) := by decide +kernel
theorem dX7_shift_21 : decode cX7_shift 21 = .ok (.bipush 17, 2) := by decide +kernel
theorem dX7_shift_23 : decode cX7_shift 23 = .ok (.invokestatic 71, 3) := by decide +kernel
theorem dX7_shift_26 : decode cX7_shift 26 = .ok (.ifCond .eq 17, 3) := by decide +kernel
theorem dX7_shift_29 : decode cX7_shift 29 = .ok (.iload_n 3, 1) := by decide +kernel
theorem dX7_shift_30 : decode cX7_shift 30 = .ok (.iconst 0, 1) := by decide +kernel
theorem dX7_shift_31 : decode cX7_shift 31 = .ok (.bipush 17, 2) := by decide +kernel
theorem dX7_shift_33 : decode cX7_shift 33 = .ok (.invokestatic 71, 3) := by decide +kernel
theorem dX7_shift_36 : decode cX7_shift 36 = .ok (.ifCond .eq 7, 3) := by decide +kernel
theorem dX7_shift_39 : decode cX7_shift 39 = .ok (.iconst 1, 1) := by decide +kernel
theorem dX7_shift_40 : decode cX7_shift 40 = .ok (.goto 4, 3) := by decide +kernel
theorem dX7_shift_43 : decode cX7_shift 43 = .ok (.iconst 0, 1) := by decide +kernel
theorem dX7_shift_44 : decode cX7_shift 44 = .ok (.iconst 2, 1) := by decide +kernel
theorem dX7_shift_45 : decode cX7_shift 45 = .ok (.invokevirtual 271, 3) := by decide +kernel
theorem dX7_shift_48 : decode cX7_shift 48 = .ok (.ifCond .ne 5, 3) := by decide +kernel
theorem dX7_shift_51 : decode cX7_shift 51 = .ok (.iconst 0, 1) := by decide +kernel
theorem dX7_shift_52 : decode cX7_shift 52 = .ok (.ireturn, 1) := by decide +kernel
theorem dX7_shift_53 : decode cX7_shift 53 = .ok (.aload_n 0, 1) := by decide +kernel
theorem dX7_shift_54 : decode cX7_shift 54 = .ok (.invokevirtual 278, 3) := by decide +kernel
theorem dX7_shift_57 : decode cX7_shift 57 = .ok (.aload_n 0, 1) := by decide +kernel
theorem dX7_shift_58 : decode cX7_shift 58 = .ok (.iload_n 1, 1) := by decide +kernel
theorem dX7_shift_59 : decode cX7_shift 59 = .ok (.bipush 10, 2) := by decide +kernel
theorem dX7_shift_61 : decode cX7_shift 61 = .ok (.iload_n 2, 1) := by decide +kernel
theorem dX7_shift_62 : decode cX7_shift 62 = .ok (.invokevirtual 322, 3) := by decide +kernel
theorem dX7_shift_65 : decode cX7_shift 65 = .ok (.aload_n 0, 1) := by decide +kernel
theorem dX7_shift_66 : decode cX7_shift 66 = .ok (.iload_n 1, 1) := by decide +kernel
theorem dX7_shift_67 : decode cX7_shift 67 = .ok (.bipush 11, 2) := by decide +kernel
theorem dX7_shift_69 : decode cX7_shift 69 = .ok (.iload_n 3, 1) := by decide +kernel
theorem dX7_shift_70 : decode cX7_shift 70 = .ok (.invokevirtual 322, 3) := by decide +kernel
theorem dX7_shift_73 : decode cX7_shift 73 = .ok (.aload_n 0, 1) := by decide +kernel
theorem dX7_shift_74 : decode cX7_shift 74 = .ok (.invokevirtual 281, 3) := by decide +kernel
theorem dX7_shift_77 : decode cX7_shift 77 = .ok (.ireturn, 1) := by decide +kernel
theorem dX7_limit_0 : decode cX7_limit 0 = .ok (.aload_n 0, 1) := by decide +kernel
theorem dX7_limit_1 : decode cX7_limit 1 = .ok (.iconst 0, 1) := by decide +kernel
theorem dX7_limit_2 : decode cX7_limit 2 = .ok (.putfield 47, 3) := by decide +kernel
theorem dX7_limit_5 : decode cX7_limit 5 = .ok (.aload_n 0, 1) := by decide +kernel
theorem dX7_limit_6 : decode cX7_limit 6 = .ok (.iload_n 1, 1) := by decide +kernel
theorem dX7_limit_7 : decode cX7_limit 7 = .ok (.iconst 1, 1) := by decide +kernel
theorem dX7_limit_8 : decode cX7_limit 8 = .ok (.iconst 4, 1) := by decide +kernel
theorem dX7_limit_9 : decode cX7_limit 9 = .ok (.invokestatic 71, 3) := by decide +kernel
theorem dX7_limit_12 : decode cX7_limit 12 = .ok (.iconst 1, 1) := by decide +kernel
theorem dX7_limit_13 : decode cX7_limit 13 = .ok (.invokevirtual 271, 3) := by decide +kernel
theorem dX7_limit_16 : decode cX7_limit 16 = .ok (.ifCond .ne 5, 3) := by decide +kernel
theorem dX7_limit_19 : decode cX7_limit 19 = .ok (.iconst 0, 1) := by decide +kernel
theorem dX7_limit_20 : decode cX7_limit 20 = .ok (.ireturn, 1) := by decide +kernel
theorem dX7_limit_21 : decode cX7_limit 21 = .ok (.aload_n 0, 1) := by decide +kernel
theorem dX7_limit_22 : decode cX7_limit 22 = .ok (.invokevirtual 278, 3) := by decide +kernel
theorem dX7_limit_25 : decode cX7_limit 25 = .ok (.aload_n 0, 1) := by decide +kernel
theorem dX7_limit_26 : decode cX7_limit 26 = .ok (.iconst 3, 1) := by decide +kernel
theorem dX7_limit_27 : decode cX7_limit 27 = .ok (.invokevirtual 53, 3) := by decide +kernel
theorem dX7_limit_30 : decode cX7_limit 30 = .ok (.istore_n 2, 1) := by decide +kernel
theorem dX7_limit_31 : decode cX7_limit 31 = .ok (.aload_n 0, 1) := by decide +kernel
theorem dX7_limit_32 : decode cX7_limit 32 = .ok (.iconst 3, 1) := by decide +kernel
theorem dX7_limit_33 : decode cX7_limit 33 = .ok (.iload_n 1, 1) := by decide +kernel
theorem dX7_limit_34 : decode cX7_limit 34 = .ok (.invokevirtual 57, 3) := by decide +kernel
theorem dX7_limit_37 : decode cX7_limit 37 = .ok (.iload_n 2, 1) := by decide +kernel
theorem dX7_limit_38 : decode cX7_limit 38 = .ok (.ireturn, 1) := by decide +kernel
theorem dX7_clean_0 : decode cX7_clean 0 = .ok (.aload_n 0, 1) := by decide +kernel
theorem dX7_clean_1 : decode cX7_clean 1 = .ok (.iconst 0, 1) := by decide +kernel
theorem dX7_clean_2 : decode cX7_clean 2 = .ok (.putfield 47, 3) := by decide +kernel
theorem dX7_clean_5 : decode cX7_clean 5 = .ok (.aload_n 0, 1) := by decide +kernel
theorem dX7_clean_6 : decode cX7_clean 6 = .ok (.aload_n 0, 1) := by decide +kernel
theorem dX7_clean_7 : decode cX7_clean 7 = .ok (.iload_n 1, 1) := by decide +kernel
theorem dX7_clean_8 : decode cX7_clean 8 = .ok (.invokevirtual 302, 3) := by decide +kernel
theorem dX7_clean_11 : decode cX7_clean 11 = .ok (.iconst 1, 1) := by decide +kernel
theorem dX7_clean_12 : decode cX7_clean 12 = .ok (.invokevirtual 271, 3) := by decide +kernel
theorem dX7_clean_15 : decode cX7_clean 15 = .ok (.ifCond .ne 5, 3) := by decide +kernel
theorem dX7_clean_18 : decode cX7_clean 18 = .ok (.iconst 0, 1) := by decide +kernel
theorem dX7_clean_19 : decode cX7_clean 19 = .ok (.ireturn, 1) := by decide +kernel
theorem dX7_clean_20 : decode cX7_clean 20 = .ok (.aload_n 0, 1) := by decide +kernel
theorem dX7_clean_21 : decode cX7_clean 21 = .ok (.invokevirtual 136, 3) := by decide +kernel
theorem dX7_clean_24 : decode cX7_clean 24 = .ok (.iconst 0, 1) := by decide +kernel
theorem dX7_clean_25 : decode cX7_clean 25 = .ok (.istore_n 2, 1) := by decide +kernel
theorem dX7_clean_26 : decode cX7_clean 26 = .ok (.iconst 0, 1) := by decide +kernel
theorem dX7_clean_27 : decode cX7_clean 27 = .ok (.istore_n 3, 1) := by decide +kernel
theorem dX7_clean_28 : decode cX7_clean 28 = .ok (.iload_n 3, 1) := by decide +kernel
theorem dX7_clean_29 : decode cX7_clean 29 = .ok (.aload_n 0, 1) := by decide +kernel
theorem dX7_clean_30 : decode cX7_clean 30 = .ok (.invokevirtual 78, 3) := by decide +kernel
theorem dX7_clean_33 : decode cX7_clean 33 = .ok (.if_icmp .ge 74, 3) := by decide +kernel
theorem dX7_clean_36 : decode cX7_clean 36 = .ok (.aload_n 0, 1) := by decide +kernel
theorem dX7_clean_37 : decode cX7_clean 37 = .ok (.getfield 40, 3) := by decide +kernel
theorem dX7_clean_40 : decode cX7_clean 40 = .ok (.iload_n 3, 1) := by decide +kernel
theorem dX7_clean_41 : decode cX7_clean 41 = .ok (.iconst 0, 1) := by decide +kernel
theorem dX7_clean_42 : decode cX7_clean 42 = .ok (.iastore, 1) := by decide +kernel
theorem dX7_clean_43 : decode cX7_clean 43 = .ok (.iconst 0, 1) := by decide +kernel
theorem dX7_clean_44 : decode cX7_clean 44 = .ok (.istore 4, 2) := by decide +kernel
theorem dX7_clean_46 : decode cX7_clean 46 = .ok (.iload 4, 2) := by decide +kernel
theorem dX7_clean_48 : decode cX7_clean 48 = .ok (.aload_n 0, 1) := by decide +kernel
theorem dX7_clean_49 : decode cX7_clean 49 = .ok (.invokevirtual 75, 3) := by decide +kernel
theorem dX7_clean_52 : decode cX7_clean 52 = .ok (.if_icmp .ge 37, 3) := by decide +kernel
theorem dX7_clean_55 : decode cX7_clean 55 = .ok (.aload_n 0, 1) := by decide +kernel
theorem dX7_clean_56 : decode cX7_clean 56 = .ok (.getfield 40, 3) := by decide +kernel
theorem dX7_clean_59 : decode cX7_clean 59 = .ok (.iload_n 3, 1) := by decide +kernel
theorem dX7_clean_60 : decode cX7_clean 60 = .ok (.dup2, 1) := by decide +kernel
theorem dX7_clean_61 : decode cX7_clean 61 = .ok (.iaload, 1) := by decide +kernel
theorem dX7_clean_62 : decode cX7_clean 62 = .ok (.aload_n 0, 1) := by decide +kernel
theorem dX7_clean_63 : decode cX7_clean 63 = .ok (.iload_n 1, 1) := by decide +kernel
theorem dX7_clean_64 : decode cX7_clean 64 = .ok (.iload 4, 2) := by decide +kernel
theorem dX7_clean_66 : decode cX7_clean 66 = .ok (.iload_n 3, 1) := by decide +kernel
theorem dX7_clean_67 : decode cX7_clean 67 = .ok (.invokevirtual 139, 3) := by decide +kernel
theorem dX7_clean_70 : decode cX7_clean 70 = .ok (.ifCond .eq 10, 3) := by decide +kernel
theorem dX7_clean_73 : decode cX7_clean 73 = .ok (.iconst 1, 1) := by decide +kernel
theorem dX7_clean_74 : decode cX7_clean 74 = .ok (.iload 4, 2) := by decide +kernel
theorem dX7_clean_76 : decode cX7_clean 76 = .ok (.ishl, 1) := by decide +kernel
theorem dX7_clean_77 : decode cX7_clean 77 = .ok (.goto 4, 3) := by decide +kernel
theorem dX7_clean_80 : decode cX7_clean 80 = .ok (.iconst 0, 1) := by decide +kernel
theorem dX7_clean_81 : decode cX7_clean 81 = .ok (.ior, 1) := by decide +kernel
theorem dX7_clean_82 : decode cX7_clean 82 = .ok (.iastore, 1) := by decide +kernel
theorem dX7_clean_83 : decode cX7_clean 83 = .ok (.iinc 4 1, 3) := by decide +kernel
theorem dX7_clean_86 : decode cX7_clean 86 = .ok (.goto (-40), 3) := by decide +kernel
theorem dX7_clean_89 : decode cX7_clean 89 = .ok (.iload_n 2, 1) := by decide +kernel
theorem dX7_clean_90 : decode cX7_clean 90 = .ok (.aload_n 0, 1) := by decide +kernel
theorem dX7_clean_91 : decode cX7_clean 91 = .ok (.getfield 40, 3) := by decide +kernel
theorem dX7_clean_94 : decode cX7_clean 94 = .ok (.iload_n 3, 1) := by decide +kernel
theorem dX7_clean_95 : decode cX7_clean 95 = .ok (.iaload, 1) := by decide +kernel
theorem dX7_clean_96 : decode cX7_clean 96 = .ok (.invokestatic 124, 3) := by decide +kernel
theorem dX7_clean_99 : decode cX7_clean 99 = .ok (.iadd, 1) := by decide +kernel
theorem dX7_clean_100 : decode cX7_clean 100 = .ok (.istore_n 2, 1) := by decide +kernel
theorem dX7_clean_101 : decode cX7_clean 101 = .ok (.iinc 3 1, 3) := by decide +kernel
theorem dX7_clean_104 : decode cX7_clean 104 = .ok (.goto (-76), 3) := by decide +kernel
theorem dX7_clean_107 : decode cX7_clean 107 = .ok (.aload_n 0, 1) := by decide +kernel
theorem dX7_clean_108 : decode cX7_clean 108 = .ok (.invokevirtual 278, 3) := by decide +kernel
theorem dX7_clean_111 : decode cX7_clean 111 = .ok (.iconst 0, 1) := by decide +kernel
theorem dX7_clean_112 : decode cX7_clean 112 = .ok (.istore_n 3, 1) := by decide +kernel
theorem dX7_clean_113 : decode cX7_clean 113 = .ok (.iload_n 3, 1) := by decide +kernel
theorem dX7_clean_114 : decode cX7_clean 114 = .ok (.aload_n 0, 1) := by decide +kernel
theorem dX7_clean_115 : decode cX7_clean 115 = .ok (.invokevirtual 78, 3) := by decide +kernel
theorem dX7_clean_118 : decode cX7_clean 118 = .ok (.if_icmp .ge 34, 3) := by decide +kernel
theorem dX7_clean_121 : decode cX7_clean 121 = .ok (.aload_n 0, 1) := by decide +kernel
theorem dX7_clean_122 : decode cX7_clean 122 = .ok (.iload_n 1, 1) := by decide +kernel
theorem dX7_clean_123 : decode cX7_clean 123 = .ok (.bipush 14, 2) := by decide +kernel
theorem dX7_clean_125 : decode cX7_clean 125 = .ok (.iload_n 3, 1) := by decide +kernel
theorem dX7_clean_126 : decode cX7_clean 126 = .ok (.iadd, 1) := by decide +kernel
theorem dX7_clean_127 : decode cX7_clean 127 = .ok (.aload_n 0, 1) := by decide +kernel
theorem dX7_clean_128 : decode cX7_clean 128 = .ok (.iload_n 1, 1) := by decide +kernel
theorem dX7_clean_129 : decode cX7_clean 129 = .ok (.bipush 14, 2) := by decide +kernel
theorem dX7_clean_131 : decode cX7_clean 131 = .ok (.iload_n 3, 1) := by decide +kernel
theorem dX7_clean_132 : decode cX7_clean 132 = .ok (.iadd, 1) := by decide +kernel
theorem dX7_clean_133 : decode cX7_clean 133 = .ok (.invokevirtual 81, 3) := by decide +kernel
theorem dX7_clean_136 : decode cX7_clean 136 = .ok (.aload_n 0, 1) := by decide +kernel
theorem dX7_clean_137 : decode cX7_clean 137 = .ok (.getfield 40, 3) := by decide +kernel
theorem dX7_clean_140 : decode cX7_clean 140 = .ok (.iload_n 3, 1) := by decide +kernel
theorem dX7_clean_141 : decode cX7_clean 141 = .ok (.iaload, 1) := by decide +kernel
theorem dX7_clean_142 : decode cX7_clean 142 = .ok (.ior, 1) := by decide +kernel
theorem dX7_clean_143 : decode cX7_clean 143 = .ok (.invokevirtual 322, 3) := by decide +kernel
theorem dX7_clean_146 : decode cX7_clean 146 = .ok (.iinc 3 1, 3) := by decide +kernel
theorem dX7_clean_149 : decode cX7_clean 149 = .ok (.goto (-36), 3) := by decide +kernel
theorem dX7_clean_152 : decode cX7_clean 152 = .ok (.iload_n 2, 1) := by decide +kernel
theorem dX7_clean_153 : decode cX7_clean 153 = .ok (.ireturn, 1) := by decide +kernel
theorem dX7_dirty_0 : decode cX7_dirty 0 = .ok (.aload_n 0, 1) := by decide +kernel
theorem dX7_dirty_1 : decode cX7_dirty 1 = .ok (.iconst 0, 1) := by decide +kernel
theorem dX7_dirty_2 : decode cX7_dirty 2 = .ok (.putfield 47, 3) := by decide +kernel
theorem dX7_dirty_5 : decode cX7_dirty 5 = .ok (.aload_n 0, 1) := by decide +kernel
theorem dX7_dirty_6 : decode cX7_dirty 6 = .ok (.aload_n 0, 1) := by decide +kernel
theorem dX7_dirty_7 : decode cX7_dirty 7 = .ok (.iload_n 1, 1) := by decide +kernel
theorem dX7_dirty_8 : decode cX7_dirty 8 = .ok (.invokevirtual 302, 3) := by decide +kernel
theorem dX7_dirty_11 : decode cX7_dirty 11 = .ok (.iconst 1, 1) := by decide +kernel
theorem dX7_dirty_12 : decode cX7_dirty 12 = .ok (.invokevirtual 271, 3) := by decide +kernel
theorem dX7_dirty_15 : decode cX7_dirty 15 = .ok (.ifCond .ne 5, 3) := by decide +kernel
theorem dX7_dirty_18 : decode cX7_dirty 18 = .ok (.iconst 0, 1) := by decide +kernel
theorem dX7_dirty_19 : decode cX7_dirty 19 = .ok (.ireturn, 1) := by decide +kernel
theorem dX7_dirty_20 : decode cX7_dirty 20 = .ok (.aload_n 0, 1) := by decide +kernel
theorem dX7_dirty_21 : decode cX7_dirty 21 = .ok (.invokevirtual 278, 3) := by decide +kernel
theorem dX7_dirty_24 : decode cX7_dirty 24 = .ok (.aload_n 0, 1) := by decide +kernel
theorem dX7_dirty_25 : decode cX7_dirty 25 = .ok (.iload_n 1, 1) := by decide +kernel
theorem dX7_dirty_26 : decode cX7_dirty 26 = .ok (.invokevirtual 287, 3) := by decide +kernel
theorem dX7_dirty_29 : decode cX7_dirty 29 = .ok (.istore_n 2, 1) := by decide +kernel
theorem dX7_dirty_30 : decode cX7_dirty 30 = .ok (.iconst 0, 1) := by decide +kernel
theorem dX7_dirty_31 : decode cX7_dirty 31 = .ok (.istore_n 3, 1) := by decide +kernel
theorem dX7_dirty_32 : decode cX7_dirty 32 = .ok (.iload_n 3, 1) := by decide +kernel
theorem dX7_dirty_33 : decode cX7_dirty 33 = .ok (.bipush 12, 2) := by decide +kernel
theorem dX7_dirty_35 : decode cX7_dirty 35 = .ok (.if_icmp .ge 19, 3) := by decide +kernel
theorem dX7_dirty_38 : decode cX7_dirty 38 = .ok (.aload_n 0, 1) := by decide +kernel
theorem dX7_dirty_39 : decode cX7_dirty 39 = .ok (.iload_n 1, 1) := by decide +kernel
theorem dX7_dirty_40 : decode cX7_dirty 40 = .ok (.bipush 14, 2) := by decide +kernel
theorem dX7_dirty_42 : decode cX7_dirty 42 = .ok (.iload_n 3, 1) := by decide +kernel
theorem dX7_dirty_43 : decode cX7_dirty 43 = .ok (.iadd, 1) := by decide +kernel
theorem dX7_dirty_44 : decode cX7_dirty 44 = .ok (.iconst 0, 1) := by decide +kernel
theorem dX7_dirty_45 : decode cX7_dirty 45 = .ok (.invokevirtual 322, 3) := by decide +kernel
theorem dX7_dirty_48 : decode cX7_dirty 48 = .ok (.iinc 3 1, 3) := by decide +kernel
theorem dX7_dirty_51 : decode cX7_dirty 51 = .ok (.goto (-19), 3) := by decide +kernel
theorem dX7_dirty_54 : decode cX7_dirty 54 = .ok (.iload_n 2, 1) := by decide +kernel
theorem dX7_dirty_55 : decode cX7_dirty 55 = .ok (.ireturn, 1) := by decide +kernel
theorem dX7_fill_0 : decode cX7_fill 0 = .ok (.aload_n 0, 1) := by decide +kernel
theorem dX7_fill_1 : decode cX7_fill 1 = .ok (.iconst 0, 1) := by decide +kernel
theorem dX7_fill_2 : decode cX7_fill 2 = .ok (.putfield 47, 3) := by decide +kernel
theorem dX7_fill_5 : decode cX7_fill 5 = .ok (.aload_n 0, 1) := by decide +kernel
theorem dX7_fill_6 : decode cX7_fill 6 = .ok (.aload_n 0, 1) := by decide +kernel
theorem dX7_fill_7 : decode cX7_fill 7 = .ok (.iload_n 1, 1) := by decide +kernel
theorem dX7_fill_8 : decode cX7_fill 8 = .ok (.invokevirtual 302, 3) := by decide +kernel
theorem dX7_fill_11 : decode cX7_fill 11 = .ok (.iconst 1, 1) := by decide +kernel
theorem dX7_fill_12 : decode cX7_fill 12 = .ok (.invokevirtual 271, 3) := by decide +kernel
theorem dX7_fill_15 : decode cX7_fill 15 = .ok (.ifCond .eq 19, 3) := by decide +kernel
theorem dX7_fill_18 : decode cX7_fill 18 = .ok (.aload_n 0, 1) := by decide +kernel
theorem dX7_fill_19 : decode cX7_fill 19 = .ok (.iload_n 2, 1) := by decide +kernel
theorem dX7_fill_20 : decode cX7_fill 20 = .ok (.iconst 1, 1) := by decide +kernel
theorem dX7_fill_21 : decode cX7_fill 21 = .ok (.sipush 9999, 3) := by decide +kernel
theorem dX7_fill_24 : decode cX7_fill 24 = .ok (.invokestatic 71, 3) := by decide +kernel
theorem dX7_fill_27 : decode cX7_fill 27 = .ok (.iconst 2, 1) := by decide +kernel
theorem dX7_fill_28 : decode cX7_fill 28 = .ok (.invokevirtual 271, 3) := by decide +kernel
theorem dX7_fill_31 : decode cX7_fill 31 = .ok (.ifCond .ne 5, 3) := by decide +kernel
theorem dX7_fill_34 : decode cX7_fill 34 = .ok (.iconst 0, 1) := by decide +kernel
theorem dX7_fill_35 : decode cX7_fill 35 = .ok (.ireturn, 1) := by decide +kernel
theorem dX7_fill_36 : decode cX7_fill 36 = .ok (.aload_n 0, 1) := by decide +kernel
theorem dX7_fill_37 : decode cX7_fill 37 = .ok (.invokevirtual 278, 3) := by decide +kernel
theorem dX7_fill_40 : decode cX7_fill 40 = .ok (.aload_n 0, 1) := by decide +kernel
theorem dX7_fill_41 : decode cX7_fill 41 = .ok (.iload_n 1, 1) := by decide +kernel
theorem dX7_fill_42 : decode cX7_fill 42 = .ok (.bipush 12, 2) := by decide +kernel
theorem dX7_fill_44 : decode cX7_fill 44 = .ok (.ldc 244, 2) := by decide +kernel
theorem dX7_fill_46 : decode cX7_fill 46 = .ok (.aload_n 0, 1) := by decide +kernel
theorem dX7_fill_47 : decode cX7_fill 47 = .ok (.iload_n 1, 1) := by decide +kernel
theorem dX7_fill_48 : decode cX7_fill 48 = .ok (.bipush 12, 2) := by decide +kernel
theorem dX7_fill_50 : decode cX7_fill 50 = .ok (.invokevirtual 81, 3) := by decide +kernel
theorem dX7_fill_53 : decode cX7_fill 53 = .ok (.iload_n 2, 1) := by decide +kernel
theorem dX7_fill_54 : decode cX7_fill 54 = .ok (.iadd, 1) := by decide +kernel
theorem dX7_fill_55 : decode cX7_fill 55 = .ok (.invokestatic 326, 3) := by decide +kernel
theorem dX7_fill_58 : decode cX7_fill 58 = .ok (.invokevirtual 322, 3) := by decide +kernel
theorem dX7_fill_61 : decode cX7_fill 61 = .ok (.aload_n 0, 1) := by decide +kernel
theorem dX7_fill_62 : decode cX7_fill 62 = .ok (.iload_n 1, 1) := by decide +kernel
theorem dX7_fill_63 : decode cX7_fill 63 = .ok (.bipush 12, 2) := by decide +kernel
theorem dX7_fill_65 : decode cX7_fill 65 = .ok (.invokevirtual 81, 3) := by decide +kernel
theorem dX7_fill_68 : decode cX7_fill 68 = .ok (.ireturn, 1) := by decide +kernel
theorem dX7_press_0 : decode cX7_press 0 = .ok (.aload_n 0, 1) := by decide +kernel
theorem dX7_press_1 : decode cX7_press 1 = .ok (.iconst 0, 1) := by decide +kernel
theorem dX7_press_2 : decode cX7_press 2 = .ok (.putfield 47, 3) := by decide +kernel
theorem dX7_press_5 : decode cX7_press 5 = .ok (.aload_n 0, 1) := by decide +kernel
theorem dX7_press_6 : decode cX7_press 6 = .ok (.iload_n 1, 1) := by decide +kernel
theorem dX7_press_7 : decode cX7_press 7 = .ok (.iconst 1, 1) := by decide +kernel
theorem dX7_press_8 : decode cX7_press 8 = .ok (.sipush 1000, 3) := by decide +kernel
theorem dX7_press_11 : decode cX7_press 11 = .ok (.invokestatic 71, 3) := by decide +kernel
theorem dX7_press_14 : decode cX7_press 14 = .ok (.iconst 1, 1) := by decide +kernel
theorem dX7_press_15 : decode cX7_press 15 = .ok (.invokevirtual 271, 3) := by decide +kernel
theorem dX7_press_18 : decode cX7_press 18 = .ok (.ifCond .ne 5, 3) := by decide +kernel
theorem dX7_press_21 : decode cX7_press 21 = .ok (.iconst 0, 1) := by decide +kernel
theorem dX7_press_22 : decode cX7_press 22 = .ok (.ireturn, 1) := by decide +kernel
theorem dX7_press_23 : decode cX7_press 23 = .ok (.aload_n 0, 1) := by decide +kernel
theorem dX7_press_24 : decode cX7_press 24 = .ok (.invokevirtual 319, 3) := by decide +kernel
theorem dX7_press_27 : decode cX7_press 27 = .ok (.istore_n 2, 1) := by decide +kernel
theorem dX7_press_28 : decode cX7_press 28 = .ok (.aload_n 0, 1) := by decide +kernel
theorem dX7_press_29 : decode cX7_press 29 = .ok (.iload_n 2, 1) := by decide +kernel
theorem dX7_press_30 : decode cX7_press 30 = .ok (.iconst (-1), 1) := by decide +kernel
theorem dX7_press_31 : decode cX7_press 31 = .ok (.if_icmp .eq 7, 3) := by decide +kernel
theorem dX7_press_34 : decode cX7_press 34 = .ok (.iconst 1, 1) := by decide +kernel
theorem dX7_press_35 : decode cX7_press 35 = .ok (.goto 4, 3) := by decide +kernel
theorem dX7_press_38 : decode cX7_press 38 = .ok (.iconst 0, 1) := by decide +kernel
theorem dX7_press_39 : decode cX7_press 39 = .ok (.iconst 2, 1) := by decide +kernel
theorem dX7_press_40 : decode cX7_press 40 = .ok (.invokevirtual 271, 3) := by decide +kernel
theorem dX7_press_43 : decode cX7_press 43 = .ok (.ifCond .ne 5, 3) := by decide +kernel
theorem dX7_press_46 : decode cX7_press 46 = .ok (.iconst 0, 1) := by decide +kernel
theorem dX7_press_47 : decode cX7_press 47 = .ok (.ireturn, 1) := by decide +kernel
theorem dX7_press_48 : decode cX7_press 48 = .ok (.iload_n 1, 1) := by decide +kernel
theorem dX7_press_49 : decode cX7_press 49 = .ok (.iload_n 2, 1) := by decide +kernel
theorem dX7_press_50 : decode cX7_press 50 = .ok (.invokestatic 326, 3) := by decide +kernel
theorem dX7_press_53 : decode cX7_press 53 = .ok (.istore_n 3, 1) := by decide +kernel
theorem dX7_press_54 : decode cX7_press 54 = .ok (.aload_n 0, 1) := by decide +kernel
theorem dX7_press_55 : decode cX7_press 55 = .ok (.invokevirtual 278, 3) := by decide +kernel
theorem dX7_press_58 : decode cX7_press 58 = .ok (.iconst 0, 1) := by decide +kernel
theorem dX7_press_59 : decode cX7_press 59 = .ok (.istore 4, 2) := by decide +kernel
theorem dX7_press_61 : decode cX7_press 61 = .ok (.iload 4, 2) := by decide +kernel
theorem dX7_press_63 : decode cX7_press 63 = .ok (.aload_n 0, 1) := by decide +kernel
theorem dX7_press_64 : decode cX7_press 64 = .ok (.invokevirtual 67, 3) := by decide +kernel
theorem dX7_press_67 : decode cX7_press 67 = .ok (.if_icmp .ge 34, 3) := by decide +kernel
theorem dX7_press_70 : decode cX7_press 70 = .ok (.aload_n 0, 1) := by decide +kernel
theorem dX7_press_71 : decode cX7_press 71 = .ok (.iload 4, 2) := by decide +kernel
theorem dX7_press_73 : decode cX7_press 73 = .ok (.bipush 12, 2) := by decide +kernel
theorem dX7_press_75 : decode cX7_press 75 = .ok (.aload_n 0, 1) := by decide +kernel
theorem dX7_press_76 : decode cX7_press 76 = .ok (.iload 4, 2) := by decide +kernel
theorem dX7_press_78 : decode cX7_press 78 = .ok (.bipush 12, 2) := by decide +kernel
theorem dX7_press_80 : decode cX7_press 80 = .ok (.invokevirtual 81, 3) := by decide +kernel
theorem dX7_press_83 : decode cX7_press 83 = .ok (.iload_n 3, 1) := by decide +kernel
theorem dX7_press_84 : decode cX7_press 84 = .ok (.aload_n 0, 1) := by decide +kernel
theorem dX7_press_85 : decode cX7_press 85 = .ok (.iload 4, 2) := by decide +kernel
theorem dX7_press_87 : decode cX7_press 87 = .ok (.invokevirtual 142, 3) := by decide +kernel
theorem dX7_press_90 : decode cX7_press 90 = .ok (.imul, 1) := by decide +kernel
theorem dX7_press_91 : decode cX7_press 91 = .ok (.isub, 1) := by decide +kernel
theorem dX7_press_92 : decode cX7_press 92 = .ok (.invokevirtual 322, 3) := by decide +kernel
theorem dX7_press_95 : decode cX7_press 95 = .ok (.iinc 4 1, 3) := by decide +kernel
theorem dX7_press_98 : decode cX7_press 98 = .ok (.goto (-37), 3) := by decide +kernel
theorem dX7_press_101 : decode cX7_press 101 = .ok (.iload_n 3, 1) := by decide +kernel
theorem dX7_press_102 : decode cX7_press 102 = .ok (.ireturn, 1) := by decide +kernel
theorem dX7_undo_0 : decode cX7_undo 0 = .ok (.aload_n 0, 1) := by decide +kernel
theorem dX7_undo_1 : decode cX7_undo 1 = .ok (.iconst 0, 1) := by decide +kernel
theorem dX7_undo_2 : decode cX7_undo 2 = .ok (.putfield 47, 3) := by decide +kernel
theorem dX7_undo_5 : decode cX7_undo 5 = .ok (.aload_n 0, 1) := by decide +kernel
theorem dX7_undo_6 : decode cX7_undo 6 = .ok (.getfield 60, 3) := by decide +kernel
theorem dX7_undo_9 : decode cX7_undo 9 = .ok (.ifCond .ne 5, 3) := by decide +kernel
theorem dX7_undo_12 : decode cX7_undo 12 = .ok (.iconst (-1), 1) := by decide +kernel
theorem dX7_undo_13 : decode cX7_undo 13 = .ok (.ireturn, 1) := by decide +kernel
theorem dX7_undo_14 : decode cX7_undo 14 = .ok (.aload_n 0, 1) := by decide +kernel
theorem dX7_undo_15 : decode cX7_undo 15 = .ok (.dup, 1) := by decide +kernel
theorem dX7_undo_16 : decode cX7_undo 16 = .ok (.getfield 60, 3) := by decide +kernel
theorem dX7_undo_19 : decode cX7_undo 19 = .ok (.iconst 1, 1) := by decide +kernel
theorem dX7_undo_20 : decode cX7_undo 20 = .ok (.isub, 1) := by decide +kernel
theorem dX7_undo_21 : decode cX7_undo 21 = .ok (.putfield 60, 3) := by decide +kernel
theorem dX7_undo_24 : decode cX7_undo 24 = .ok (.aload_n 0, 1) := by decide +kernel
theorem dX7_undo_25 : decode cX7_undo 25 = .ok (.aload_n 0, 1) := by decide +kernel
theorem dX7_undo_26 : decode cX7_undo 26 = .ok (.getfield 50, 3) := by decide +kernel
theorem dX7_undo_29 : decode cX7_undo 29 = .ok (.bipush 9, 2) := by decide +kernel
theorem dX7_undo_31 : decode cX7_undo 31 = .ok (.iadd, 1) := by decide +kernel
theorem dX7_undo_32 : decode cX7_undo 32 = .ok (.iconst 1, 1) := by decide +kernel
theorem dX7_undo_33 : decode cX7_undo 33 = .ok (.isub, 1) := by decide +kernel
theorem dX7_undo_34 : decode cX7_undo 34 = .ok (.bipush 9, 2) := by decide +kernel
theorem dX7_undo_36 : decode cX7_undo 36 = .ok (.irem, 1) := by decide +kernel
theorem dX7_undo_37 : decode cX7_undo 37 = .ok (.putfield 50, 3) := by decide +kernel
theorem dX7_undo_40 : decode cX7_undo 40 = .ok (.aload_n 0, 1) := by decide +kernel
theorem dX7_undo_41 : decode cX7_undo 41 = .ok (.iconst 0, 1) := by decide +kernel
theorem dX7_undo_42 : decode cX7_undo 42 = .ok (.putfield 63, 3) := by decide +kernel
theorem dX7_undo_45 : decode cX7_undo 45 = .ok (.aload_n 0, 1) := by decide +kernel
theorem dX7_undo_46 : decode cX7_undo 46 = .ok (.getfield 60, 3) := by decide +kernel
theorem dX7_undo_49 : decode cX7_undo 49 = .ok (.ireturn, 1) := by decide +kernel
theorem dX7_joins_0 : decode cX7_joins 0 = .ok (.ldc2_w 329, 3) := by decide +kernel
theorem dX7_joins_3 : decode cX7_joins 3 = .ok (.lload_n 0, 1) := by decide +kernel
theorem dX7_joins_4 : decode cX7_joins 4 = .ok (.lmul, 1) := by decide +kernel
theorem dX7_joins_5 : decode cX7_joins 5 = .ok (.lload_n 2, 1) := by decide +kernel
theorem dX7_joins_6 : decode cX7_joins 6 = .ok (.ladd, 1) := by decide +kernel
theorem dX7_joins_7 : decode cX7_joins 7 = .ok (.lreturn, 1) := by decide +kernel
theorem dX7_checksum_0 : decode cX7_checksum 0 = .ok (.aload_n 0, 1) := by decide +kernel
theorem dX7_checksum_1 : decode cX7_checksum 1 = .ok (.iconst 0, 1) := by decide +kernel
theorem dX7_checksum_2 : decode cX7_checksum 2 = .ok (.putfield 47, 3) := by decide +kernel
theorem dX7_checksum_5 : decode cX7_checksum 5 = .ok (.aload_n 0, 1) := by decide +kernel
theorem dX7_checksum_6 : decode cX7_checksum 6 = .ok (.invokevirtual 136, 3) := by decide +kernel
theorem dX7_checksum_9 : decode cX7_checksum 9 = .ok (.lconst 0, 1) := by decide +kernel
theorem dX7_checksum_10 : decode cX7_checksum 10 = .ok (.lstore_n 1, 1) := by decide +kernel
theorem dX7_checksum_11 : decode cX7_checksum 11 = .ok (.iconst 0, 1) := by decide +kernel
theorem dX7_checksum_12 : decode cX7_checksum 12 = .ok (.istore_n 3, 1) := by decide +kernel
theorem dX7_checksum_13 : decode cX7_checksum 13 = .ok (.iload_n 3, 1) := by decide +kernel
theorem dX7_checksum_14 : decode cX7_checksum 14 = .ok (.bipush 9, 2) := by decide +kernel
theorem dX7_checksum_16 : decode cX7_checksum 16 = .ok (.if_icmp .ge 20, 3) := by decide +kernel
theorem dX7_checksum_19 : decode cX7_checksum 19 = .ok (.lload_n 1, 1) := by decide +kernel
theorem dX7_checksum_20 : decode cX7_checksum 20 = .ok (.aload_n 0, 1) := by decide +kernel
theorem dX7_checksum_21 : decode cX7_checksum 21 = .ok (.iload_n 3, 1) := by decide +kernel
theorem dX7_checksum_22 : decode cX7_checksum 22 = .ok (.invokevirtual 299, 3) := by decide +kernel
theorem dX7_checksum_25 : decode cX7_checksum 25 = .ok (.i2l, 1) := by decide +kernel
theorem dX7_checksum_26 : decode cX7_checksum 26 = .ok (.invokestatic 331, 3) := by decide +kernel
theorem dX7_checksum_29 : decode cX7_checksum 29 = .ok (.lstore_n 1, 1) := by decide +kernel
theorem dX7_checksum_30 : decode cX7_checksum 30 = .ok (.iinc 3 1, 3) := by decide +kernel
theorem dX7_checksum_33 : decode cX7_checksum 33 = .ok (.goto (-20), 3) := by decide +kernel
theorem dX7_checksum_36 : decode cX7_checksum 36 = .ok (.iconst 0, 1) := by decide +kernel
theorem dX7_checksum_37 : decode cX7_checksum 37 = .ok (.istore_n 3, 1) := by decide +kernel
theorem dX7_checksum_38 : decode cX7_checksum 38 = .ok (.iload_n 3, 1) := by decide +kernel
theorem dX7_checksum_39 : decode cX7_checksum 39 = .ok (.aload_n 0, 1) := by decide +kernel
theorem dX7_checksum_40 : decode cX7_checksum 40 = .ok (.invokevirtual 67, 3) := by decide +kernel
theorem dX7_checksum_43 : decode cX7_checksum 43 = .ok (.if_icmp .ge 38, 3) := by decide +kernel
theorem dX7_checksum_46 : decode cX7_checksum 46 = .ok (.iconst 0, 1) := by decide +kernel
theorem dX7_checksum_47 : decode cX7_checksum 47 = .ok (.istore 4, 2) := by decide +kernel
theorem dX7_checksum_49 : decode cX7_checksum 49 = .ok (.iload 4, 2) := by decide +kernel
theorem dX7_checksum_51 : decode cX7_checksum 51 = .ok (.bipush 11, 2) := by decide +kernel
theorem dX7_checksum_53 : decode cX7_checksum 53 = .ok (.if_icmp .ge 22, 3) := by decide +kernel
theorem dX7_checksum_56 : decode cX7_checksum 56 = .ok (.lload_n 1, 1) := by decide +kernel
theorem dX7_checksum_57 : decode cX7_checksum 57 = .ok (.aload_n 0, 1) := by decide +kernel
theorem dX7_checksum_58 : decode cX7_checksum 58 = .ok (.iload_n 3, 1) := by decide +kernel
theorem dX7_checksum_59 : decode cX7_checksum 59 = .ok (.iload 4, 2) := by decide +kernel
theorem dX7_checksum_61 : decode cX7_checksum 61 = .ok (.invokevirtual 305, 3) := by decide +kernel
theorem dX7_checksum_64 : decode cX7_checksum 64 = .ok (.i2l, 1) := by decide +kernel
theorem dX7_checksum_65 : decode cX7_checksum 65 = .ok (.invokestatic 331, 3) := by decide +kernel
theorem dX7_checksum_68 : decode cX7_checksum 68 = .ok (.lstore_n 1, 1) := by decide +kernel
theorem dX7_checksum_69 : decode cX7_checksum 69 = .ok (.iinc 4 1, 3) := by decide +kernel
theorem dX7_checksum_72 : decode cX7_checksum 72 = .ok (.goto (-23), 3) := by decide +kernel
theorem dX7_checksum_75 : decode cX7_checksum 75 = .ok (.iinc 3 1, 3) := by decide +kernel
theorem dX7_checksum_78 : decode cX7_checksum 78 = .ok (.goto (-40), 3) := by decide +kernel
theorem dX7_checksum_81 : decode cX7_checksum 81 = .ok (.iconst 0, 1) := by decide +kernel
theorem dX7_checksum_82 : decode cX7_checksum 82 = .ok (.istore_n 3, 1) := by decide +kernel
theorem dX7_checksum_83 : decode cX7_checksum 83 = .ok (.iload_n 3, 1) := by decide +kernel
theorem dX7_checksum_84 : decode cX7_checksum 84 = .ok (.aload_n 0, 1) := by decide +kernel
theorem dX7_checksum_85 : decode cX7_checksum 85 = .ok (.invokevirtual 78, 3) := by decide +kernel
theorem dX7_checksum_88 : decode cX7_checksum 88 = .ok (.if_icmp .ge 56, 3) := by decide +kernel
theorem dX7_checksum_91 : decode cX7_checksum 91 = .ok (.iconst 0, 1) := by decide +kernel
theorem dX7_checksum_92 : decode cX7_checksum 92 = .ok (.istore 4, 2) := by decide +kernel
theorem dX7_checksum_94 : decode cX7_checksum 94 = .ok (.iload 4, 2) := by decide +kernel
theorem dX7_checksum_96 : decode cX7_checksum 96 = .ok (.aload_n 0, 1) := by decide +kernel
theorem dX7_checksum_97 : decode cX7_checksum 97 = .ok (.invokevirtual 75, 3) := by decide +kernel
theorem dX7_checksum_100 : decode cX7_checksum 100 = .ok (.if_icmp .ge 38, 3) := by decide +kernel
theorem dX7_checksum_103 : decode cX7_checksum 103 = .ok (.lload_n 1, 1) := by decide +kernel
theorem dX7_checksum_104 : decode cX7_checksum 104 = .ok (.aload_n 0, 1) := by decide +kernel
theorem dX7_checksum_105 : decode cX7_checksum 105 = .ok (.iload 4, 2) := by decide +kernel
theorem dX7_checksum_107 : decode cX7_checksum 107 = .ok (.iload_n 3, 1) := by decide +kernel
theorem dX7_checksum_108 : decode cX7_checksum 108 = .ok (.invokevirtual 97, 3) := by decide +kernel
theorem dX7_checksum_111 : decode cX7_checksum 111 = .ok (.i2l, 1) := by decide +kernel
theorem dX7_checksum_112 : decode cX7_checksum 112 = .ok (.invokestatic 331, 3) := by decide +kernel
theorem dX7_checksum_115 : decode cX7_checksum 115 = .ok (.aload_n 0, 1) := by decide +kernel
theorem dX7_checksum_116 : decode cX7_checksum 116 = .ok (.getfield 30, 3) := by decide +kernel
theorem dX7_checksum_119 : decode cX7_checksum 119 = .ok (.bipush 16, 2) := by decide +kernel
theorem dX7_checksum_121 : decode cX7_checksum 121 = .ok (.iload_n 3, 1) := by decide +kernel
theorem dX7_checksum_122 : decode cX7_checksum 122 = .ok (.imul, 1) := by decide +kernel
theorem dX7_checksum_123 : decode cX7_checksum 123 = .ok (.iload 4, 2) := by decide +kernel
theorem dX7_checksum_125 : decode cX7_checksum 125 = .ok (.iadd, 1) := by decide +kernel
theorem dX7_checksum_126 : decode cX7_checksum 126 = .ok (.iaload, 1) := by decide +kernel
theorem dX7_checksum_127 : decode cX7_checksum 127 = .ok (.i2l, 1) := by decide +kernel
theorem dX7_checksum_128 : decode cX7_checksum 128 = .ok (.invokestatic 331, 3) := by decide +kernel
theorem dX7_checksum_131 : decode cX7_checksum 131 = .ok (.lstore_n 1, 1) := by decide +kernel
theorem dX7_checksum_132 : decode cX7_checksum 132 = .ok (.iinc 4 1, 3) := by decide +kernel
theorem dX7_checksum_135 : decode cX7_checksum 135 = .ok (.goto (-41), 3) := by decide +kernel
theorem dX7_checksum_138 : decode cX7_checksum 138 = .ok (.iinc 3 1, 3) := by decide +kernel
theorem dX7_checksum_141 : decode cX7_checksum 141 = .ok (.goto (-58), 3) := by decide +kernel
theorem dX7_checksum_144 : decode cX7_checksum 144 = .ok (.lload_n 1, 1) := by decide +kernel
theorem dX7_checksum_145 : decode cX7_checksum 145 = .ok (.lreturn, 1) := by decide +kernel
theorem dJ6_bitCount_0f7a4_0 : decode cJ6_bitCount_0f7a4 0 = .ok (.iload_n 0, 1) := by decide +kernel
theorem dJ6_bitCount_0f7a4_1 : decode cJ6_bitCount_0f7a4 1 = .ok (.iload_n 0, 1) := by decide +kernel
theorem dJ6_bitCount_0f7a4_2 : decode cJ6_bitCount_0f7a4 2 = .ok (.iconst 1, 1) := by decide +kernel
theorem dJ6_bitCount_0f7a4_3 : decode cJ6_bitCount_0f7a4 3 = .ok (.iushr, 1) := by decide +kernel
theorem dJ6_bitCount_0f7a4_4 : decode cJ6_bitCount_0f7a4 4 = .ok (.ldc_w 265, 3) := by decide +kernel
theorem dJ6_bitCount_0f7a4_7 : decode cJ6_bitCount_0f7a4 7 = .ok (.iand, 1) := by decide +kernel
theorem dJ6_bitCount_0f7a4_8 : decode cJ6_bitCount_0f7a4 8 = .ok (.isub, 1) := by decide +kernel
theorem dJ6_bitCount_0f7a4_9 : decode cJ6_bitCount_0f7a4 9 = .ok (.istore_n 0, 1) := by decide +kernel
theorem dJ6_bitCount_0f7a4_10 : decode cJ6_bitCount_0f7a4 10 = .ok (.iload_n 0, 1) := by decide +kernel
theorem dJ6_bitCount_0f7a4_11 : decode cJ6_bitCount_0f7a4 11 = .ok (.ldc_w 266, 3) := by decide +kernel
theorem dJ6_bitCount_0f7a4_14 : decode cJ6_bitCount_0f7a4 14 = .ok (.iand, 1) := by decide +kernel
theorem dJ6_bitCount_0f7a4_15 : decode cJ6_bitCount_0f7a4 15 = .ok (.iload_n 0, 1) := by decide +kernel
theorem dJ6_bitCount_0f7a4_16 : decode cJ6_bitCount_0f7a4 16 = .ok (.iconst 2, 1) := by decide +kernel
theorem dJ6_bitCount_0f7a4_17 : decode cJ6_bitCount_0f7a4 17 = .ok (.iushr, 1) := by decide +kernel
theorem dJ6_bitCount_0f7a4_18 : decode cJ6_bitCount_0f7a4 18 = .ok (.ldc_w 266, 3) := by decide +kernel
theorem dJ6_bitCount_0f7a4_21 : decode cJ6_bitCount_0f7a4 21 = .ok (.iand, 1) := by decide +kernel
theorem dJ6_bitCount_0f7a4_22 : decode cJ6_bitCount_0f7a4 22 = .ok (.iadd, 1) := by decide +kernel
theorem dJ6_bitCount_0f7a4_23 : decode cJ6_bitCount_0f7a4 23 = .ok (.istore_n 0, 1) := by decide +kernel
theorem dJ6_bitCount_0f7a4_24 : decode cJ6_bitCount_0f7a4 24 = .ok (.iload_n 0, 1) := by decide +kernel
theorem dJ6_bitCount_0f7a4_25 : decode cJ6_bitCount_0f7a4 25 = .ok (.iload_n 0, 1) := by decide +kernel
theorem dJ6_bitCount_0f7a4_26 : decode cJ6_bitCount_0f7a4 26 = .ok (.iconst 4, 1) := by decide +kernel
theorem dJ6_bitCount_0f7a4_27 : decode cJ6_bitCount_0f7a4 27 = .ok (.iushr, 1) := by decide +kernel
theorem dJ6_bitCount_0f7a4_28 : decode cJ6_bitCount_0f7a4 28 = .ok (.iadd, 1) := by decide +kernel
theorem dJ6_bitCount_0f7a4_29 : decode cJ6_bitCount_0f7a4 29 = .ok (.ldc_w 267, 3) := by decide +kernel
theorem dJ6_bitCount_0f7a4_32 : decode cJ6_bitCount_0f7a4 32 = .ok (.iand, 1) := by decide +kernel
theorem dJ6_bitCount_0f7a4_33 : decode cJ6_bitCount_0f7a4 33 = .ok (.istore_n 0, 1) := by decide +kernel
theorem dJ6_bitCount_0f7a4_34 : decode cJ6_bitCount_0f7a4 34 = .ok (.iload_n 0, 1) := by decide +kernel
theorem dJ6_bitCount_0f7a4_35 : decode cJ6_bitCount_0f7a4 35 = .ok (.iload_n 0, 1) := by decide +kernel
theorem dJ6_bitCount_0f7a4_36 : decode cJ6_bitCount_0f7a4 36 = .ok (.bipush 8, 2) := by decide +kernel
theorem dJ6_bitCount_0f7a4_38 : decode cJ6_bitCount_0f7a4 38 = .ok (.iushr, 1) := by decide +kernel
theorem dJ6_bitCount_0f7a4_39 : decode cJ6_bitCount_0f7a4 39 = .ok (.iadd, 1) := by decide +kernel
theorem dJ6_bitCount_0f7a4_40 : decode cJ6_bitCount_0f7a4 40 = .ok (.istore_n 0, 1) := by decide +kernel
theorem dJ6_bitCount_0f7a4_41 : decode cJ6_bitCount_0f7a4 41 = .ok (.iload_n 0, 1) := by decide +kernel
theorem dJ6_bitCount_0f7a4_42 : decode cJ6_bitCount_0f7a4 42 = .ok (.iload_n 0, 1) := by decide +kernel
theorem dJ6_bitCount_0f7a4_43 : decode cJ6_bitCount_0f7a4 43 = .ok (.bipush 16, 2) := by decide +kernel
theorem dJ6_bitCount_0f7a4_45 : decode cJ6_bitCount_0f7a4 45 = .ok (.iushr, 1) := by decide +kernel
theorem dJ6_bitCount_0f7a4_46 : decode cJ6_bitCount_0f7a4 46 = .ok (.iadd, 1) := by decide +kernel
theorem dJ6_bitCount_0f7a4_47 : decode cJ6_bitCount_0f7a4 47 = .ok (.istore_n 0, 1) := by decide +kernel
theorem dJ6_bitCount_0f7a4_48 : decode cJ6_bitCount_0f7a4 48 = .ok (.iload_n 0, 1) := by decide +kernel
theorem dJ6_bitCount_0f7a4_49 : decode cJ6_bitCount_0f7a4 49 = .ok (.bipush 63, 2) := by decide +kernel
theorem dJ6_bitCount_0f7a4_51 : decode cJ6_bitCount_0f7a4 51 = .ok (.iand, 1) := by decide +kernel
theorem dJ6_bitCount_0f7a4_52 : decode cJ6_bitCount_0f7a4 52 = .ok (.ireturn, 1) := by decide +kernel
theorem dJ9_floorMod_7cf53_0 : decode cJ9_floorMod_7cf53 0 = .ok (.iload_n 0, 1) := by decide +kernel
theorem dJ9_floorMod_7cf53_1 : decode cJ9_floorMod_7cf53 1 = .ok (.iload_n 1, 1) := by decide +kernel
theorem dJ9_floorMod_7cf53_2 : decode cJ9_floorMod_7cf53 2 = .ok (.irem, 1) := by decide +kernel
theorem dJ9_floorMod_7cf53_3 : decode cJ9_floorMod_7cf53 3 = .ok (.istore_n 2, 1) := by decide +kernel
theorem dJ9_floorMod_7cf53_4 : decode cJ9_floorMod_7cf53 4 = .ok (.iload_n 0, 1) := by decide +kernel
theorem dJ9_floorMod_7cf53_5 : decode cJ9_floorMod_7cf53 5 = .ok (.iload_n 1, 1) := by decide +kernel
theorem dJ9_floorMod_7cf53_6 : decode cJ9_floorMod_7cf53 6 = .ok (.ixor, 1) := by decide +kernel
theorem dJ9_floorMod_7cf53_7 : decode cJ9_floorMod_7cf53 7 = .ok (.ifCond .ge 11, 3) := by decide +kernel
theorem dJ9_floorMod_7cf53_10 : decode cJ9_floorMod_7cf53 10 = .ok (.iload_n 2, 1) := by decide +kernel
theorem dJ9_floorMod_7cf53_11 : decode cJ9_floorMod_7cf53 11 = .ok (.ifCond .eq 7, 3) := by decide +kernel
theorem dJ9_floorMod_7cf53_14 : decode cJ9_floorMod_7cf53 14 = .ok (.iload_n 2, 1) := by decide +kernel
theorem dJ9_floorMod_7cf53_15 : decode cJ9_floorMod_7cf53 15 = .ok (.iload_n 1, 1) := by decide +kernel
theorem dJ9_floorMod_7cf53_16 : decode cJ9_floorMod_7cf53 16 = .ok (.iadd, 1) := by decide +kernel
theorem dJ9_floorMod_7cf53_17 : decode cJ9_floorMod_7cf53 17 = .ok (.ireturn, 1) := by decide +kernel
theorem dJ9_floorMod_7cf53_18 : decode cJ9_floorMod_7cf53 18 = .ok (.iload_n 2, 1) := by decide +kernel
theorem dJ9_floorMod_7cf53_19 : decode cJ9_floorMod_7cf53 19 = .ok (.ireturn, 1) := by decide +kernel
theorem dJ9_abs_0f7a4_0 : decode cJ9_abs_0f7a4 0 = .ok (.iload_n 0, 1) := by decide +kernel
theorem dJ9_abs_0f7a4_1 : decode cJ9_abs_0f7a4 1 = .ok (.ifCond .ge 8, 3) := by decide +kernel
theorem dJ9_abs_0f7a4_4 : decode cJ9_abs_0f7a4 4 = .ok (.iload_n 0, 1) := by decide +kernel
theorem dJ9_abs_0f7a4_5 : decode cJ9_abs_0f7a4 5 = .ok (.ineg, 1) := by decide +kernel
theorem dJ9_abs_0f7a4_6 : decode cJ9_abs_0f7a4 6 = .ok (.goto 4, 3) := by decide +kernel
theorem dJ9_abs_0f7a4_9 : decode cJ9_abs_0f7a4 9 = .ok (.iload_n 0, 1) := by decide +kernel
theorem dJ9_abs_0f7a4_10 : decode cJ9_abs_0f7a4 10 = .ok (.ireturn, 1) := by decide +kernel
theorem dJ9_max_7cf53_0 : decode cJ9_max_7cf53 0 = .ok (.iload_n 0, 1) := by decide +kernel
theorem dJ9_max_7cf53_1 : decode cJ9_max_7cf53 1 = .ok (.iload_n 1, 1) := by decide +kernel
theorem dJ9_max_7cf53_2 : decode cJ9_max_7cf53 2 = .ok (.if_icmp .lt 7, 3) := by decide +kernel
theorem dJ9_max_7cf53_5 : decode cJ9_max_7cf53 5 = .ok (.iload_n 0, 1) := by decide +kernel
theorem dJ9_max_7cf53_6 : decode cJ9_max_7cf53 6 = .ok (.goto 4, 3) := by decide +kernel
theorem dJ9_max_7cf53_9 : decode cJ9_max_7cf53 9 = .ok (.iload_n 1, 1) := by decide +kernel
theorem dJ9_max_7cf53_10 : decode cJ9_max_7cf53 10 = .ok (.ireturn, 1) := by decide +kernel
theorem dJ9_max_f86c9_0 : decode cJ9_max_f86c9 0 = .ok (.lload_n 0, 1) := by decide +kernel
theorem dJ9_max_f86c9_1 : decode cJ9_max_f86c9 1 = .ok (.lload_n 2, 1) := by decide +kernel
theorem dJ9_max_f86c9_2 : decode cJ9_max_f86c9 2 = .ok (.lcmp, 1) := by decide +kernel
theorem dJ9_max_f86c9_3 : decode cJ9_max_f86c9 3 = .ok (.ifCond .lt 7, 3) := by decide +kernel
theorem dJ9_max_f86c9_6 : decode cJ9_max_f86c9 6 = .ok (.lload_n 0, 1) := by decide +kernel
theorem dJ9_max_f86c9_7 : decode cJ9_max_f86c9 7 = .ok (.goto 4, 3) := by decide +kernel
theorem dJ9_max_f86c9_10 : decode cJ9_max_f86c9 10 = .ok (.lload_n 2, 1) := by decide +kernel
theorem dJ9_max_f86c9_11 : decode cJ9_max_f86c9 11 = .ok (.lreturn, 1) := by decide +kernel
theorem dJ9_max_eb370_0 : decode cJ9_max_eb370 0 = .ok (.dload_n 0, 1) := by decide +kernel
theorem dJ9_max_eb370_1 : decode cJ9_max_eb370 1 = .ok (.dload_n 0, 1) := by decide +kernel
theorem dJ9_max_eb370_2 : decode cJ9_max_eb370 2 = .ok (.dcmp .l, 1) := by decide +kernel
theorem dJ9_max_eb370_3 : decode cJ9_max_eb370 3 = .ok (.ifCond .eq 5, 3) := by decide +kernel
theorem dJ9_max_eb370_6 : decode cJ9_max_eb370 6 = .ok (.dload_n 0, 1) := by decide +kernel
theorem dJ9_max_eb370_7 : decode cJ9_max_eb370 7 = .ok (.dreturn, 1) := by decide +kernel
theorem dJ9_max_eb370_8 : decode cJ9_max_eb370 8 = .ok (.dload_n 0, 1) := by decide +kernel
theorem dJ9_max_eb370_9 : decode cJ9_max_eb370 9 = .ok (.dconst 0, 1) := by decide +kernel
theorem dJ9_max_eb370_10 : decode cJ9_max_eb370 10 = .ok (.dcmp .l, 1) := by decide +kernel
theorem dJ9_max_eb370_11 : decode cJ9_max_eb370 11 = .ok (.ifCond .ne 22, 3) := by decide +kernel
theorem dJ9_max_eb370_14 : decode cJ9_max_eb370 14 = .ok (.dload_n 2, 1) := by decide +kernel
theorem dJ9_max_eb370_15 : decode cJ9_max_eb370 15 = .ok (.dconst 0, 1) := by decide +kernel
theorem dJ9_max_eb370_16 : decode cJ9_max_eb370 16 = .ok (.dcmp .l, 1) := by decide +kernel
theorem dJ9_max_eb370_17 : decode cJ9_max_eb370 17 = .ok (.ifCond .ne 16, 3) := by decide +kernel
theorem dJ9_max_eb370_20 : decode cJ9_max_eb370 20 = .ok (.dload_n 0, 1) := by decide +kernel
theorem dJ9_max_eb370_21 : decode cJ9_max_eb370 21 = .ok (.invokestatic 79, 3) := by decide +kernel
theorem dJ9_max_eb370_24 : decode cJ9_max_eb370 24 = .ok (.getstatic 174, 3) := by decide +kernel
theorem dJ9_max_eb370_27 : decode cJ9_max_eb370 27 = .ok (.lcmp, 1) := by decide +kernel
theorem dJ9_max_eb370_28 : decode cJ9_max_eb370 28 = .ok (.ifCond .ne 5, 3) := by decide +kernel
theorem dJ9_max_eb370_31 : decode cJ9_max_eb370 31 = .ok (.dload_n 2, 1) := by decide +kernel
theorem dJ9_max_eb370_32 : decode cJ9_max_eb370 32 = .ok (.dreturn, 1) := by decide +kernel
theorem dJ9_max_eb370_33 : decode cJ9_max_eb370 33 = .ok (.dload_n 0, 1) := by decide +kernel
theorem dJ9_max_eb370_34 : decode cJ9_max_eb370 34 = .ok (.dload_n 2, 1) := by decide +kernel
theorem dJ9_max_eb370_35 : decode cJ9_max_eb370 35 = .ok (.dcmp .l, 1) := by decide +kernel
theorem dJ9_max_eb370_36 : decode cJ9_max_eb370 36 = .ok (.ifCond .lt 7, 3) := by decide +kernel
theorem dJ9_max_eb370_39 : decode cJ9_max_eb370 39 = .ok (.dload_n 0, 1) := by decide +kernel
theorem dJ9_max_eb370_40 : decode cJ9_max_eb370 40 = .ok (.goto 4, 3) := by decide +kernel
theorem dJ9_max_eb370_43 : decode cJ9_max_eb370 43 = .ok (.dload_n 2, 1) := by decide +kernel
theorem dJ9_max_eb370_44 : decode cJ9_max_eb370 44 = .ok (.dreturn, 1) := by decide +kernel
theorem dJ9_min_7cf53_0 : decode cJ9_min_7cf53 0 = .ok (.iload_n 0, 1) := by decide +kernel
theorem dJ9_min_7cf53_1 : decode cJ9_min_7cf53 1 = .ok (.iload_n 1, 1) := by decide +kernel
theorem dJ9_min_7cf53_2 : decode cJ9_min_7cf53 2 = .ok (.if_icmp .gt 7, 3) := by decide +kernel
theorem dJ9_min_7cf53_5 : decode cJ9_min_7cf53 5 = .ok (.iload_n 0, 1) := by decide +kernel
theorem dJ9_min_7cf53_6 : decode cJ9_min_7cf53 6 = .ok (.goto 4, 3) := by decide +kernel
theorem dJ9_min_7cf53_9 : decode cJ9_min_7cf53 9 = .ok (.iload_n 1, 1) := by decide +kernel
theorem dJ9_min_7cf53_10 : decode cJ9_min_7cf53 10 = .ok (.ireturn, 1) := by decide +kernel
theorem dJ9_min_f86c9_0 : decode cJ9_min_f86c9 0 = .ok (.lload_n 0, 1) := by decide +kernel
theorem dJ9_min_f86c9_1 : decode cJ9_min_f86c9 1 = .ok (.lload_n 2, 1) := by decide +kernel
theorem dJ9_min_f86c9_2 : decode cJ9_min_f86c9 2 = .ok (.lcmp, 1) := by decide +kernel
theorem dJ9_min_f86c9_3 : decode cJ9_min_f86c9 3 = .ok (.ifCond .gt 7, 3) := by decide +kernel
theorem dJ9_min_f86c9_6 : decode cJ9_min_f86c9 6 = .ok (.lload_n 0, 1) := by decide +kernel
theorem dJ9_min_f86c9_7 : decode cJ9_min_f86c9 7 = .ok (.goto 4, 3) := by decide +kernel
theorem dJ9_min_f86c9_10 : decode cJ9_min_f86c9 10 = .ok (.lload_n 2, 1) := by decide +kernel
theorem dJ9_min_f86c9_11 : decode cJ9_min_f86c9 11 = .ok (.lreturn, 1) := by decide +kernel
theorem dJ0_length_8abf5_0 : decode cJ0_length_8abf5 0 = .ok (.aload_n 0, 1) := by decide +kernel
theorem dJ0_length_8abf5_1 : decode cJ0_length_8abf5 1 = .ok (.getfield 9, 3) := by decide +kernel
theorem dJ0_length_8abf5_4 : decode cJ0_length_8abf5 4 = .ok (.arraylength, 1) := by decide +kernel
theorem dJ0_length_8abf5_5 : decode cJ0_length_8abf5 5 = .ok (.aload_n 0, 1) := by decide +kernel
theorem dJ0_length_8abf5_6 : decode cJ0_length_8abf5 6 = .ok (.invokevirtual 335, 3) := by decide +kernel
theorem dJ0_length_8abf5_9 : decode cJ0_length_8abf5 9 = .ok (.ishr, 1) := by decide +kernel
theorem dJ0_length_8abf5_10 : decode cJ0_length_8abf5 10 = .ok (.ireturn, 1) := by decide +kernel
theorem dJ0_charAt_5068e_0 : decode cJ0_charAt_5068e 0 = .ok (.aload_n 0, 1) := by decide +kernel
theorem dJ0_charAt_5068e_1 : decode cJ0_charAt_5068e 1 = .ok (.invokevirtual 492, 3) := by decide +kernel
theorem dJ0_charAt_5068e_4 : decode cJ0_charAt_5068e 4 = .ok (.ifCond .eq 12, 3) := by decide +kernel
theorem dJ0_charAt_5068e_7 : decode cJ0_charAt_5068e 7 = .ok (.aload_n 0, 1) := by decide +kernel
theorem dJ0_charAt_5068e_8 : decode cJ0_charAt_5068e 8 = .ok (.getfield 9, 3) := by decide +kernel
theorem dJ0_charAt_5068e_11 : decode cJ0_charAt_5068e 11 = .ok (.iload_n 1, 1) := by decide +kernel
theorem dJ0_charAt_5068e_12 : decode cJ0_charAt_5068e 12 = .ok (.invokestatic 495, 3) := by decide +kernel
theorem dJ0_charAt_5068e_15 : decode cJ0_charAt_5068e 15 = .ok (.ireturn, 1) := by decide +kernel
theorem dJ0_charAt_5068e_16 : decode cJ0_charAt_5068e 16 = .ok (.aload_n 0, 1) := by decide +kernel
theorem dJ0_charAt_5068e_17 : decode cJ0_charAt_5068e 17 = .ok (.getfield 9, 3) := by decide +kernel
theorem dJ0_charAt_5068e_20 : decode cJ0_charAt_5068e 20 = .ok (.iload_n 1, 1) := by decide +kernel
theorem dJ0_charAt_5068e_21 : decode cJ0_charAt_5068e 21 = .ok (.invokestatic 498, 3) := by decide +kernel
theorem dJ0_charAt_5068e_24 : decode cJ0_charAt_5068e 24 = .ok (.ireturn, 1) := by decide +kernel
theorem dJ0_coder_7d493_0 : decode cJ0_coder_7d493 0 = .ok (.getstatic 38, 3) := by decide +kernel
theorem dJ0_coder_7d493_3 : decode cJ0_coder_7d493 3 = .ok (.ifCond .eq 10, 3) := by decide +kernel
theorem dJ0_coder_7d493_6 : decode cJ0_coder_7d493 6 = .ok (.aload_n 0, 1) := by decide +kernel
theorem dJ0_coder_7d493_7 : decode cJ0_coder_7d493 7 = .ok (.getfield 15, 3) := by decide +kernel
theorem dJ0_coder_7d493_10 : decode cJ0_coder_7d493 10 = .ok (.goto 4, 3) := by decide +kernel
theorem dJ0_coder_7d493_13 : decode cJ0_coder_7d493 13 = .ok (.iconst 1, 1) := by decide +kernel
theorem dJ0_coder_7d493_14 : decode cJ0_coder_7d493 14 = .ok (.ireturn, 1) := by decide +kernel
theorem dJ0_isLatin1_aae02_0 : decode cJ0_isLatin1_aae02 0 = .ok (.getstatic 38, 3) := by decide +kernel
theorem dJ0_isLatin1_aae02_3 : decode cJ0_isLatin1_aae02 3 = .ok (.ifCond .eq 14, 3) := by decide +kernel
theorem dJ0_isLatin1_aae02_6 : decode cJ0_isLatin1_aae02 6 = .ok (.aload_n 0, 1) := by decide +kernel
theorem dJ0_isLatin1_aae02_7 : decode cJ0_isLatin1_aae02 7 = .ok (.getfield 15, 3) := by decide +kernel
theorem dJ0_isLatin1_aae02_10 : decode cJ0_isLatin1_aae02 10 = .ok (.ifCond .ne 7, 3) := by decide +kernel
theorem dJ0_isLatin1_aae02_13 : decode cJ0_isLatin1_aae02 13 = .ok (.iconst 1, 1) := by decide +kernel
theorem dJ0_isLatin1_aae02_14 : decode cJ0_isLatin1_aae02 14 = .ok (.goto 4, 3) := by decide +kernel
theorem dJ0_isLatin1_aae02_17 : decode cJ0_isLatin1_aae02 17 = .ok (.iconst 0, 1) := by decide +kernel
theorem dJ0_isLatin1_aae02_18 : decode cJ0_isLatin1_aae02 18 = .ok (.ireturn, 1) := by decide +kernel
theorem dJ0_checkIndex_df160_0 : decode cJ0_checkIndex_df160 0 = .ok (.iload_n 0, 1) := by decide +kernel
theorem dJ0_checkIndex_df160_1 : decode cJ0_checkIndex_df160 1 = .ok (.iload_n 1, 1) := by decide +kernel
theorem dJ0_checkIndex_df160_2 : decode cJ0_checkIndex_df160 2 = .ok (.getstatic 1053, 3) := by decide +kernel
theorem dJ0_checkIndex_df160_5 : decode cJ0_checkIndex_df160 5 = .ok (.invokestatic 1059, 3) := by decide +kernel
theorem dJ0_checkIndex_df160_8 : decode cJ0_checkIndex_df160 8 = .ok (.pop, 1) := by decide +kernel
theorem dJ0_checkIndex_df160_9 : decode cJ0_checkIndex_df160 9 = .ok (.return_, 1) := by decide +kernel
theorem dJ1_charAt_3b067_0 : decode cJ1_charAt_3b067 0 = .ok (.iload_n 1, 1) := by decide +kernel
theorem dJ1_charAt_3b067_1 : decode cJ1_charAt_3b067 1 = .ok (.aload_n 0, 1) := by decide +kernel
theorem dJ1_charAt_3b067_2 : decode cJ1_charAt_3b067 2 = .ok (.arraylength, 1) := by decide +kernel
theorem dJ1_charAt_3b067_3 : decode cJ1_charAt_3b067 3 = .ok (.invokestatic 9, 3) := by decide +kernel
theorem dJ1_charAt_3b067_6 : decode cJ1_charAt_3b067 6 = .ok (.aload_n 0, 1) := by decide +kernel
theorem dJ1_charAt_3b067_7 : decode cJ1_charAt_3b067 7 = .ok (.iload_n 1, 1) := by decide +kernel
theorem dJ1_charAt_3b067_8 : decode cJ1_charAt_3b067 8 = .ok (.baload, 1) := by decide +kernel
theorem dJ1_charAt_3b067_9 : decode cJ1_charAt_3b067 9 = .ok (.sipush 255, 3) := by decide +kernel
theorem dJ1_charAt_3b067_12 : decode cJ1_charAt_3b067 12 = .ok (.iand, 1) := by decide +kernel
theorem dJ1_charAt_3b067_13 : decode cJ1_charAt_3b067 13 = .ok (.i2c, 1) := by decide +kernel
theorem dJ1_charAt_3b067_14 : decode cJ1_charAt_3b067 14 = .ok (.ireturn, 1) := by decide +kernel
theorem dJ2_getChar_3b067_0 : decode cJ2_getChar_3b067 0 = .ok (.getstatic 44, 3) := by decide +kernel
theorem dJ2_getChar_3b067_3 : decode cJ2_getChar_3b067 3 = .ok (.ifCond .ne 25, 3) := by decide +kernel
theorem dJ2_getChar_3b067_6 : decode cJ2_getChar_3b067 6 = .ok (.iload_n 1, 1) := by decide +kernel
theorem dJ2_getChar_3b067_7 : decode cJ2_getChar_3b067 7 = .ok (.ifCond .lt 11, 3) := by decide +kernel
theorem dJ2_getChar_3b067_10 : decode cJ2_getChar_3b067 10 = .ok (.iload_n 1, 1) := by decide +kernel
theorem dJ2_getChar_3b067_11 : decode cJ2_getChar_3b067 11 = .ok (.aload_n 0, 1) := by decide +kernel
theorem dJ2_getChar_3b067_12 : decode cJ2_getChar_3b067 12 = .ok (.invokestatic 48, 3) := by decide +kernel
theorem dJ2_getChar_3b067_15 : decode cJ2_getChar_3b067 15 = .ok (.if_icmp .lt 13, 3) := by decide +kernel
theorem dJ2_getChar_3b067_18 : decode cJ2_getChar_3b067 18 = .ok (.new 52, 3) := by decide +kernel
theorem dJ2_getChar_3b067_21 : decode cJ2_getChar_3b067 21 = .ok (.dup, 1) := by decide +kernel
theorem dJ2_getChar_3b067_22 : decode cJ2_getChar_3b067 22 = .ok (.ldc 54, 2) := by decide +kernel
theorem dJ2_getChar_3b067_24 : decode cJ2_getChar_3b067 24 = .ok (.invokespecial 56, 3) := by decide +kernel
theorem dJ2_getChar_3b067_27 : decode cJ2_getChar_3b067 27 = .ok (.athrow, 1) := by decide +kernel
theorem dJ2_getChar_3b067_28 : decode cJ2_getChar_3b067 28 = .ok (.iload_n 1, 1) := by decide +kernel
theorem dJ2_getChar_3b067_29 : decode cJ2_getChar_3b067 29 = .ok (.iconst 1, 1) := by decide +kernel
theorem dJ2_getChar_3b067_30 : decode cJ2_getChar_3b067 30 = .ok (.ishl, 1) := by decide +kernel
theorem dJ2_getChar_3b067_31 : decode cJ2_getChar_3b067 31 = .ok (.istore_n 1, 1) := by decide +kernel
theorem dJ2_getChar_3b067_32 : decode cJ2_getChar_3b067 32 = .ok (.aload_n 0, 1) := by decide +kernel
theorem dJ2_getChar_3b067_33 : decode cJ2_getChar_3b067 33 = .ok (.iload_n 1, 1) := by decide +kernel
theorem dJ2_getChar_3b067_34 : decode cJ2_getChar_3b067 34 = .ok (.iinc 1 1, 3) := by decide +kernel
theorem dJ2_getChar_3b067_37 : decode cJ2_getChar_3b067 37 = .ok (.baload, 1) := by decide +kernel
theorem dJ2_getChar_3b067_38 : decode cJ2_getChar_3b067 38 = .ok (.sipush 255, 3) := by decide +kernel
theorem dJ2_getChar_3b067_41 : decode cJ2_getChar_3b067 41 = .ok (.iand, 1) := by decide +kernel
theorem dJ2_getChar_3b067_42 : decode cJ2_getChar_3b067 42 = .ok (.getstatic 59, 3) := by decide +kernel
theorem dJ2_getChar_3b067_45 : decode cJ2_getChar_3b067 45 = .ok (.ishl, 1) := by decide +kernel
theorem dJ2_getChar_3b067_46 : decode cJ2_getChar_3b067 46 = .ok (.aload_n 0, 1) := by decide +kernel
theorem dJ2_getChar_3b067_47 : decode cJ2_getChar_3b067 47 = .ok (.iload_n 1, 1) := by decide +kernel
theorem dJ2_getChar_3b067_48 : decode cJ2_getChar_3b067 48 = .ok (.baload, 1) := by decide +kernel
theorem dJ2_getChar_3b067_49 : decode cJ2_getChar_3b067 49 = .ok (.sipush 255, 3) := by decide +kernel
theorem dJ2_getChar_3b067_52 : decode cJ2_getChar_3b067 52 = .ok (.iand, 1) := by decide +kernel
theorem dJ2_getChar_3b067_53 : decode cJ2_getChar_3b067 53 = .ok (.getstatic 63, 3) := by decide +kernel
theorem dJ2_getChar_3b067_56 : decode cJ2_getChar_3b067 56 = .ok (.ishl, 1) := by decide +kernel
theorem dJ2_getChar_3b067_57 : decode cJ2_getChar_3b067 57 = .ok (.ior, 1) := by decide +kernel
theorem dJ2_getChar_3b067_58 : decode cJ2_getChar_3b067 58 = .ok (.i2c, 1) := by decide +kernel
theorem dJ2_getChar_3b067_59 : decode cJ2_getChar_3b067 59 = .ok (.ireturn, 1) := by decide +kernel
theorem dJ2_length_9d52b_0 : decode cJ2_length_9d52b 0 = .ok (.aload_n 0, 1) := by decide +kernel
theorem dJ2_length_9d52b_1 : decode cJ2_length_9d52b 1 = .ok (.arraylength, 1) := by decide +kernel
theorem dJ2_length_9d52b_2 : decode cJ2_length_9d52b 2 = .ok (.iconst 1, 1) := by decide +kernel
theorem dJ2_length_9d52b_3 : decode cJ2_length_9d52b 3 = .ok (.ishr, 1) := by decide +kernel
theorem dJ2_length_9d52b_4 : decode cJ2_length_9d52b 4 = .ok (.ireturn, 1) := by decide +kernel
theorem dJ2_charAt_3b067_0 : decode cJ2_charAt_3b067 0 = .ok (.iload_n 1, 1) := by decide +kernel
theorem dJ2_charAt_3b067_1 : decode cJ2_charAt_3b067 1 = .ok (.aload_n 0, 1) := by decide +kernel
theorem dJ2_charAt_3b067_2 : decode cJ2_charAt_3b067 2 = .ok (.invokestatic 67, 3) := by decide +kernel
theorem dJ2_charAt_3b067_5 : decode cJ2_charAt_3b067 5 = .ok (.aload_n 0, 1) := by decide +kernel
theorem dJ2_charAt_3b067_6 : decode cJ2_charAt_3b067 6 = .ok (.iload_n 1, 1) := by decide +kernel
theorem dJ2_charAt_3b067_7 : decode cJ2_charAt_3b067 7 = .ok (.invokestatic 71, 3) := by decide +kernel
theorem dJ2_charAt_3b067_10 : decode cJ2_charAt_3b067 10 = .ok (.ireturn, 1) := by decide +kernel
theorem dJ2_checkIndex_2214a_0 : decode cJ2_checkIndex_2214a 0 = .ok (.iload_n 0, 1) := by decide +kernel
theorem dJ2_checkIndex_2214a_1 : decode cJ2_checkIndex_2214a 1 = .ok (.aload_n 1, 1) := by decide +kernel
theorem dJ2_checkIndex_2214a_2 : decode cJ2_checkIndex_2214a 2 = .ok (.invokestatic 48, 3) := by decide +kernel
theorem dJ2_checkIndex_2214a_5 : decode cJ2_checkIndex_2214a 5 = .ok (.invokestatic 414, 3) := by decide +kernel
theorem dJ2_checkIndex_2214a_8 : decode cJ2_checkIndex_2214a 8 = .ok (.return_, 1) := by decide +kernel
theorem dJ7_fill_53178_0 : decode cJ7_fill_53178 0 = .ok (.iconst 0, 1) := by decide +kernel
theorem dJ7_fill_53178_1 : decode cJ7_fill_53178 1 = .ok (.istore_n 2, 1) := by decide +kernel
theorem dJ7_fill_53178_2 : decode cJ7_fill_53178 2 = .ok (.aload_n 0, 1) := by decide +kernel
theorem dJ7_fill_53178_3 : decode cJ7_fill_53178 3 = .ok (.arraylength, 1) := by decide +kernel
theorem dJ7_fill_53178_4 : decode cJ7_fill_53178 4 = .ok (.istore_n 3, 1) := by decide +kernel
theorem dJ7_fill_53178_5 : decode cJ7_fill_53178 5 = .ok (.iload_n 2, 1) := by decide +kernel
theorem dJ7_fill_53178_6 : decode cJ7_fill_53178 6 = .ok (.iload_n 3, 1) := by decide +kernel
theorem dJ7_fill_53178_7 : decode cJ7_fill_53178 7 = .ok (.if_icmp .ge 13, 3) := by decide +kernel
theorem dJ7_fill_53178_10 : decode cJ7_fill_53178 10 = .ok (.aload_n 0, 1) := by decide +kernel
theorem dJ7_fill_53178_11 : decode cJ7_fill_53178 11 = .ok (.iload_n 2, 1) := by decide +kernel
theorem dJ7_fill_53178_12 : decode cJ7_fill_53178 12 = .ok (.iload_n 1, 1) := by decide +kernel
theorem dJ7_fill_53178_13 : decode cJ7_fill_53178 13 = .ok (.iastore, 1) := by decide +kernel
theorem dJ7_fill_53178_14 : decode cJ7_fill_53178 14 = .ok (.iinc 2 1, 3) := by decide +kernel
theorem dJ7_fill_53178_17 : decode cJ7_fill_53178 17 = .ok (.goto (-12), 3) := by decide +kernel
theorem dJ7_fill_53178_20 : decode cJ7_fill_53178 20 = .ok (.return_, 1) := by decide +kernel
theorem dJ7_copyOf_59c91_0 : decode cJ7_copyOf_59c91 0 = .ok (.iload_n 1, 1) := by decide +kernel
theorem dJ7_copyOf_59c91_1 : decode cJ7_copyOf_59c91 1 = .ok (.aload_n 0, 1) := by decide +kernel
theorem dJ7_copyOf_59c91_2 : decode cJ7_copyOf_59c91 2 = .ok (.arraylength, 1) := by decide +kernel
theorem dJ7_copyOf_59c91_3 : decode cJ7_copyOf_59c91 3 = .ok (.if_icmp .ne 11, 3) := by decide +kernel
theorem dJ7_copyOf_59c91_6 : decode cJ7_copyOf_59c91 6 = .ok (.aload_n 0, 1) := by decide +kernel
theorem dJ7_copyOf_59c91_7 : decode cJ7_copyOf_59c91 7 = .ok (.invokevirtual 316, 3) := by decide +kernel
theorem dJ7_copyOf_59c91_10 : decode cJ7_copyOf_59c91 10 = .ok (.checkcast 317, 3) := by decide +kernel
theorem dJ7_copyOf_59c91_13 : decode cJ7_copyOf_59c91 13 = .ok (.areturn, 1) := by decide +kernel
theorem dJ7_copyOf_59c91_14 : decode cJ7_copyOf_59c91 14 = .ok (.iload_n 1, 1) := by decide +kernel
theorem dJ7_copyOf_59c91_15 : decode cJ7_copyOf_59c91 15 = .ok (.newarray .int, 2) := by decide +kernel
theorem dJ7_copyOf_59c91_17 : decode cJ7_copyOf_59c91 17 = .ok (.astore_n 2, 1) := by decide +kernel
theorem dJ7_copyOf_59c91_18 : decode cJ7_copyOf_59c91 18 = .ok (.aload_n 0, 1) := by decide +kernel
theorem dJ7_copyOf_59c91_19 : decode cJ7_copyOf_59c91 19 = .ok (.iconst 0, 1) := by decide +kernel
theorem dJ7_copyOf_59c91_20 : decode cJ7_copyOf_59c91 20 = .ok (.aload_n 2, 1) := by decide +kernel
theorem dJ7_copyOf_59c91_21 : decode cJ7_copyOf_59c91 21 = .ok (.iconst 0, 1) := by decide +kernel
theorem dJ7_copyOf_59c91_22 : decode cJ7_copyOf_59c91 22 = .ok (.aload_n 0, 1) := by decide +kernel
theorem dJ7_copyOf_59c91_23 : decode cJ7_copyOf_59c91 23 = .ok (.arraylength, 1) := by decide +kernel
theorem dJ7_copyOf_59c91_24 : decode cJ7_copyOf_59c91 24 = .ok (.iload_n 1, 1) := by decide +kernel
theorem dJ7_copyOf_59c91_25 : decode cJ7_copyOf_59c91 25 = .ok (.invokestatic 304, 3) := by decide +kernel
theorem dJ7_copyOf_59c91_28 : decode cJ7_copyOf_59c91 28 = .ok (.invokestatic 150, 3) := by decide +kernel
theorem dJ7_copyOf_59c91_31 : decode cJ7_copyOf_59c91 31 = .ok (.aload_n 2, 1) := by decide +kernel
theorem dJ7_copyOf_59c91_32 : decode cJ7_copyOf_59c91 32 = .ok (.areturn, 1) := by decide +kernel
theorem dJ3_checkIndex_8e157_0 : decode cJ3_checkIndex_8e157 0 = .ok (.iload_n 0, 1) := by decide +kernel
theorem dJ3_checkIndex_8e157_1 : decode cJ3_checkIndex_8e157 1 = .ok (.ifCond .lt 8, 3) := by decide +kernel
theorem dJ3_checkIndex_8e157_4 : decode cJ3_checkIndex_8e157 4 = .ok (.iload_n 0, 1) := by decide +kernel
theorem dJ3_checkIndex_8e157_5 : decode cJ3_checkIndex_8e157 5 = .ok (.iload_n 1, 1) := by decide +kernel
theorem dJ3_checkIndex_8e157_6 : decode cJ3_checkIndex_8e157 6 = .ok (.if_icmp .lt 10, 3) := by decide +kernel
theorem dJ3_checkIndex_8e157_9 : decode cJ3_checkIndex_8e157 9 = .ok (.aload_n 2, 1) := by decide +kernel
theorem dJ3_checkIndex_8e157_10 : decode cJ3_checkIndex_8e157 10 = .ok (.iload_n 0, 1) := by decide +kernel
theorem dJ3_checkIndex_8e157_11 : decode cJ3_checkIndex_8e157 11 = .ok (.iload_n 1, 1) := by decide +kernel
theorem dJ3_checkIndex_8e157_12 : decode cJ3_checkIndex_8e157 12 = .ok (.invokestatic 95, 3) := by decide +kernel
theorem dJ3_checkIndex_8e157_15 : decode cJ3_checkIndex_8e157 15 = .ok (.athrow, 1) := by decide +kernel
theorem dJ3_checkIndex_8e157_16 : decode cJ3_checkIndex_8e157 16 = .ok (.iload_n 0, 1) := by decide +kernel
theorem dJ3_checkIndex_8e157_17 : decode cJ3_checkIndex_8e157 17 = .ok (.ireturn, 1) := by decide +kernel
theorem dL_load_0 : decode cL_load 0 = .ok (.aload_n 2, 1) := by decide +kernel
theorem dL_load_1 : decode cL_load 1 = .ok (.iconst 0, 1) := by decide +kernel
theorem dL_load_2 : decode cL_load 2 = .ok (.aload_n 0, 1) := by decide +kernel
theorem dL_load_3 : decode cL_load 3 = .ok (.iload_n 1, 1) := by decide +kernel
theorem dL_load_4 : decode cL_load 4 = .ok (.invokevirtual 7, 3) := by decide +kernel
theorem dL_load_7 : decode cL_load 7 = .ok (.i2l, 1) := by decide +kernel
theorem dL_load_8 : decode cL_load 8 = .ok (.lastore, 1) := by decide +kernel
theorem dL_load_9 : decode cL_load 9 = .ok (.goto 6, 3) := by decide +kernel
theorem dL_load_12 : decode cL_load 12 = .ok (.astore_n 3, 1) := by decide +kernel
theorem dL_load_13 : decode cL_load 13 = .ok (.iconst 1, 1) := by decide +kernel
theorem dL_load_14 : decode cL_load 14 = .ok (.ireturn, 1) := by decide +kernel
theorem dL_load_15 : decode cL_load 15 = .ok (.iconst 0, 1) := by decide +kernel
theorem dL_load_16 : decode cL_load 16 = .ok (.ireturn, 1) := by decide +kernel
theorem dL_state_0 : decode cL_state 0 = .ok (.aload_n 2, 1) := by decide +kernel
theorem dL_state_1 : decode cL_state 1 = .ok (.iconst 0, 1) := by decide +kernel
theorem dL_state_2 : decode cL_state 2 = .ok (.aload_n 0, 1) := by decide +kernel
theorem dL_state_3 : decode cL_state 3 = .ok (.iload_n 1, 1) := by decide +kernel
theorem dL_state_4 : decode cL_state 4 = .ok (.invokevirtual 15, 3) := by decide +kernel
theorem dL_state_7 : decode cL_state 7 = .ok (.i2l, 1) := by decide +kernel
theorem dL_state_8 : decode cL_state 8 = .ok (.lastore, 1) := by decide +kernel
theorem dL_state_9 : decode cL_state 9 = .ok (.goto 6, 3) := by decide +kernel
theorem dL_state_12 : decode cL_state 12 = .ok (.astore_n 3, 1) := by decide +kernel
theorem dL_state_13 : decode cL_state 13 = .ok (.iconst 1, 1) := by decide +kernel
theorem dL_state_14 : decode cL_state 14 = .ok (.ireturn, 1) := by decide +kernel
theorem dL_state_15 : decode cL_state 15 = .ok (.iconst 0, 1) := by decide +kernel
theorem dL_state_16 : decode cL_state 16 = .ok (.ireturn, 1) := by decide +kernel
theorem dL_find_0 : decode cL_find 0 = .ok (.aload_n 2, 1) := by decide +kernel
theorem dL_find_1 : decode cL_find 1 = .ok (.iconst 0, 1) := by decide +kernel
theorem dL_find_2 : decode cL_find 2 = .ok (.aload_n 0, 1) := by decide +kernel
theorem dL_find_3 : decode cL_find 3 = .ok (.iload_n 1, 1) := by decide +kernel
theorem dL_find_4 : decode cL_find 4 = .ok (.invokevirtual 18, 3) := by decide +kernel
theorem dL_find_7 : decode cL_find 7 = .ok (.i2l, 1) := by decide +kernel
theorem dL_find_8 : decode cL_find 8 = .ok (.lastore, 1) := by decide +kernel
theorem dL_find_9 : decode cL_find 9 = .ok (.goto 6, 3) := by decide +kernel
theorem dL_find_12 : decode cL_find 12 = .ok (.astore_n 3, 1) := by decide +kernel
theorem dL_find_13 : decode cL_find 13 = .ok (.iconst 1, 1) := by decide +kernel
theorem dL_find_14 : decode cL_find 14 = .ok (.ireturn, 1) := by decide +kernel
theorem dL_find_15 : decode cL_find 15 = .ok (.iconst 0, 1) := by decide +kernel
theorem dL_find_16 : decode cL_find 16 = .ok (.ireturn, 1) := by decide +kernel
theorem dL_plate_0 : decode cL_plate 0 = .ok (.aload_n 3, 1) := by decide +kernel
theorem dL_plate_1 : decode cL_plate 1 = .ok (.iconst 0, 1) := by decide +kernel
theorem dL_plate_2 : decode cL_plate 2 = .ok (.aload_n 0, 1) := by decide +kernel
theorem dL_plate_3 : decode cL_plate 3 = .ok (.iload_n 1, 1) := by decide +kernel
theorem dL_plate_4 : decode cL_plate 4 = .ok (.iload_n 2, 1) := by decide +kernel
theorem dL_plate_5 : decode cL_plate 5 = .ok (.invokevirtual 21, 3) := by decide +kernel
theorem dL_plate_8 : decode cL_plate 8 = .ok (.i2l, 1) := by decide +kernel
theorem dL_plate_9 : decode cL_plate 9 = .ok (.lastore, 1) := by decide +kernel
theorem dL_plate_10 : decode cL_plate 10 = .ok (.goto 11, 3) := by decide +kernel
theorem dL_plate_13 : decode cL_plate 13 = .ok (.astore 4, 2) := by decide +kernel
theorem dL_plate_15 : decode cL_plate 15 = .ok (.iconst 1, 1) := by decide +kernel
theorem dL_plate_16 : decode cL_plate 16 = .ok (.ireturn, 1) := by decide +kernel
theorem dL_plate_17 : decode cL_plate 17 = .ok (.astore 4, 2) := by decide +kernel
theorem dL_plate_19 : decode cL_plate 19 = .ok (.iconst 2, 1) := by decide +kernel
theorem dL_plate_20 : decode cL_plate 20 = .ok (.ireturn, 1) := by decide +kernel
theorem dL_plate_21 : decode cL_plate 21 = .ok (.iconst 0, 1) := by decide +kernel
theorem dL_plate_22 : decode cL_plate 22 = .ok (.ireturn, 1) := by decide +kernel
theorem dL_cell_0 : decode cL_cell 0 = .ok (.aload 5, 2) := by decide +kernel
theorem dL_cell_2 : decode cL_cell 2 = .ok (.iconst 0, 1) := by decide +kernel
theorem dL_cell_3 : decode cL_cell 3 = .ok (.aload_n 0, 1) := by decide +kernel
theorem dL_cell_4 : decode cL_cell 4 = .ok (.iload_n 1, 1) := by decide +kernel
theorem dL_cell_5 : decode cL_cell 5 = .ok (.iload_n 2, 1) := by decide +kernel
theorem dL_cell_6 : decode cL_cell 6 = .ok (.iload_n 3, 1) := by decide +kernel
theorem dL_cell_7 : decode cL_cell 7 = .ok (.iload 4, 2) := by decide +kernel
theorem dL_cell_9 : decode cL_cell 9 = .ok (.invokevirtual 27, 3) := by decide +kernel
theorem dL_cell_12 : decode cL_cell 12 = .ok (.i2l, 1) := by decide +kernel
theorem dL_cell_13 : decode cL_cell 13 = .ok (.lastore, 1) := by decide +kernel
theorem dL_cell_14 : decode cL_cell 14 = .ok (.goto 11, 3) := by decide +kernel
theorem dL_cell_17 : decode cL_cell 17 = .ok (.astore 6, 2) := by decide +kernel
theorem dL_cell_19 : decode cL_cell 19 = .ok (.iconst 1, 1) := by decide +kernel
theorem dL_cell_20 : decode cL_cell 20 = .ok (.ireturn, 1) := by decide +kernel
theorem dL_cell_21 : decode cL_cell 21 = .ok (.astore 6, 2) := by decide +kernel
theorem dL_cell_23 : decode cL_cell 23 = .ok (.iconst 2, 1) := by decide +kernel
theorem dL_cell_24 : decode cL_cell 24 = .ok (.ireturn, 1) := by decide +kernel
theorem dL_cell_25 : decode cL_cell 25 = .ok (.iconst 0, 1) := by decide +kernel
theorem dL_cell_26 : decode cL_cell 26 = .ok (.ireturn, 1) := by decide +kernel
theorem dL_tone_0 : decode cL_tone 0 = .ok (.aload_n 3, 1) := by decide +kernel
theorem dL_tone_1 : decode cL_tone 1 = .ok (.iconst 0, 1) := by decide +kernel
theorem dL_tone_2 : decode cL_tone 2 = .ok (.aload_n 0, 1) := by decide +kernel
theorem dL_tone_3 : decode cL_tone 3 = .ok (.iload_n 1, 1) := by decide +kernel
theorem dL_tone_4 : decode cL_tone 4 = .ok (.iload_n 2, 1) := by decide +kernel
theorem dL_tone_5 : decode cL_tone 5 = .ok (.invokevirtual 31, 3) := by decide +kernel
theorem dL_tone_8 : decode cL_tone 8 = .ok (.i2l, 1) := by decide +kernel
theorem dL_tone_9 : decode cL_tone 9 = .ok (.lastore, 1) := by decide +kernel
theorem dL_tone_10 : decode cL_tone 10 = .ok (.goto 7, 3) := by decide +kernel
theorem dL_tone_13 : decode cL_tone 13 = .ok (.astore 4, 2) := by decide +kernel
theorem dL_tone_15 : decode cL_tone 15 = .ok (.iconst 1, 1) := by decide +kernel
theorem dL_tone_16 : decode cL_tone 16 = .ok (.ireturn, 1) := by decide +kernel
theorem dL_tone_17 : decode cL_tone 17 = .ok (.iconst 0, 1) := by decide +kernel
theorem dL_tone_18 : decode cL_tone 18 = .ok (.ireturn, 1) := by decide +kernel
theorem dL_inks_0 : decode cL_inks 0 = .ok (.aload_n 3, 1) := by decide +kernel
theorem dL_inks_1 : decode cL_inks 1 = .ok (.iconst 0, 1) := by decide +kernel
theorem dL_inks_2 : decode cL_inks 2 = .ok (.aload_n 0, 1) := by decide +kernel
theorem dL_inks_3 : decode cL_inks 3 = .ok (.iload_n 1, 1) := by decide +kernel
theorem dL_inks_4 : decode cL_inks 4 = .ok (.iload_n 2, 1) := by decide +kernel
theorem dL_inks_5 : decode cL_inks 5 = .ok (.invokevirtual 34, 3) := by decide +kernel
theorem dL_inks_8 : decode cL_inks 8 = .ok (.i2l, 1) := by decide +kernel
theorem dL_inks_9 : decode cL_inks 9 = .ok (.lastore, 1) := by decide +kernel
theorem dL_inks_10 : decode cL_inks 10 = .ok (.goto 7, 3) := by decide +kernel
theorem dL_inks_13 : decode cL_inks 13 = .ok (.astore 4, 2) := by decide +kernel
theorem dL_inks_15 : decode cL_inks 15 = .ok (.iconst 1, 1) := by decide +kernel
theorem dL_inks_16 : decode cL_inks 16 = .ok (.ireturn, 1) := by decide +kernel
theorem dL_inks_17 : decode cL_inks 17 = .ok (.iconst 0, 1) := by decide +kernel
theorem dL_inks_18 : decode cL_inks 18 = .ok (.ireturn, 1) := by decide +kernel
theorem dL_why_0 : decode cL_why 0 = .ok (.aload 4, 2) := by decide +kernel
theorem dL_why_2 : decode cL_why 2 = .ok (.iconst 0, 1) := by decide +kernel
theorem dL_why_3 : decode cL_why 3 = .ok (.aload_n 0, 1) := by decide +kernel
theorem dL_why_4 : decode cL_why 4 = .ok (.iload_n 1, 1) := by decide +kernel
theorem dL_why_5 : decode cL_why 5 = .ok (.iload_n 2, 1) := by decide +kernel
theorem dL_why_6 : decode cL_why 6 = .ok (.iload_n 3, 1) := by decide +kernel
theorem dL_why_7 : decode cL_why 7 = .ok (.invokevirtual 37, 3) := by decide +kernel
theorem dL_why_10 : decode cL_why 10 = .ok (.i2l, 1) := by decide +kernel
theorem dL_why_11 : decode cL_why 11 = .ok (.lastore, 1) := by decide +kernel
theorem dL_why_12 : decode cL_why 12 = .ok (.goto 7, 3) := by decide +kernel
theorem dL_why_15 : decode cL_why 15 = .ok (.astore 5, 2) := by decide +kernel
theorem dL_why_17 : decode cL_why 17 = .ok (.iconst 1, 1) := by decide +kernel
theorem dL_why_18 : decode cL_why 18 = .ok (.ireturn, 1) := by decide +kernel
theorem dL_why_19 : decode cL_why 19 = .ok (.iconst 0, 1) := by decide +kernel
theorem dL_why_20 : decode cL_why 20 = .ok (.ireturn, 1) := by decide +kernel
theorem dL_off_0 : decode cL_off 0 = .ok (.aload_n 3, 1) := by decide +kernel
theorem dL_off_1 : decode cL_off 1 = .ok (.iconst 0, 1) := by decide +kernel
theorem dL_off_2 : decode cL_off 2 = .ok (.aload_n 0, 1) := by decide +kernel
theorem dL_off_3 : decode cL_off 3 = .ok (.iload_n 1, 1) := by decide +kernel
theorem dL_off_4 : decode cL_off 4 = .ok (.iload_n 2, 1) := by decide +kernel
theorem dL_off_5 : decode cL_off 5 = .ok (.invokevirtual 41, 3) := by decide +kernel
theorem dL_off_8 : decode cL_off 8 = .ok (.i2l, 1) := by decide +kernel
theorem dL_off_9 : decode cL_off 9 = .ok (.lastore, 1) := by decide +kernel
theorem dL_off_10 : decode cL_off 10 = .ok (.goto 11, 3) := by decide +kernel
theorem dL_off_13 : decode cL_off 13 = .ok (.astore 4, 2) := by decide +kernel
theorem dL_off_15 : decode cL_off 15 = .ok (.iconst 1, 1) := by decide +kernel
theorem dL_off_16 : decode cL_off 16 = .ok (.ireturn, 1) := by decide +kernel
theorem dL_off_17 : decode cL_off 17 = .ok (.astore 4, 2) := by decide +kernel
theorem dL_off_19 : decode cL_off 19 = .ok (.iconst 2, 1) := by decide +kernel
theorem dL_off_20 : decode cL_off 20 = .ok (.ireturn, 1) := by decide +kernel
theorem dL_off_21 : decode cL_off 21 = .ok (.iconst 0, 1) := by decide +kernel
theorem dL_off_22 : decode cL_off 22 = .ok (.ireturn, 1) := by decide +kernel
theorem dL_covered_0 : decode cL_covered 0 = .ok (.aload_n 2, 1) := by decide +kernel
theorem dL_covered_1 : decode cL_covered 1 = .ok (.iconst 0, 1) := by decide +kernel
theorem dL_covered_2 : decode cL_covered 2 = .ok (.aload_n 0, 1) := by decide +kernel
theorem dL_covered_3 : decode cL_covered 3 = .ok (.iload_n 1, 1) := by decide +kernel
theorem dL_covered_4 : decode cL_covered 4 = .ok (.invokevirtual 46, 3) := by decide +kernel
theorem dL_covered_7 : decode cL_covered 7 = .ok (.f2d, 1) := by decide +kernel
theorem dL_covered_8 : decode cL_covered 8 = .ok (.dastore, 1) := by decide +kernel
theorem dL_covered_9 : decode cL_covered 9 = .ok (.goto 6, 3) := by decide +kernel
theorem dL_covered_12 : decode cL_covered 12 = .ok (.astore_n 3, 1) := by decide +kernel
theorem dL_covered_13 : decode cL_covered 13 = .ok (.iconst 1, 1) := by decide +kernel
theorem dL_covered_14 : decode cL_covered 14 = .ok (.ireturn, 1) := by decide +kernel
theorem dL_covered_15 : decode cL_covered 15 = .ok (.iconst 0, 1) := by decide +kernel
theorem dL_covered_16 : decode cL_covered 16 = .ok (.ireturn, 1) := by decide +kernel
theorem dL_moire_0 : decode cL_moire 0 = .ok (.aload_n 3, 1) := by decide +kernel
theorem dL_moire_1 : decode cL_moire 1 = .ok (.iconst 0, 1) := by decide +kernel
theorem dL_moire_2 : decode cL_moire 2 = .ok (.aload_n 0, 1) := by decide +kernel
theorem dL_moire_3 : decode cL_moire 3 = .ok (.iload_n 1, 1) := by decide +kernel
theorem dL_moire_4 : decode cL_moire 4 = .ok (.iload_n 2, 1) := by decide +kernel
theorem dL_moire_5 : decode cL_moire 5 = .ok (.invokevirtual 50, 3) := by decide +kernel
theorem dL_moire_8 : decode cL_moire 8 = .ok (.dastore, 1) := by decide +kernel
theorem dL_moire_9 : decode cL_moire 9 = .ok (.goto 7, 3) := by decide +kernel
theorem dL_moire_12 : decode cL_moire 12 = .ok (.astore 4, 2) := by decide +kernel
theorem dL_moire_14 : decode cL_moire 14 = .ok (.iconst 1, 1) := by decide +kernel
theorem dL_moire_15 : decode cL_moire 15 = .ok (.ireturn, 1) := by decide +kernel
theorem dL_moire_16 : decode cL_moire 16 = .ok (.iconst 0, 1) := by decide +kernel
theorem dL_moire_17 : decode cL_moire 17 = .ok (.ireturn, 1) := by decide +kernel
theorem dL_bestTurn_0 : decode cL_bestTurn 0 = .ok (.aload_n 2, 1) := by decide +kernel
theorem dL_bestTurn_1 : decode cL_bestTurn 1 = .ok (.iconst 0, 1) := by decide +kernel
theorem dL_bestTurn_2 : decode cL_bestTurn 2 = .ok (.aload_n 0, 1) := by decide +kernel
theorem dL_bestTurn_3 : decode cL_bestTurn 3 = .ok (.iload_n 1, 1) := by decide +kernel
theorem dL_bestTurn_4 : decode cL_bestTurn 4 = .ok (.invokevirtual 54, 3) := by decide +kernel
theorem dL_bestTurn_7 : decode cL_bestTurn 7 = .ok (.i2l, 1) := by decide +kernel
theorem dL_bestTurn_8 : decode cL_bestTurn 8 = .ok (.lastore, 1) := by decide +kernel
theorem dL_bestTurn_9 : decode cL_bestTurn 9 = .ok (.goto 6, 3) := by decide +kernel
theorem dL_bestTurn_12 : decode cL_bestTurn 12 = .ok (.astore_n 3, 1) := by decide +kernel
theorem dL_bestTurn_13 : decode cL_bestTurn 13 = .ok (.iconst 1, 1) := by decide +kernel
theorem dL_bestTurn_14 : decode cL_bestTurn 14 = .ok (.ireturn, 1) := by decide +kernel
theorem dL_bestTurn_15 : decode cL_bestTurn 15 = .ok (.iconst 0, 1) := by decide +kernel
theorem dL_bestTurn_16 : decode cL_bestTurn 16 = .ok (.ireturn, 1) := by decide +kernel
theorem dL_cellsWith_0 : decode cL_cellsWith 0 = .ok (.aload_n 2, 1) := by decide +kernel
theorem dL_cellsWith_1 : decode cL_cellsWith 1 = .ok (.iconst 0, 1) := by decide +kernel
theorem dL_cellsWith_2 : decode cL_cellsWith 2 = .ok (.aload_n 0, 1) := by decide +kernel
theorem dL_cellsWith_3 : decode cL_cellsWith 3 = .ok (.iload_n 1, 1) := by decide +kernel
theorem dL_cellsWith_4 : decode cL_cellsWith 4 = .ok (.invokevirtual 57, 3) := by decide +kernel
theorem dL_cellsWith_7 : decode cL_cellsWith 7 = .ok (.i2l, 1) := by decide +kernel
theorem dL_cellsWith_8 : decode cL_cellsWith 8 = .ok (.lastore, 1) := by decide +kernel
theorem dL_cellsWith_9 : decode cL_cellsWith 9 = .ok (.goto 6, 3) := by decide +kernel
theorem dL_cellsWith_12 : decode cL_cellsWith 12 = .ok (.astore_n 3, 1) := by decide +kernel
theorem dL_cellsWith_13 : decode cL_cellsWith 13 = .ok (.iconst 1, 1) := by decide +kernel
theorem dL_cellsWith_14 : decode cL_cellsWith 14 = .ok (.ireturn, 1) := by decide +kernel
theorem dL_cellsWith_15 : decode cL_cellsWith 15 = .ok (.iconst 0, 1) := by decide +kernel
theorem dL_cellsWith_16 : decode cL_cellsWith 16 = .ok (.ireturn, 1) := by decide +kernel
theorem dL_paint_0 : decode cL_paint 0 = .ok (.aload 6, 2) := by decide +kernel
theorem dL_paint_2 : decode cL_paint 2 = .ok (.iconst 0, 1) := by decide +kernel
theorem dL_paint_3 : decode cL_paint 3 = .ok (.aload_n 0, 1) := by decide +kernel
theorem dL_paint_4 : decode cL_paint 4 = .ok (.iload_n 1, 1) := by decide +kernel
theorem dL_paint_5 : decode cL_paint 5 = .ok (.iload_n 2, 1) := by decide +kernel
theorem dL_paint_6 : decode cL_paint 6 = .ok (.iload_n 3, 1) := by decide +kernel
theorem dL_paint_7 : decode cL_paint 7 = .ok (.iload 4, 2) := by decide +kernel
theorem dL_paint_9 : decode cL_paint 9 = .ok (.iload 5, 2) := by decide +kernel
theorem dL_paint_11 : decode cL_paint 11 = .ok (.invokevirtual 60, 3) := by decide +kernel
theorem dL_paint_14 : decode cL_paint 14 = .ok (.i2l, 1) := by decide +kernel
theorem dL_paint_15 : decode cL_paint 15 = .ok (.lastore, 1) := by decide +kernel
theorem dL_paint_16 : decode cL_paint 16 = .ok (.goto 11, 3) := by decide +kernel
theorem dL_paint_19 : decode cL_paint 19 = .ok (.astore 7, 2) := by decide +kernel
theorem dL_paint_21 : decode cL_paint 21 = .ok (.iconst 1, 1) := by decide +kernel
theorem dL_paint_22 : decode cL_paint 22 = .ok (.ireturn, 1) := by decide +kernel
theorem dL_paint_23 : decode cL_paint 23 = .ok (.astore 7, 2) := by decide +kernel
theorem dL_paint_25 : decode cL_paint 25 = .ok (.iconst 2, 1) := by decide +kernel
theorem dL_paint_26 : decode cL_paint 26 = .ok (.ireturn, 1) := by decide +kernel
theorem dL_paint_27 : decode cL_paint 27 = .ok (.iconst 0, 1) := by decide +kernel
theorem dL_paint_28 : decode cL_paint 28 = .ok (.ireturn, 1) := by decide +kernel
theorem dL_turn_0 : decode cL_turn 0 = .ok (.aload 4, 2) := by decide +kernel
theorem dL_turn_2 : decode cL_turn 2 = .ok (.iconst 0, 1) := by decide +kernel
theorem dL_turn_3 : decode cL_turn 3 = .ok (.aload_n 0, 1) := by decide +kernel
theorem dL_turn_4 : decode cL_turn 4 = .ok (.iload_n 1, 1) := by decide +kernel
theorem dL_turn_5 : decode cL_turn 5 = .ok (.iload_n 2, 1) := by decide +kernel
theorem dL_turn_6 : decode cL_turn 6 = .ok (.iload_n 3, 1) := by decide +kernel
theorem dL_turn_7 : decode cL_turn 7 = .ok (.invokevirtual 64, 3) := by decide +kernel
theorem dL_turn_10 : decode cL_turn 10 = .ok (.i2l, 1) := by decide +kernel
theorem dL_turn_11 : decode cL_turn 11 = .ok (.lastore, 1) := by decide +kernel
theorem dL_turn_12 : decode cL_turn 12 = .ok (.goto 11, 3) := by decide +kernel
theorem dL_turn_15 : decode cL_turn 15 = .ok (.astore 5, 2) := by decide +kernel
theorem dL_turn_17 : decode cL_turn 17 = .ok (.iconst 1, 1) := by decide +kernel
theorem dL_turn_18 : decode cL_turn 18 = .ok (.ireturn, 1) := by decide +kernel
theorem dL_turn_19 : decode cL_turn 19 = .ok (.astore 5, 2) := by decide +kernel
theorem dL_turn_21 : decode cL_turn 21 = .ok (.iconst 2, 1) := by decide +kernel
theorem dL_turn_22 : decode cL_turn 22 = .ok (.ireturn, 1) := by decide +kernel
theorem dL_turn_23 : decode cL_turn 23 = .ok (.iconst 0, 1) := by decide +kernel
theorem dL_turn_24 : decode cL_turn 24 = .ok (.ireturn, 1) := by decide +kernel
theorem dL_shape_0 : decode cL_shape 0 = .ok (.aload_n 3, 1) := by decide +kernel
theorem dL_shape_1 : decode cL_shape 1 = .ok (.iconst 0, 1) := by decide +kernel
theorem dL_shape_2 : decode cL_shape 2 = .ok (.aload_n 0, 1) := by decide +kernel
theorem dL_shape_3 : decode cL_shape 3 = .ok (.iload_n 1, 1) := by decide +kernel
theorem dL_shape_4 : decode cL_shape 4 = .ok (.iload_n 2, 1) := by decide +kernel
theorem dL_shape_5 : decode cL_shape 5 = .ok (.invokevirtual 67, 3) := by decide +kernel
theorem dL_shape_8 : decode cL_shape 8 = .ok (.i2l, 1) := by decide +kernel
theorem dL_shape_9 : decode cL_shape 9 = .ok (.lastore, 1) := by decide +kernel
theorem dL_shape_10 : decode cL_shape 10 = .ok (.goto 11, 3) := by decide +kernel
theorem dL_shape_13 : decode cL_shape 13 = .ok (.astore 4, 2) := by decide +kernel
theorem dL_shape_15 : decode cL_shape 15 = .ok (.iconst 1, 1) := by decide +kernel
theorem dL_shape_16 : decode cL_shape 16 = .ok (.ireturn, 1) := by decide +kernel
theorem dL_shape_17 : decode cL_shape 17 = .ok (.astore 4, 2) := by decide +kernel
theorem dL_shape_19 : decode cL_shape 19 = .ok (.iconst 2, 1) := by decide +kernel
theorem dL_shape_20 : decode cL_shape 20 = .ok (.ireturn, 1) := by decide +kernel
theorem dL_shape_21 : decode cL_shape 21 = .ok (.iconst 0, 1) := by decide +kernel
theorem dL_shape_22 : decode cL_shape 22 = .ok (.ireturn, 1) := by decide +kernel
theorem dL_shift_0 : decode cL_shift 0 = .ok (.aload 4, 2) := by decide +kernel
theorem dL_shift_2 : decode cL_shift 2 = .ok (.iconst 0, 1) := by decide +kernel
theorem dL_shift_3 : decode cL_shift 3 = .ok (.aload_n 0, 1) := by decide +kernel
theorem dL_shift_4 : decode cL_shift 4 = .ok (.iload_n 1, 1) := by decide +kernel
theorem dL_shift_5 : decode cL_shift 5 = .ok (.iload_n 2, 1) := by decide +kernel
theorem dL_shift_6 : decode cL_shift 6 = .ok (.iload_n 3, 1) := by decide +kernel
theorem dL_shift_7 : decode cL_shift 7 = .ok (.invokevirtual 70, 3) := by decide +kernel
theorem dL_shift_10 : decode cL_shift 10 = .ok (.i2l, 1) := by decide +kernel
theorem dL_shift_11 : decode cL_shift 11 = .ok (.lastore, 1) := by decide +kernel
theorem dL_shift_12 : decode cL_shift 12 = .ok (.goto 11, 3) := by decide +kernel
theorem dL_shift_15 : decode cL_shift 15 = .ok (.astore 5, 2) := by decide +kernel
theorem dL_shift_17 : decode cL_shift 17 = .ok (.iconst 1, 1) := by decide +kernel
theorem dL_shift_18 : decode cL_shift 18 = .ok (.ireturn, 1) := by decide +kernel
theorem dL_shift_19 : decode cL_shift 19 = .ok (.astore 5, 2) := by decide +kernel
theorem dL_shift_21 : decode cL_shift 21 = .ok (.iconst 2, 1) := by decide +kernel
theorem dL_shift_22 : decode cL_shift 22 = .ok (.ireturn, 1) := by decide +kernel
theorem dL_shift_23 : decode cL_shift 23 = .ok (.iconst 0, 1) := by decide +kernel
theorem dL_shift_24 : decode cL_shift 24 = .ok (.ireturn, 1) := by decide +kernel
theorem dL_limit_0 : decode cL_limit 0 = .ok (.aload_n 2, 1) := by decide +kernel
theorem dL_limit_1 : decode cL_limit 1 = .ok (.iconst 0, 1) := by decide +kernel
theorem dL_limit_2 : decode cL_limit 2 = .ok (.aload_n 0, 1) := by decide +kernel
theorem dL_limit_3 : decode cL_limit 3 = .ok (.iload_n 1, 1) := by decide +kernel
theorem dL_limit_4 : decode cL_limit 4 = .ok (.invokevirtual 73, 3) := by decide +kernel
theorem dL_limit_7 : decode cL_limit 7 = .ok (.i2l, 1) := by decide +kernel
theorem dL_limit_8 : decode cL_limit 8 = .ok (.lastore, 1) := by decide +kernel
theorem dL_limit_9 : decode cL_limit 9 = .ok (.goto 6, 3) := by decide +kernel
theorem dL_limit_12 : decode cL_limit 12 = .ok (.astore_n 3, 1) := by decide +kernel
theorem dL_limit_13 : decode cL_limit 13 = .ok (.iconst 1, 1) := by decide +kernel
theorem dL_limit_14 : decode cL_limit 14 = .ok (.ireturn, 1) := by decide +kernel
theorem dL_limit_15 : decode cL_limit 15 = .ok (.iconst 0, 1) := by decide +kernel
theorem dL_limit_16 : decode cL_limit 16 = .ok (.ireturn, 1) := by decide +kernel
theorem dL_clean_0 : decode cL_clean 0 = .ok (.aload_n 2, 1) := by decide +kernel
theorem dL_clean_1 : decode cL_clean 1 = .ok (.iconst 0, 1) := by decide +kernel
theorem dL_clean_2 : decode cL_clean 2 = .ok (.aload_n 0, 1) := by decide +kernel
theorem dL_clean_3 : decode cL_clean 3 = .ok (.iload_n 1, 1) := by decide +kernel
theorem dL_clean_4 : decode cL_clean 4 = .ok (.invokevirtual 76, 3) := by decide +kernel
theorem dL_clean_7 : decode cL_clean 7 = .ok (.i2l, 1) := by decide +kernel
theorem dL_clean_8 : decode cL_clean 8 = .ok (.lastore, 1) := by decide +kernel
theorem dL_clean_9 : decode cL_clean 9 = .ok (.goto 6, 3) := by decide +kernel
theorem dL_clean_12 : decode cL_clean 12 = .ok (.astore_n 3, 1) := by decide +kernel
theorem dL_clean_13 : decode cL_clean 13 = .ok (.iconst 1, 1) := by decide +kernel
theorem dL_clean_14 : decode cL_clean 14 = .ok (.ireturn, 1) := by decide +kernel
theorem dL_clean_15 : decode cL_clean 15 = .ok (.iconst 0, 1) := by decide +kernel
theorem dL_clean_16 : decode cL_clean 16 = .ok (.ireturn, 1) := by decide +kernel
theorem dL_dirty_0 : decode cL_dirty 0 = .ok (.aload_n 2, 1) := by decide +kernel
theorem dL_dirty_1 : decode cL_dirty 1 = .ok (.iconst 0, 1) := by decide +kernel
theorem dL_dirty_2 : decode cL_dirty 2 = .ok (.aload_n 0, 1) := by decide +kernel
theorem dL_dirty_3 : decode cL_dirty 3 = .ok (.iload_n 1, 1) := by decide +kernel
theorem dL_dirty_4 : decode cL_dirty 4 = .ok (.invokevirtual 79, 3) := by decide +kernel
theorem dL_dirty_7 : decode cL_dirty 7 = .ok (.i2l, 1) := by decide +kernel
theorem dL_dirty_8 : decode cL_dirty 8 = .ok (.lastore, 1) := by decide +kernel
theorem dL_dirty_9 : decode cL_dirty 9 = .ok (.goto 6, 3) := by decide +kernel
theorem dL_dirty_12 : decode cL_dirty 12 = .ok (.astore_n 3, 1) := by decide +kernel
theorem dL_dirty_13 : decode cL_dirty 13 = .ok (.iconst 1, 1) := by decide +kernel
theorem dL_dirty_14 : decode cL_dirty 14 = .ok (.ireturn, 1) := by decide +kernel
theorem dL_dirty_15 : decode cL_dirty 15 = .ok (.iconst 0, 1) := by decide +kernel
theorem dL_dirty_16 : decode cL_dirty 16 = .ok (.ireturn, 1) := by decide +kernel
theorem dL_fill_0 : decode cL_fill 0 = .ok (.aload_n 3, 1) := by decide +kernel
theorem dL_fill_1 : decode cL_fill 1 = .ok (.iconst 0, 1) := by decide +kernel
theorem dL_fill_2 : decode cL_fill 2 = .ok (.aload_n 0, 1) := by decide +kernel
theorem dL_fill_3 : decode cL_fill 3 = .ok (.iload_n 1, 1) := by decide +kernel
theorem dL_fill_4 : decode cL_fill 4 = .ok (.iload_n 2, 1) := by decide +kernel
theorem dL_fill_5 : decode cL_fill 5 = .ok (.invokevirtual 82, 3) := by decide +kernel
theorem dL_fill_8 : decode cL_fill 8 = .ok (.i2l, 1) := by decide +kernel
theorem dL_fill_9 : decode cL_fill 9 = .ok (.lastore, 1) := by decide +kernel
theorem dL_fill_10 : decode cL_fill 10 = .ok (.goto 11, 3) := by decide +kernel
theorem dL_fill_13 : decode cL_fill 13 = .ok (.astore 4, 2) := by decide +kernel
theorem dL_fill_15 : decode cL_fill 15 = .ok (.iconst 1, 1) := by decide +kernel
theorem dL_fill_16 : decode cL_fill 16 = .ok (.ireturn, 1) := by decide +kernel
theorem dL_fill_17 : decode cL_fill 17 = .ok (.astore 4, 2) := by decide +kernel
theorem dL_fill_19 : decode cL_fill 19 = .ok (.iconst 2, 1) := by decide +kernel
theorem dL_fill_20 : decode cL_fill 20 = .ok (.ireturn, 1) := by decide +kernel
theorem dL_fill_21 : decode cL_fill 21 = .ok (.iconst 0, 1) := by decide +kernel
theorem dL_fill_22 : decode cL_fill 22 = .ok (.ireturn, 1) := by decide +kernel
theorem dL_press_0 : decode cL_press 0 = .ok (.aload_n 2, 1) := by decide +kernel
theorem dL_press_1 : decode cL_press 1 = .ok (.iconst 0, 1) := by decide +kernel
theorem dL_press_2 : decode cL_press 2 = .ok (.aload_n 0, 1) := by decide +kernel
theorem dL_press_3 : decode cL_press 3 = .ok (.iload_n 1, 1) := by decide +kernel
theorem dL_press_4 : decode cL_press 4 = .ok (.invokevirtual 85, 3) := by decide +kernel
theorem dL_press_7 : decode cL_press 7 = .ok (.i2l, 1) := by decide +kernel
theorem dL_press_8 : decode cL_press 8 = .ok (.lastore, 1) := by decide +kernel
theorem dL_press_9 : decode cL_press 9 = .ok (.goto 9, 3) := by decide +kernel
theorem dL_press_12 : decode cL_press 12 = .ok (.astore_n 3, 1) := by decide +kernel
theorem dL_press_13 : decode cL_press 13 = .ok (.iconst 1, 1) := by decide +kernel
theorem dL_press_14 : decode cL_press 14 = .ok (.ireturn, 1) := by decide +kernel
theorem dL_press_15 : decode cL_press 15 = .ok (.astore_n 3, 1) := by decide +kernel
theorem dL_press_16 : decode cL_press 16 = .ok (.iconst 2, 1) := by decide +kernel
theorem dL_press_17 : decode cL_press 17 = .ok (.ireturn, 1) := by decide +kernel
theorem dL_press_18 : decode cL_press 18 = .ok (.iconst 0, 1) := by decide +kernel
theorem dL_press_19 : decode cL_press 19 = .ok (.ireturn, 1) := by decide +kernel
theorem dL_law_0 : decode cL_law 0 = .ok (.new 8, 3) := by decide +kernel
theorem dL_law_3 : decode cL_law 3 = .ok (.dup, 1) := by decide +kernel
theorem dL_law_4 : decode cL_law 4 = .ok (.invokespecial 90, 3) := by decide +kernel
theorem dL_law_7 : decode cL_law 7 = .ok (.astore_n 1, 1) := by decide +kernel
theorem dL_law_8 : decode cL_law 8 = .ok (.new 91, 3) := by decide +kernel
theorem dL_law_11 : decode cL_law 11 = .ok (.dup, 1) := by decide +kernel
theorem dL_law_12 : decode cL_law 12 = .ok (.invokespecial 93, 3) := by decide +kernel
theorem dL_law_15 : decode cL_law 15 = .ok (.astore_n 2, 1) := by decide +kernel
theorem dL_law_16 : decode cL_law 16 = .ok (.iconst 1, 1) := by decide +kernel
theorem dL_law_17 : decode cL_law 17 = .ok (.newarray .long, 2) := by decide +kernel
theorem dL_law_19 : decode cL_law 19 = .ok (.astore_n 3, 1) := by decide +kernel
theorem dL_law_20 : decode cL_law 20 = .ok (.iconst 1, 1) := by decide +kernel
theorem dL_law_21 : decode cL_law 21 = .ok (.newarray .double, 2) := by decide +kernel
theorem dL_law_23 : decode cL_law 23 = .ok (.astore 4, 2) := by decide +kernel
theorem dL_law_25 : decode cL_law 25 = .ok (.iconst 0, 1) := by decide +kernel
theorem dL_law_26 : decode cL_law 26 = .ok (.istore 5, 2) := by decide +kernel
theorem dL_law_28 : decode cL_law 28 = .ok (.iload 5, 2) := by decide +kernel
theorem dL_law_30 : decode cL_law 30 = .ok (.aload_n 0, 1) := by decide +kernel
theorem dL_law_31 : decode cL_law 31 = .ok (.arraylength, 1) := by decide +kernel
theorem dL_law_32 : decode cL_law 32 = .ok (.bipush 6, 2) := by decide +kernel
theorem dL_law_34 : decode cL_law 34 = .ok (.isub, 1) := by decide +kernel
theorem dL_law_35 : decode cL_law 35 = .ok (.if_icmp .gt 1825, 3) := by decide +kernel
theorem dL_law_38 : decode cL_law 38 = .ok (.aload_n 0, 1) := by decide +kernel
theorem dL_law_39 : decode cL_law 39 = .ok (.iload 5, 2) := by decide +kernel
theorem dL_law_41 : decode cL_law 41 = .ok (.iaload, 1) := by decide +kernel
theorem dL_law_42 : decode cL_law 42 = .ok (.bipush 31, 2) := by decide +kernel
theorem dL_law_44 : decode cL_law 44 = .ok (.iand, 1) := by decide +kernel
theorem dL_law_45 : decode cL_law 45 = .ok (.tableswitch 1809 0 27 #[127, 200, 256, 269, 325, 381, 449, 541, 609, 677, 757, 825, 903, 992, 1033, 1089, 1102, 1158, 1262, 1342, 1410, 1490, 1546, 1602, 1658, 1726, 1782, 1795], 127) := by decide +kernel
theorem dL_law_172 : decode cL_law 172 = .ok (.aload_n 1, 1) := by decide +kernel
theorem dL_law_173 : decode cL_law 173 = .ok (.aload_n 0, 1) := by decide +kernel
theorem dL_law_174 : decode cL_law 174 = .ok (.iload 5, 2) := by decide +kernel
theorem dL_law_176 : decode cL_law 176 = .ok (.iconst 1, 1) := by decide +kernel
theorem dL_law_177 : decode cL_law 177 = .ok (.iadd, 1) := by decide +kernel
theorem dL_law_178 : decode cL_law 178 = .ok (.iaload, 1) := by decide +kernel
theorem dL_law_179 : decode cL_law 179 = .ok (.aload_n 0, 1) := by decide +kernel
theorem dL_law_180 : decode cL_law 180 = .ok (.iload 5, 2) := by decide +kernel
theorem dL_law_182 : decode cL_law 182 = .ok (.iconst 2, 1) := by decide +kernel
theorem dL_law_183 : decode cL_law 183 = .ok (.iadd, 1) := by decide +kernel
theorem dL_law_184 : decode cL_law 184 = .ok (.iaload, 1) := by decide +kernel
theorem dL_law_185 : decode cL_law 185 = .ok (.aload_n 0, 1) := by decide +kernel
theorem dL_law_186 : decode cL_law 186 = .ok (.iload 5, 2) := by decide +kernel
theorem dL_law_188 : decode cL_law 188 = .ok (.iconst 3, 1) := by decide +kernel
theorem dL_law_189 : decode cL_law 189 = .ok (.iadd, 1) := by decide +kernel
theorem dL_law_190 : decode cL_law 190 = .ok (.iaload, 1) := by decide +kernel
theorem dL_law_191 : decode cL_law 191 = .ok (.aload_n 0, 1) := by decide +kernel
theorem dL_law_192 : decode cL_law 192 = .ok (.iload 5, 2) := by decide +kernel
theorem dL_law_194 : decode cL_law 194 = .ok (.iconst 4, 1) := by decide +kernel
theorem dL_law_195 : decode cL_law 195 = .ok (.iadd, 1) := by decide +kernel
theorem dL_law_196 : decode cL_law 196 = .ok (.iaload, 1) := by decide +kernel
theorem dL_law_197 : decode cL_law 197 = .ok (.aload_n 0, 1) := by decide +kernel
theorem dL_law_198 : decode cL_law 198 = .ok (.iload 5, 2) := by decide +kernel
theorem dL_law_200 : decode cL_law 200 = .ok (.iconst 5, 1) := by decide +kernel
theorem dL_law_201 : decode cL_law 201 = .ok (.iadd, 1) := by decide +kernel
theorem dL_law_202 : decode cL_law 202 = .ok (.iaload, 1) := by decide +kernel
theorem dL_law_203 : decode cL_law 203 = .ok (.invokevirtual 94, 3) := by decide +kernel
theorem dL_law_206 : decode cL_law 206 = .ok (.aload_n 2, 1) := by decide +kernel
theorem dL_law_207 : decode cL_law 207 = .ok (.aload_n 0, 1) := by decide +kernel
theorem dL_law_208 : decode cL_law 208 = .ok (.iload 5, 2) := by decide +kernel
theorem dL_law_210 : decode cL_law 210 = .ok (.iconst 1, 1) := by decide +kernel
theorem dL_law_211 : decode cL_law 211 = .ok (.iadd, 1) := by decide +kernel
theorem dL_law_212 : decode cL_law 212 = .ok (.iaload, 1) := by decide +kernel
theorem dL_law_213 : decode cL_law 213 = .ok (.aload_n 0, 1) := by decide +kernel
theorem dL_law_214 : decode cL_law 214 = .ok (.iload 5, 2) := by decide +kernel
theorem dL_law_216 : decode cL_law 216 = .ok (.iconst 2, 1) := by decide +kernel
theorem dL_law_217 : decode cL_law 217 = .ok (.iadd, 1) := by decide +kernel
theorem dL_law_218 : decode cL_law 218 = .ok (.iaload, 1) := by decide +kernel
theorem dL_law_219 : decode cL_law 219 = .ok (.aload_n 0, 1) := by decide +kernel
theorem dL_law_220 : decode cL_law 220 = .ok (.iload 5, 2) := by decide +kernel
theorem dL_law_222 : decode cL_law 222 = .ok (.iconst 3, 1) := by decide +kernel
theorem dL_law_223 : decode cL_law 223 = .ok (.iadd, 1) := by decide +kernel
theorem dL_law_224 : decode cL_law 224 = .ok (.iaload, 1) := by decide +kernel
theorem dL_law_225 : decode cL_law 225 = .ok (.aload_n 0, 1) := by decide +kernel
theorem dL_law_226 : decode cL_law 226 = .ok (.iload 5, 2) := by decide +kernel
theorem dL_law_228 : decode cL_law 228 = .ok (.iconst 4, 1) := by decide +kernel
theorem dL_law_229 : decode cL_law 229 = .ok (.iadd, 1) := by decide +kernel
theorem dL_law_230 : decode cL_law 230 = .ok (.iaload, 1) := by decide +kernel
theorem dL_law_231 : decode cL_law 231 = .ok (.aload_n 0, 1) := by decide +kernel
theorem dL_law_232 : decode cL_law 232 = .ok (.iload 5, 2) := by decide +kernel
theorem dL_law_234 : decode cL_law 234 = .ok (.iconst 5, 1) := by decide +kernel
theorem dL_law_235 : decode cL_law 235 = .ok (.iadd, 1) := by decide +kernel
theorem dL_law_236 : decode cL_law 236 = .ok (.iaload, 1) := by decide +kernel
theorem dL_law_237 : decode cL_law 237 = .ok (.invokevirtual 97, 3) := by decide +kernel
theorem dL_law_240 : decode cL_law 240 = .ok (.if_icmp .eq 1614, 3) := by decide +kernel
theorem dL_law_243 : decode cL_law 243 = .ok (.iconst 0, 1) := by decide +kernel
theorem dL_law_244 : decode cL_law 244 = .ok (.ireturn, 1) := by decide +kernel
theorem dL_law_245 : decode cL_law 245 = .ok (.aload_n 1, 1) := by decide +kernel
theorem dL_law_246 : decode cL_law 246 = .ok (.aload_n 0, 1) := by decide +kernel
theorem dL_law_247 : decode cL_law 247 = .ok (.iload 5, 2) := by decide +kernel
theorem dL_law_249 : decode cL_law 249 = .ok (.iconst 1, 1) := by decide +kernel
theorem dL_law_250 : decode cL_law 250 = .ok (.iadd, 1) := by decide +kernel
theorem dL_law_251 : decode cL_law 251 = .ok (.iaload, 1) := by decide +kernel
theorem dL_law_252 : decode cL_law 252 = .ok (.aload_n 3, 1) := by decide +kernel
theorem dL_law_253 : decode cL_law 253 = .ok (.invokestatic 98, 3) := by decide +kernel
theorem dL_law_256 : decode cL_law 256 = .ok (.istore 6, 2) := by decide +kernel
theorem dL_law_258 : decode cL_law 258 = .ok (.aload_n 2, 1) := by decide +kernel
theorem dL_law_259 : decode cL_law 259 = .ok (.aload_n 0, 1) := by decide +kernel
theorem dL_law_260 : decode cL_law 260 = .ok (.iload 5, 2) := by decide +kernel
theorem dL_law_262 : decode cL_law 262 = .ok (.iconst 1, 1) := by decide +kernel
theorem dL_law_263 : decode cL_law 263 = .ok (.iadd, 1) := by decide +kernel
theorem dL_law_264 : decode cL_law 264 = .ok (.iaload, 1) := by decide +kernel
theorem dL_law_265 : decode cL_law 265 = .ok (.invokevirtual 103, 3) := by decide +kernel
theorem dL_law_268 : decode cL_law 268 = .ok (.istore 7, 2) := by decide +kernel
theorem dL_law_270 : decode cL_law 270 = .ok (.aload_n 2, 1) := by decide +kernel
theorem dL_law_271 : decode cL_law 271 = .ok (.invokevirtual 104, 3) := by decide +kernel
theorem dL_law_274 : decode cL_law 274 = .ok (.iload 6, 2) := by decide +kernel
theorem dL_law_276 : decode cL_law 276 = .ok (.if_icmp .eq 5, 3) := by decide +kernel
theorem dL_law_279 : decode cL_law 279 = .ok (.iconst 0, 1) := by decide +kernel
theorem dL_law_280 : decode cL_law 280 = .ok (.ireturn, 1) := by decide +kernel
theorem dL_law_281 : decode cL_law 281 = .ok (.iload 6, 2) := by decide +kernel
theorem dL_law_283 : decode cL_law 283 = .ok (.ifCond .ne 15, 3) := by decide +kernel
theorem dL_law_286 : decode cL_law 286 = .ok (.aload_n 3, 1) := by decide +kernel
theorem dL_law_287 : decode cL_law 287 = .ok (.iconst 0, 1) := by decide +kernel
theorem dL_law_288 : decode cL_law 288 = .ok (.laload, 1) := by decide +kernel
theorem dL_law_289 : decode cL_law 289 = .ok (.iload 7, 2) := by decide +kernel
theorem dL_law_291 : decode cL_law 291 = .ok (.i2l, 1) := by decide +kernel
theorem dL_law_292 : decode cL_law 292 = .ok (.lcmp, 1) := by decide +kernel
theorem dL_law_293 : decode cL_law 293 = .ok (.ifCond .eq 5, 3) := by decide +kernel
theorem dL_law_296 : decode cL_law 296 = .ok (.iconst 0, 1) := by decide +kernel
theorem dL_law_297 : decode cL_law 297 = .ok (.ireturn, 1) := by decide +kernel
theorem dL_law_298 : decode cL_law 298 = .ok (.goto 1556, 3) := by decide +kernel
theorem dL_law_301 : decode cL_law 301 = .ok (.aload_n 1, 1) := by decide +kernel
theorem dL_law_302 : decode cL_law 302 = .ok (.invokevirtual 108, 3) := by decide +kernel
theorem dL_law_305 : decode cL_law 305 = .ok (.aload_n 2, 1) := by decide +kernel
theorem dL_law_306 : decode cL_law 306 = .ok (.invokevirtual 111, 3) := by decide +kernel
theorem dL_law_309 : decode cL_law 309 = .ok (.if_icmp .eq 1545, 3) := by decide +kernel
theorem dL_law_312 : decode cL_law 312 = .ok (.iconst 0, 1) := by decide +kernel
theorem dL_law_313 : decode cL_law 313 = .ok (.ireturn, 1) := by decide +kernel
theorem dL_law_314 : decode cL_law 314 = .ok (.aload_n 1, 1) := by decide +kernel
theorem dL_law_315 : decode cL_law 315 = .ok (.aload_n 0, 1) := by decide +kernel
theorem dL_law_316 : decode cL_law 316 = .ok (.iload 5, 2) := by decide +kernel
theorem dL_law_318 : decode cL_law 318 = .ok (.iconst 1, 1) := by decide +kernel
theorem dL_law_319 : decode cL_law 319 = .ok (.iadd, 1) := by decide +kernel
theorem dL_law_320 : decode cL_law 320 = .ok (.iaload, 1) := by decide +kernel
theorem dL_law_321 : decode cL_law 321 = .ok (.aload_n 3, 1) := by decide +kernel
theorem dL_law_322 : decode cL_law 322 = .ok (.invokestatic 112, 3) := by decide +kernel
theorem dL_law_325 : decode cL_law 325 = .ok (.istore 6, 2) := by decide +kernel
theorem dL_law_327 : decode cL_law 327 = .ok (.aload_n 2, 1) := by decide +kernel
theorem dL_law_328 : decode cL_law 328 = .ok (.aload_n 0, 1) := by decide +kernel
theorem dL_law_329 : decode cL_law 329 = .ok (.iload 5, 2) := by decide +kernel
theorem dL_law_331 : decode cL_law 331 = .ok (.iconst 1, 1) := by decide +kernel
theorem dL_law_332 : decode cL_law 332 = .ok (.iadd, 1) := by decide +kernel
theorem dL_law_333 : decode cL_law 333 = .ok (.iaload, 1) := by decide +kernel
theorem dL_law_334 : decode cL_law 334 = .ok (.invokevirtual 114, 3) := by decide +kernel
theorem dL_law_337 : decode cL_law 337 = .ok (.istore 7, 2) := by decide +kernel
theorem dL_law_339 : decode cL_law 339 = .ok (.aload_n 2, 1) := by decide +kernel
theorem dL_law_340 : decode cL_law 340 = .ok (.invokevirtual 104, 3) := by decide +kernel
theorem dL_law_343 : decode cL_law 343 = .ok (.iload 6, 2) := by decide +kernel
theorem dL_law_345 : decode cL_law 345 = .ok (.if_icmp .eq 5, 3) := by decide +kernel
theorem dL_law_348 : decode cL_law 348 = .ok (.iconst 0, 1) := by decide +kernel
theorem dL_law_349 : decode cL_law 349 = .ok (.ireturn, 1) := by decide +kernel
theorem dL_law_350 : decode cL_law 350 = .ok (.iload 6, 2) := by decide +kernel
theorem dL_law_352 : decode cL_law 352 = .ok (.ifCond .ne 15, 3) := by decide +kernel
theorem dL_law_355 : decode cL_law 355 = .ok (.aload_n 3, 1) := by decide +kernel
theorem dL_law_356 : decode cL_law 356 = .ok (.iconst 0, 1) := by decide +kernel
theorem dL_law_357 : decode cL_law 357 = .ok (.laload, 1) := by decide +kernel
theorem dL_law_358 : decode cL_law 358 = .ok (.iload 7, 2) := by decide +kernel
theorem dL_law_360 : decode cL_law 360 = .ok (.i2l, 1) := by decide +kernel
theorem dL_law_361 : decode cL_law 361 = .ok (.lcmp, 1) := by decide +kernel
theorem dL_law_362 : decode cL_law 362 = .ok (.ifCond .eq 5, 3) := by decide +kernel
theorem dL_law_365 : decode cL_law 365 = .ok (.iconst 0, 1) := by decide +kernel
theorem dL_law_366 : decode cL_law 366 = .ok (.ireturn, 1) := by decide +kernel
theorem dL_law_367 : decode cL_law 367 = .ok (.goto 1487, 3) := by decide +kernel
theorem dL_law_370 : decode cL_law 370 = .ok (.aload_n 1, 1) := by decide +kernel
theorem dL_law_371 : decode cL_law 371 = .ok (.aload_n 0, 1) := by decide +kernel
theorem dL_law_372 : decode cL_law 372 = .ok (.iload 5, 2) := by decide +kernel
theorem dL_law_374 : decode cL_law 374 = .ok (.iconst 1, 1) := by decide +kernel
theorem dL_law_375 : decode cL_law 375 = .ok (.iadd, 1) := by decide +kernel
theorem dL_law_376 : decode cL_law 376 = .ok (.iaload, 1) := by decide +kernel
theorem dL_law_377 : decode cL_law 377 = .ok (.aload_n 3, 1) := by decide +kernel
theorem dL_law_378 : decode cL_law 378 = .ok (.invokestatic 115, 3) := by decide +kernel
theorem dL_law_381 : decode cL_law 381 = .ok (.istore 6, 2) := by decide +kernel
theorem dL_law_383 : decode cL_law 383 = .ok (.aload_n 2, 1) := by decide +kernel
theorem dL_law_384 : decode cL_law 384 = .ok (.aload_n 0, 1) := by decide +kernel
theorem dL_law_385 : decode cL_law 385 = .ok (.iload 5, 2) := by decide +kernel
theorem dL_law_387 : decode cL_law 387 = .ok (.iconst 1, 1) := by decide +kernel
theorem dL_law_388 : decode cL_law 388 = .ok (.iadd, 1) := by decide +kernel
theorem dL_law_389 : decode cL_law 389 = .ok (.iaload, 1) := by decide +kernel
theorem dL_law_390 : decode cL_law 390 = .ok (.invokevirtual 117, 3) := by decide +kernel
theorem dL_law_393 : decode cL_law 393 = .ok (.istore 7, 2) := by decide +kernel
theorem dL_law_395 : decode cL_law 395 = .ok (.aload_n 2, 1) := by decide +kernel
theorem dL_law_396 : decode cL_law 396 = .ok (.invokevirtual 104, 3) := by decide +kernel
theorem dL_law_399 : decode cL_law 399 = .ok (.iload 6, 2) := by decide +kernel
theorem dL_law_401 : decode cL_law 401 = .ok (.if_icmp .eq 5, 3) := by decide +kernel
theorem dL_law_404 : decode cL_law 404 = .ok (.iconst 0, 1) := by decide +kernel
theorem dL_law_405 : decode cL_law 405 = .ok (.ireturn, 1) := by decide +kernel
theorem dL_law_406 : decode cL_law 406 = .ok (.iload 6, 2) := by decide +kernel
theorem dL_law_408 : decode cL_law 408 = .ok (.ifCond .ne 15, 3) := by decide +kernel
theorem dL_law_411 : decode cL_law 411 = .ok (.aload_n 3, 1) := by decide +kernel
theorem dL_law_412 : decode cL_law 412 = .ok (.iconst 0, 1) := by decide +kernel
theorem dL_law_413 : decode cL_law 413 = .ok (.laload, 1) := by decide +kernel
theorem dL_law_414 : decode cL_law 414 = .ok (.iload 7, 2) := by decide +kernel
theorem dL_law_416 : decode cL_law 416 = .ok (.i2l, 1) := by decide +kernel
theorem dL_law_417 : decode cL_law 417 = .ok (.lcmp, 1) := by decide +kernel
theorem dL_law_418 : decode cL_law 418 = .ok (.ifCond .eq 5, 3) := by decide +kernel
theorem dL_law_421 : decode cL_law 421 = .ok (.iconst 0, 1) := by decide +kernel
theorem dL_law_422 : decode cL_law 422 = .ok (.ireturn, 1) := by decide +kernel
theorem dL_law_423 : decode cL_law 423 = .ok (.goto 1431, 3) := by decide +kernel
theorem dL_law_426 : decode cL_law 426 = .ok (.aload_n 1, 1) := by decide +kernel
theorem dL_law_427 : decode cL_law 427 = .ok (.aload_n 0, 1) := by decide +kernel
theorem dL_law_428 : decode cL_law 428 = .ok (.iload 5, 2) := by decide +kernel
theorem dL_law_430 : decode cL_law 430 = .ok (.iconst 1, 1) := by decide +kernel
theorem dL_law_431 : decode cL_law 431 = .ok (.iadd, 1) := by decide +kernel
theorem dL_law_432 : decode cL_law 432 = .ok (.iaload, 1) := by decide +kernel
theorem dL_law_433 : decode cL_law 433 = .ok (.aload_n 0, 1) := by decide +kernel
theorem dL_law_434 : decode cL_law 434 = .ok (.iload 5, 2) := by decide +kernel
theorem dL_law_436 : decode cL_law 436 = .ok (.iconst 2, 1) := by decide +kernel
theorem dL_law_437 : decode cL_law 437 = .ok (.iadd, 1) := by decide +kernel
theorem dL_law_438 : decode cL_law 438 = .ok (.iaload, 1) := by decide +kernel
theorem dL_law_439 : decode cL_law 439 = .ok (.aload_n 3, 1) := by decide +kernel
theorem dL_law_440 : decode cL_law 440 = .ok (.invokestatic 118, 3) := by decide +kernel
theorem dL_law_443 : decode cL_law 443 = .ok (.istore 6, 2) := by decide +kernel
theorem dL_law_445 : decode cL_law 445 = .ok (.aload_n 2, 1) := by decide +kernel
theorem dL_law_446 : decode cL_law 446 = .ok (.aload_n 0, 1) := by decide +kernel
theorem dL_law_447 : decode cL_law 447 = .ok (.iload 5, 2) := by decide +kernel
theorem dL_law_449 : decode cL_law 449 = .ok (.iconst 1, 1) := by decide +kernel
theorem dL_law_450 : decode cL_law 450 = .ok (.iadd, 1) := by decide +kernel
theorem dL_law_451 : decode cL_law 451 = .ok (.iaload, 1) := by decide +kernel
theorem dL_law_452 : decode cL_law 452 = .ok (.aload_n 0, 1) := by decide +kernel
theorem dL_law_453 : decode cL_law 453 = .ok (.iload 5, 2) := by decide +kernel
theorem dL_law_455 : decode cL_law 455 = .ok (.iconst 2, 1) := by decide +kernel
theorem dL_law_456 : decode cL_law 456 = .ok (.iadd, 1) := by decide +kernel
theorem dL_law_457 : decode cL_law 457 = .ok (.iaload, 1) := by decide +kernel
theorem dL_law_458 : decode cL_law 458 = .ok (.invokevirtual 121, 3) := by decide +kernel
theorem dL_law_461 : decode cL_law 461 = .ok (.istore 7, 2) := by decide +kernel
theorem dL_law_463 : decode cL_law 463 = .ok (.aload_n 2, 1) := by decide +kernel
theorem dL_law_464 : decode cL_law 464 = .ok (.invokevirtual 104, 3) := by decide +kernel
theorem dL_law_467 : decode cL_law 467 = .ok (.iload 6, 2) := by decide +kernel
theorem dL_law_469 : decode cL_law 469 = .ok (.if_icmp .eq 5, 3) := by decide +kernel
theorem dL_law_472 : decode cL_law 472 = .ok (.iconst 0, 1) := by decide +kernel
theorem dL_law_473 : decode cL_law 473 = .ok (.ireturn, 1) := by decide +kernel
theorem dL_law_474 : decode cL_law 474 = .ok (.iload 6, 2) := by decide +kernel
theorem dL_law_476 : decode cL_law 476 = .ok (.ifCond .ne 15, 3) := by decide +kernel
theorem dL_law_479 : decode cL_law 479 = .ok (.aload_n 3, 1) := by decide +kernel
theorem dL_law_480 : decode cL_law 480 = .ok (.iconst 0, 1) := by decide +kernel
theorem dL_law_481 : decode cL_law 481 = .ok (.laload, 1) := by decide +kernel
theorem dL_law_482 : decode cL_law 482 = .ok (.iload 7, 2) := by decide +kernel
theorem dL_law_484 : decode cL_law 484 = .ok (.i2l, 1) := by decide +kernel
theorem dL_law_485 : decode cL_law 485 = .ok (.lcmp, 1) := by decide +kernel
theorem dL_law_486 : decode cL_law 486 = .ok (.ifCond .eq 5, 3) := by decide +kernel
theorem dL_law_489 : decode cL_law 489 = .ok (.iconst 0, 1) := by decide +kernel
theorem dL_law_490 : decode cL_law 490 = .ok (.ireturn, 1) := by decide +kernel
theorem dL_law_491 : decode cL_law 491 = .ok (.goto 1363, 3) := by decide +kernel
theorem dL_law_494 : decode cL_law 494 = .ok (.aload_n 1, 1) := by decide +kernel
theorem dL_law_495 : decode cL_law 495 = .ok (.aload_n 0, 1) := by decide +kernel
theorem dL_law_496 : decode cL_law 496 = .ok (.iload 5, 2) := by decide +kernel
theorem dL_law_498 : decode cL_law 498 = .ok (.iconst 1, 1) := by decide +kernel
theorem dL_law_499 : decode cL_law 499 = .ok (.iadd, 1) := by decide +kernel
theorem dL_law_500 : decode cL_law 500 = .ok (.iaload, 1) := by decide +kernel
theorem dL_law_501 : decode cL_law 501 = .ok (.aload_n 0, 1) := by decide +kernel
theorem dL_law_502 : decode cL_law 502 = .ok (.iload 5, 2) := by decide +kernel
theorem dL_law_504 : decode cL_law 504 = .ok (.iconst 2, 1) := by decide +kernel
theorem dL_law_505 : decode cL_law 505 = .ok (.iadd, 1) := by decide +kernel
theorem dL_law_506 : decode cL_law 506 = .ok (.iaload, 1) := by decide +kernel
theorem dL_law_507 : decode cL_law 507 = .ok (.aload_n 0, 1) := by decide +kernel
theorem dL_law_508 : decode cL_law 508 = .ok (.iload 5, 2) := by decide +kernel
theorem dL_law_510 : decode cL_law 510 = .ok (.iconst 3, 1) := by decide +kernel
theorem dL_law_511 : decode cL_law 511 = .ok (.iadd, 1) := by decide +kernel
theorem dL_law_512 : decode cL_law 512 = .ok (.iaload, 1) := by decide +kernel
theorem dL_law_513 : decode cL_law 513 = .ok (.aload_n 0, 1) := by decide +kernel
theorem dL_law_514 : decode cL_law 514 = .ok (.iload 5, 2) := by decide +kernel
theorem dL_law_516 : decode cL_law 516 = .ok (.iconst 4, 1) := by decide +kernel
theorem dL_law_517 : decode cL_law 517 = .ok (.iadd, 1) := by decide +kernel
theorem dL_law_518 : decode cL_law 518 = .ok (.iaload, 1) := by decide +kernel
theorem dL_law_519 : decode cL_law 519 = .ok (.aload_n 3, 1) := by decide +kernel
theorem dL_law_520 : decode cL_law 520 = .ok (.invokestatic 122, 3) := by decide +kernel
theorem dL_law_523 : decode cL_law 523 = .ok (.istore 6, 2) := by decide +kernel
theorem dL_law_525 : decode cL_law 525 = .ok (.aload_n 2, 1) := by decide +kernel
theorem dL_law_526 : decode cL_law 526 = .ok (.aload_n 0, 1) := by decide +kernel
theorem dL_law_527 : decode cL_law 527 = .ok (.iload 5, 2) := by decide +kernel
theorem dL_law_529 : decode cL_law 529 = .ok (.iconst 1, 1) := by decide +kernel
theorem dL_law_530 : decode cL_law 530 = .ok (.iadd, 1) := by decide +kernel
theorem dL_law_531 : decode cL_law 531 = .ok (.iaload, 1) := by decide +kernel
theorem dL_law_532 : decode cL_law 532 = .ok (.aload_n 0, 1) := by decide +kernel
theorem dL_law_533 : decode cL_law 533 = .ok (.iload 5, 2) := by decide +kernel
theorem dL_law_535 : decode cL_law 535 = .ok (.iconst 2, 1) := by decide +kernel
theorem dL_law_536 : decode cL_law 536 = .ok (.iadd, 1) := by decide +kernel
theorem dL_law_537 : decode cL_law 537 = .ok (.iaload, 1) := by decide +kernel
theorem dL_law_538 : decode cL_law 538 = .ok (.aload_n 0, 1) := by decide +kernel
theorem dL_law_539 : decode cL_law 539 = .ok (.iload 5, 2) := by decide +kernel
theorem dL_law_541 : decode cL_law 541 = .ok (.iconst 3, 1) := by decide +kernel
theorem dL_law_542 : decode cL_law 542 = .ok (.iadd, 1) := by decide +kernel
theorem dL_law_543 : decode cL_law 543 = .ok (.iaload, 1) := by decide +kernel
theorem dL_law_544 : decode cL_law 544 = .ok (.aload_n 0, 1) := by decide +kernel
theorem dL_law_545 : decode cL_law 545 = .ok (.iload 5, 2) := by decide +kernel
theorem dL_law_547 : decode cL_law 547 = .ok (.iconst 4, 1) := by decide +kernel
theorem dL_law_548 : decode cL_law 548 = .ok (.iadd, 1) := by decide +kernel
theorem dL_law_549 : decode cL_law 549 = .ok (.iaload, 1) := by decide +kernel
theorem dL_law_550 : decode cL_law 550 = .ok (.invokevirtual 125, 3) := by decide +kernel
theorem dL_law_553 : decode cL_law 553 = .ok (.istore 7, 2) := by decide +kernel
theorem dL_law_555 : decode cL_law 555 = .ok (.aload_n 2, 1) := by decide +kernel
theorem dL_law_556 : decode cL_law 556 = .ok (.invokevirtual 104, 3) := by decide +kernel
theorem dL_law_559 : decode cL_law 559 = .ok (.iload 6, 2) := by decide +kernel
theorem dL_law_561 : decode cL_law 561 = .ok (.if_icmp .eq 5, 3) := by decide +kernel
theorem dL_law_564 : decode cL_law 564 = .ok (.iconst 0, 1) := by decide +kernel
theorem dL_law_565 : decode cL_law 565 = .ok (.ireturn, 1) := by decide +kernel
theorem dL_law_566 : decode cL_law 566 = .ok (.iload 6, 2) := by decide +kernel
theorem dL_law_568 : decode cL_law 568 = .ok (.ifCond .ne 15, 3) := by decide +kernel
theorem dL_law_571 : decode cL_law 571 = .ok (.aload_n 3, 1) := by decide +kernel
theorem dL_law_572 : decode cL_law 572 = .ok (.iconst 0, 1) := by decide +kernel
theorem dL_law_573 : decode cL_law 573 = .ok (.laload, 1) := by decide +kernel
theorem dL_law_574 : decode cL_law 574 = .ok (.iload 7, 2) := by decide +kernel
theorem dL_law_576 : decode cL_law 576 = .ok (.i2l, 1) := by decide +kernel
theorem dL_law_577 : decode cL_law 577 = .ok (.lcmp, 1) := by decide +kernel
theorem dL_law_578 : decode cL_law 578 = .ok (.ifCond .eq 5, 3) := by decide +kernel
theorem dL_law_581 : decode cL_law 581 = .ok (.iconst 0, 1) := by decide +kernel
theorem dL_law_582 : decode cL_law 582 = .ok (.ireturn, 1) := by decide +kernel
theorem dL_law_583 : decode cL_law 583 = .ok (.goto 1271, 3) := by decide +kernel
theorem dL_law_586 : decode cL_law 586 = .ok (.aload_n 1, 1) := by decide +kernel
theorem dL_law_587 : decode cL_law 587 = .ok (.aload_n 0, 1) := by decide +kernel
theorem dL_law_588 : decode cL_law 588 = .ok (.iload 5, 2) := by decide +kernel
theorem dL_law_590 : decode cL_law 590 = .ok (.iconst 1, 1) := by decide +kernel
theorem dL_law_591 : decode cL_law 591 = .ok (.iadd, 1) := by decide +kernel
theorem dL_law_592 : decode cL_law 592 = .ok (.iaload, 1) := by decide +kernel
theorem dL_law_593 : decode cL_law 593 = .ok (.aload_n 0, 1) := by decide +kernel
theorem dL_law_594 : decode cL_law 594 = .ok (.iload 5, 2) := by decide +kernel
theorem dL_law_596 : decode cL_law 596 = .ok (.iconst 2, 1) := by decide +kernel
theorem dL_law_597 : decode cL_law 597 = .ok (.iadd, 1) := by decide +kernel
theorem dL_law_598 : decode cL_law 598 = .ok (.iaload, 1) := by decide +kernel
theorem dL_law_599 : decode cL_law 599 = .ok (.aload_n 3, 1) := by decide +kernel
theorem dL_law_600 : decode cL_law 600 = .ok (.invokestatic 126, 3) := by decide +kernel
theorem dL_law_603 : decode cL_law 603 = .ok (.istore 6, 2) := by decide +kernel
theorem dL_law_605 : decode cL_law 605 = .ok (.aload_n 2, 1) := by decide +kernel
theorem dL_law_606 : decode cL_law 606 = .ok (.aload_n 0, 1) := by decide +kernel
theorem dL_law_607 : decode cL_law 607 = .ok (.iload 5, 2) := by decide +kernel
theorem dL_law_609 : decode cL_law 609 = .ok (.iconst 1, 1) := by decide +kernel
theorem dL_law_610 : decode cL_law 610 = .ok (.iadd, 1) := by decide +kernel
theorem dL_law_611 : decode cL_law 611 = .ok (.iaload, 1) := by decide +kernel
theorem dL_law_612 : decode cL_law 612 = .ok (.aload_n 0, 1) := by decide +kernel
theorem dL_law_613 : decode cL_law 613 = .ok (.iload 5, 2) := by decide +kernel
theorem dL_law_615 : decode cL_law 615 = .ok (.iconst 2, 1) := by decide +kernel
theorem dL_law_616 : decode cL_law 616 = .ok (.iadd, 1) := by decide +kernel
theorem dL_law_617 : decode cL_law 617 = .ok (.iaload, 1) := by decide +kernel
theorem dL_law_618 : decode cL_law 618 = .ok (.invokevirtual 128, 3) := by decide +kernel
theorem dL_law_621 : decode cL_law 621 = .ok (.istore 7, 2) := by decide +kernel
theorem dL_law_623 : decode cL_law 623 = .ok (.aload_n 2, 1) := by decide +kernel
theorem dL_law_624 : decode cL_law 624 = .ok (.invokevirtual 104, 3) := by decide +kernel
theorem dL_law_627 : decode cL_law 627 = .ok (.iload 6, 2) := by decide +kernel
theorem dL_law_629 : decode cL_law 629 = .ok (.if_icmp .eq 5, 3) := by decide +kernel
theorem dL_law_632 : decode cL_law 632 = .ok (.iconst 0, 1) := by decide +kernel
theorem dL_law_633 : decode cL_law 633 = .ok (.ireturn, 1) := by decide +kernel
theorem dL_law_634 : decode cL_law 634 = .ok (.iload 6, 2) := by decide +kernel
theorem dL_law_636 : decode cL_law 636 = .ok (.ifCond .ne 15, 3) := by decide +kernel
theorem dL_law_639 : decode cL_law 639 = .ok (.aload_n 3, 1) := by decide +kernel
theorem dL_law_640 : decode cL_law 640 = .ok (.iconst 0, 1) := by decide +kernel
theorem dL_law_641 : decode cL_law 641 = .ok (.laload, 1) := by decide +kernel
theorem dL_law_642 : decode cL_law 642 = .ok (.iload 7, 2) := by decide +kernel
theorem dL_law_644 : decode cL_law 644 = .ok (.i2l, 1) := by decide +kernel
theorem dL_law_645 : decode cL_law 645 = .ok (.lcmp, 1) := by decide +kernel
theorem dL_law_646 : decode cL_law 646 = .ok (.ifCond .eq 5, 3) := by decide +kernel
theorem dL_law_649 : decode cL_law 649 = .ok (.iconst 0, 1) := by decide +kernel
theorem dL_law_650 : decode cL_law 650 = .ok (.ireturn, 1) := by decide +kernel
theorem dL_law_651 : decode cL_law 651 = .ok (.goto 1203, 3) := by decide +kernel
theorem dL_law_654 : decode cL_law 654 = .ok (.aload_n 1, 1) := by decide +kernel
theorem dL_law_655 : decode cL_law 655 = .ok (.aload_n 0, 1) := by decide +kernel
theorem dL_law_656 : decode cL_law 656 = .ok (.iload 5, 2) := by decide +kernel
theorem dL_law_658 : decode cL_law 658 = .ok (.iconst 1, 1) := by decide +kernel
theorem dL_law_659 : decode cL_law 659 = .ok (.iadd, 1) := by decide +kernel
theorem dL_law_660 : decode cL_law 660 = .ok (.iaload, 1) := by decide +kernel
theorem dL_law_661 : decode cL_law 661 = .ok (.aload_n 0, 1) := by decide +kernel
theorem dL_law_662 : decode cL_law 662 = .ok (.iload 5, 2) := by decide +kernel
theorem dL_law_664 : decode cL_law 664 = .ok (.iconst 2, 1) := by decide +kernel
theorem dL_law_665 : decode cL_law 665 = .ok (.iadd, 1) := by decide +kernel
theorem dL_law_666 : decode cL_law 666 = .ok (.iaload, 1) := by decide +kernel
theorem dL_law_667 : decode cL_law 667 = .ok (.aload_n 3, 1) := by decide +kernel
theorem dL_law_668 : decode cL_law 668 = .ok (.invokestatic 129, 3) := by decide +kernel
theorem dL_law_671 : decode cL_law 671 = .ok (.istore 6, 2) := by decide +kernel
theorem dL_law_673 : decode cL_law 673 = .ok (.aload_n 2, 1) := by decide +kernel
theorem dL_law_674 : decode cL_law 674 = .ok (.aload_n 0, 1) := by decide +kernel
theorem dL_law_675 : decode cL_law 675 = .ok (.iload 5, 2) := by decide +kernel
theorem dL_law_677 : decode cL_law 677 = .ok (.iconst 1, 1) := by decide +kernel
theorem dL_law_678 : decode cL_law 678 = .ok (.iadd, 1) := by decide +kernel
theorem dL_law_679 : decode cL_law 679 = .ok (.iaload, 1) := by decide +kernel
theorem dL_law_680 : decode cL_law 680 = .ok (.aload_n 0, 1) := by decide +kernel
theorem dL_law_681 : decode cL_law 681 = .ok (.iload 5, 2) := by decide +kernel
theorem dL_law_683 : decode cL_law 683 = .ok (.iconst 2, 1) := by decide +kernel
theorem dL_law_684 : decode cL_law 684 = .ok (.iadd, 1) := by decide +kernel
theorem dL_law_685 : decode cL_law 685 = .ok (.iaload, 1) := by decide +kernel
theorem dL_law_686 : decode cL_law 686 = .ok (.invokevirtual 131, 3) := by decide +kernel
theorem dL_law_689 : decode cL_law 689 = .ok (.istore 7, 2) := by decide +kernel
theorem dL_law_691 : decode cL_law 691 = .ok (.aload_n 2, 1) := by decide +kernel
theorem dL_law_692 : decode cL_law 692 = .ok (.invokevirtual 104, 3) := by decide +kernel
theorem dL_law_695 : decode cL_law 695 = .ok (.iload 6, 2) := by decide +kernel
theorem dL_law_697 : decode cL_law 697 = .ok (.if_icmp .eq 5, 3) := by decide +kernel
theorem dL_law_700 : decode cL_law 700 = .ok (.iconst 0, 1) := by decide +kernel
theorem dL_law_701 : decode cL_law 701 = .ok (.ireturn, 1) := by decide +kernel
theorem dL_law_702 : decode cL_law 702 = .ok (.iload 6, 2) := by decide +kernel
theorem dL_law_704 : decode cL_law 704 = .ok (.ifCond .ne 15, 3) := by decide +kernel
theorem dL_law_707 : decode cL_law 707 = .ok (.aload_n 3, 1) := by decide +kernel
theorem dL_law_708 : decode cL_law 708 = .ok (.iconst 0, 1) := by decide +kernel
theorem dL_law_709 : decode cL_law 709 = .ok (.laload, 1) := by decide +kernel
theorem dL_law_710 : decode cL_law 710 = .ok (.iload 7, 2) := by decide +kernel
theorem dL_law_712 : decode cL_law 712 = .ok (.i2l, 1) := by decide +kernel
theorem dL_law_713 : decode cL_law 713 = .ok (.lcmp, 1) := by decide +kernel
theorem dL_law_714 : decode cL_law 714 = .ok (.ifCond .eq 5, 3) := by decide +kernel
theorem dL_law_717 : decode cL_law 717 = .ok (.iconst 0, 1) := by decide +kernel
theorem dL_law_718 : decode cL_law 718 = .ok (.ireturn, 1) := by decide +kernel
theorem dL_law_719 : decode cL_law 719 = .ok (.goto 1135, 3) := by decide +kernel
theorem dL_law_722 : decode cL_law 722 = .ok (.aload_n 1, 1) := by decide +kernel
theorem dL_law_723 : decode cL_law 723 = .ok (.aload_n 0, 1) := by decide +kernel
theorem dL_law_724 : decode cL_law 724 = .ok (.iload 5, 2) := by decide +kernel
theorem dL_law_726 : decode cL_law 726 = .ok (.iconst 1, 1) := by decide +kernel
theorem dL_law_727 : decode cL_law 727 = .ok (.iadd, 1) := by decide +kernel
theorem dL_law_728 : decode cL_law 728 = .ok (.iaload, 1) := by decide +kernel
theorem dL_law_729 : decode cL_law 729 = .ok (.aload_n 0, 1) := by decide +kernel
theorem dL_law_730 : decode cL_law 730 = .ok (.iload 5, 2) := by decide +kernel
theorem dL_law_732 : decode cL_law 732 = .ok (.iconst 2, 1) := by decide +kernel
theorem dL_law_733 : decode cL_law 733 = .ok (.iadd, 1) := by decide +kernel
theorem dL_law_734 : decode cL_law 734 = .ok (.iaload, 1) := by decide +kernel
theorem dL_law_735 : decode cL_law 735 = .ok (.aload_n 0, 1) := by decide +kernel
theorem dL_law_736 : decode cL_law 736 = .ok (.iload 5, 2) := by decide +kernel
theorem dL_law_738 : decode cL_law 738 = .ok (.iconst 3, 1) := by decide +kernel
theorem dL_law_739 : decode cL_law 739 = .ok (.iadd, 1) := by decide +kernel
theorem dL_law_740 : decode cL_law 740 = .ok (.iaload, 1) := by decide +kernel
theorem dL_law_741 : decode cL_law 741 = .ok (.aload_n 3, 1) := by decide +kernel
theorem dL_law_742 : decode cL_law 742 = .ok (.invokestatic 132, 3) := by decide +kernel
theorem dL_law_745 : decode cL_law 745 = .ok (.istore 6, 2) := by decide +kernel
theorem dL_law_747 : decode cL_law 747 = .ok (.aload_n 2, 1) := by decide +kernel
theorem dL_law_748 : decode cL_law 748 = .ok (.aload_n 0, 1) := by decide +kernel
theorem dL_law_749 : decode cL_law 749 = .ok (.iload 5, 2) := by decide +kernel
theorem dL_law_751 : decode cL_law 751 = .ok (.iconst 1, 1) := by decide +kernel
theorem dL_law_752 : decode cL_law 752 = .ok (.iadd, 1) := by decide +kernel
theorem dL_law_753 : decode cL_law 753 = .ok (.iaload, 1) := by decide +kernel
theorem dL_law_754 : decode cL_law 754 = .ok (.aload_n 0, 1) := by decide +kernel
theorem dL_law_755 : decode cL_law 755 = .ok (.iload 5, 2) := by decide +kernel
theorem dL_law_757 : decode cL_law 757 = .ok (.iconst 2, 1) := by decide +kernel
theorem dL_law_758 : decode cL_law 758 = .ok (.iadd, 1) := by decide +kernel
theorem dL_law_759 : decode cL_law 759 = .ok (.iaload, 1) := by decide +kernel
theorem dL_law_760 : decode cL_law 760 = .ok (.aload_n 0, 1) := by decide +kernel
theorem dL_law_761 : decode cL_law 761 = .ok (.iload 5, 2) := by decide +kernel
theorem dL_law_763 : decode cL_law 763 = .ok (.iconst 3, 1) := by decide +kernel
theorem dL_law_764 : decode cL_law 764 = .ok (.iadd, 1) := by decide +kernel
theorem dL_law_765 : decode cL_law 765 = .ok (.iaload, 1) := by decide +kernel
theorem dL_law_766 : decode cL_law 766 = .ok (.invokevirtual 135, 3) := by decide +kernel
theorem dL_law_769 : decode cL_law 769 = .ok (.istore 7, 2) := by decide +kernel
theorem dL_law_771 : decode cL_law 771 = .ok (.aload_n 2, 1) := by decide +kernel
theorem dL_law_772 : decode cL_law 772 = .ok (.invokevirtual 104, 3) := by decide +kernel
theorem dL_law_775 : decode cL_law 775 = .ok (.iload 6, 2) := by decide +kernel
theorem dL_law_777 : decode cL_law 777 = .ok (.if_icmp .eq 5, 3) := by decide +kernel
theorem dL_law_780 : decode cL_law 780 = .ok (.iconst 0, 1) := by decide +kernel
theorem dL_law_781 : decode cL_law 781 = .ok (.ireturn, 1) := by decide +kernel
theorem dL_law_782 : decode cL_law 782 = .ok (.iload 6, 2) := by decide +kernel
theorem dL_law_784 : decode cL_law 784 = .ok (.ifCond .ne 15, 3) := by decide +kernel
theorem dL_law_787 : decode cL_law 787 = .ok (.aload_n 3, 1) := by decide +kernel
theorem dL_law_788 : decode cL_law 788 = .ok (.iconst 0, 1) := by decide +kernel
theorem dL_law_789 : decode cL_law 789 = .ok (.laload, 1) := by decide +kernel
theorem dL_law_790 : decode cL_law 790 = .ok (.iload 7, 2) := by decide +kernel
theorem dL_law_792 : decode cL_law 792 = .ok (.i2l, 1) := by decide +kernel
theorem dL_law_793 : decode cL_law 793 = .ok (.lcmp, 1) := by decide +kernel
theorem dL_law_794 : decode cL_law 794 = .ok (.ifCond .eq 5, 3) := by decide +kernel
theorem dL_law_797 : decode cL_law 797 = .ok (.iconst 0, 1) := by decide +kernel
theorem dL_law_798 : decode cL_law 798 = .ok (.ireturn, 1) := by decide +kernel
theorem dL_law_799 : decode cL_law 799 = .ok (.goto 1055, 3) := by decide +kernel
theorem dL_law_802 : decode cL_law 802 = .ok (.aload_n 1, 1) := by decide +kernel
theorem dL_law_803 : decode cL_law 803 = .ok (.aload_n 0, 1) := by decide +kernel
theorem dL_law_804 : decode cL_law 804 = .ok (.iload 5, 2) := by decide +kernel
theorem dL_law_806 : decode cL_law 806 = .ok (.iconst 1, 1) := by decide +kernel
theorem dL_law_807 : decode cL_law 807 = .ok (.iadd, 1) := by decide +kernel
theorem dL_law_808 : decode cL_law 808 = .ok (.iaload, 1) := by decide +kernel
theorem dL_law_809 : decode cL_law 809 = .ok (.aload_n 0, 1) := by decide +kernel
theorem dL_law_810 : decode cL_law 810 = .ok (.iload 5, 2) := by decide +kernel
theorem dL_law_812 : decode cL_law 812 = .ok (.iconst 2, 1) := by decide +kernel
theorem dL_law_813 : decode cL_law 813 = .ok (.iadd, 1) := by decide +kernel
theorem dL_law_814 : decode cL_law 814 = .ok (.iaload, 1) := by decide +kernel
theorem dL_law_815 : decode cL_law 815 = .ok (.aload_n 3, 1) := by decide +kernel
theorem dL_law_816 : decode cL_law 816 = .ok (.invokestatic 136, 3) := by decide +kernel
theorem dL_law_819 : decode cL_law 819 = .ok (.istore 6, 2) := by decide +kernel
theorem dL_law_821 : decode cL_law 821 = .ok (.aload_n 2, 1) := by decide +kernel
theorem dL_law_822 : decode cL_law 822 = .ok (.aload_n 0, 1) := by decide +kernel
theorem dL_law_823 : decode cL_law 823 = .ok (.iload 5, 2) := by decide +kernel
theorem dL_law_825 : decode cL_law 825 = .ok (.iconst 1, 1) := by decide +kernel
theorem dL_law_826 : decode cL_law 826 = .ok (.iadd, 1) := by decide +kernel
theorem dL_law_827 : decode cL_law 827 = .ok (.iaload, 1) := by decide +kernel
theorem dL_law_828 : decode cL_law 828 = .ok (.aload_n 0, 1) := by decide +kernel
theorem dL_law_829 : decode cL_law 829 = .ok (.iload 5, 2) := by decide +kernel
theorem dL_law_831 : decode cL_law 831 = .ok (.iconst 2, 1) := by decide +kernel
theorem dL_law_832 : decode cL_law 832 = .ok (.iadd, 1) := by decide +kernel
theorem dL_law_833 : decode cL_law 833 = .ok (.iaload, 1) := by decide +kernel
theorem dL_law_834 : decode cL_law 834 = .ok (.invokevirtual 138, 3) := by decide +kernel
theorem dL_law_837 : decode cL_law 837 = .ok (.istore 7, 2) := by decide +kernel
theorem dL_law_839 : decode cL_law 839 = .ok (.aload_n 2, 1) := by decide +kernel
theorem dL_law_840 : decode cL_law 840 = .ok (.invokevirtual 104, 3) := by decide +kernel
theorem dL_law_843 : decode cL_law 843 = .ok (.iload 6, 2) := by decide +kernel
theorem dL_law_845 : decode cL_law 845 = .ok (.if_icmp .eq 5, 3) := by decide +kernel
theorem dL_law_848 : decode cL_law 848 = .ok (.iconst 0, 1) := by decide +kernel
theorem dL_law_849 : decode cL_law 849 = .ok (.ireturn, 1) := by decide +kernel
theorem dL_law_850 : decode cL_law 850 = .ok (.iload 6, 2) := by decide +kernel
theorem dL_law_852 : decode cL_law 852 = .ok (.ifCond .ne 15, 3) := by decide +kernel
theorem dL_law_855 : decode cL_law 855 = .ok (.aload_n 3, 1) := by decide +kernel
theorem dL_law_856 : decode cL_law 856 = .ok (.iconst 0, 1) := by decide +kernel
theorem dL_law_857 : decode cL_law 857 = .ok (.laload, 1) := by decide +kernel
theorem dL_law_858 : decode cL_law 858 = .ok (.iload 7, 2) := by decide +kernel
theorem dL_law_860 : decode cL_law 860 = .ok (.i2l, 1) := by decide +kernel
theorem dL_law_861 : decode cL_law 861 = .ok (.lcmp, 1) := by decide +kernel
theorem dL_law_862 : decode cL_law 862 = .ok (.ifCond .eq 5, 3) := by decide +kernel
theorem dL_law_865 : decode cL_law 865 = .ok (.iconst 0, 1) := by decide +kernel
theorem dL_law_866 : decode cL_law 866 = .ok (.ireturn, 1) := by decide +kernel
theorem dL_law_867 : decode cL_law 867 = .ok (.goto 987, 3) := by decide +kernel
theorem dL_law_870 : decode cL_law 870 = .ok (.aload_n 1, 1) := by decide +kernel
theorem dL_law_871 : decode cL_law 871 = .ok (.aload_n 0, 1) := by decide +kernel
theorem dL_law_872 : decode cL_law 872 = .ok (.iload 5, 2) := by decide +kernel
theorem dL_law_874 : decode cL_law 874 = .ok (.iconst 1, 1) := by decide +kernel
theorem dL_law_875 : decode cL_law 875 = .ok (.iadd, 1) := by decide +kernel
theorem dL_law_876 : decode cL_law 876 = .ok (.iaload, 1) := by decide +kernel
theorem dL_law_877 : decode cL_law 877 = .ok (.aload 4, 2) := by decide +kernel
theorem dL_law_879 : decode cL_law 879 = .ok (.invokestatic 139, 3) := by decide +kernel
theorem dL_law_882 : decode cL_law 882 = .ok (.istore 6, 2) := by decide +kernel
theorem dL_law_884 : decode cL_law 884 = .ok (.aload_n 2, 1) := by decide +kernel
theorem dL_law_885 : decode cL_law 885 = .ok (.aload_n 0, 1) := by decide +kernel
theorem dL_law_886 : decode cL_law 886 = .ok (.iload 5, 2) := by decide +kernel
theorem dL_law_888 : decode cL_law 888 = .ok (.iconst 1, 1) := by decide +kernel
theorem dL_law_889 : decode cL_law 889 = .ok (.iadd, 1) := by decide +kernel
theorem dL_law_890 : decode cL_law 890 = .ok (.iaload, 1) := by decide +kernel
theorem dL_law_891 : decode cL_law 891 = .ok (.invokevirtual 142, 3) := by decide +kernel
theorem dL_law_894 : decode cL_law 894 = .ok (.fstore 7, 2) := by decide +kernel
theorem dL_law_896 : decode cL_law 896 = .ok (.aload_n 2, 1) := by decide +kernel
theorem dL_law_897 : decode cL_law 897 = .ok (.invokevirtual 104, 3) := by decide +kernel
theorem dL_law_900 : decode cL_law 900 = .ok (.iload 6, 2) := by decide +kernel
theorem dL_law_902 : decode cL_law 902 = .ok (.if_icmp .eq 5, 3) := by decide +kernel
theorem dL_law_905 : decode cL_law 905 = .ok (.iconst 0, 1) := by decide +kernel
theorem dL_law_906 : decode cL_law 906 = .ok (.ireturn, 1) := by decide +kernel
theorem dL_law_907 : decode cL_law 907 = .ok (.iload 6, 2) := by decide +kernel
theorem dL_law_909 : decode cL_law 909 = .ok (.ifCond .ne 36, 3) := by decide +kernel
theorem dL_law_912 : decode cL_law 912 = .ok (.aload 4, 2) := by decide +kernel
theorem dL_law_914 : decode cL_law 914 = .ok (.iconst 0, 1) := by decide +kernel
theorem dL_law_915 : decode cL_law 915 = .ok (.daload, 1) := by decide +kernel
theorem dL_law_916 : decode cL_law 916 = .ok (.fload 7, 2) := by decide +kernel
theorem dL_law_918 : decode cL_law 918 = .ok (.f2d, 1) := by decide +kernel
theorem dL_law_919 : decode cL_law 919 = .ok (.dcmp .l, 1) := by decide +kernel
theorem dL_law_920 : decode cL_law 920 = .ok (.ifCond .eq 25, 3) := by decide +kernel
theorem dL_law_923 : decode cL_law 923 = .ok (.aload 4, 2) := by decide +kernel
theorem dL_law_925 : decode cL_law 925 = .ok (.iconst 0, 1) := by decide +kernel
theorem dL_law_926 : decode cL_law 926 = .ok (.daload, 1) := by decide +kernel
theorem dL_law_927 : decode cL_law 927 = .ok (.aload 4, 2) := by decide +kernel
theorem dL_law_929 : decode cL_law 929 = .ok (.iconst 0, 1) := by decide +kernel
theorem dL_law_930 : decode cL_law 930 = .ok (.daload, 1) := by decide +kernel
theorem dL_law_931 : decode cL_law 931 = .ok (.dcmp .l, 1) := by decide +kernel
theorem dL_law_932 : decode cL_law 932 = .ok (.ifCond .eq 11, 3) := by decide +kernel
theorem dL_law_935 : decode cL_law 935 = .ok (.fload 7, 2) := by decide +kernel
theorem dL_law_937 : decode cL_law 937 = .ok (.fload 7, 2) := by decide +kernel
theorem dL_law_939 : decode cL_law 939 = .ok (.fcmp .l, 1) := by decide +kernel
theorem dL_law_940 : decode cL_law 940 = .ok (.ifCond .ne 5, 3) := by decide +kernel
theorem dL_law_943 : decode cL_law 943 = .ok (.iconst 0, 1) := by decide +kernel
theorem dL_law_944 : decode cL_law 944 = .ok (.ireturn, 1) := by decide +kernel
theorem dL_law_945 : decode cL_law 945 = .ok (.goto 909, 3) := by decide +kernel
theorem dL_law_948 : decode cL_law 948 = .ok (.aload_n 1, 1) := by decide +kernel
theorem dL_law_949 : decode cL_law 949 = .ok (.aload_n 0, 1) := by decide +kernel
theorem dL_law_950 : decode cL_law 950 = .ok (.iload 5, 2) := by decide +kernel
theorem dL_law_952 : decode cL_law 952 = .ok (.iconst 1, 1) := by decide +kernel
theorem dL_law_953 : decode cL_law 953 = .ok (.iadd, 1) := by decide +kernel
theorem dL_law_954 : decode cL_law 954 = .ok (.iaload, 1) := by decide +kernel
theorem dL_law_955 : decode cL_law 955 = .ok (.aload_n 0, 1) := by decide +kernel
theorem dL_law_956 : decode cL_law 956 = .ok (.iload 5, 2) := by decide +kernel
theorem dL_law_958 : decode cL_law 958 = .ok (.iconst 2, 1) := by decide +kernel
theorem dL_law_959 : decode cL_law 959 = .ok (.iadd, 1) := by decide +kernel
theorem dL_law_960 : decode cL_law 960 = .ok (.iaload, 1) := by decide +kernel
theorem dL_law_961 : decode cL_law 961 = .ok (.aload 4, 2) := by decide +kernel
theorem dL_law_963 : decode cL_law 963 = .ok (.invokestatic 143, 3) := by decide +kernel
theorem dL_law_966 : decode cL_law 966 = .ok (.istore 6, 2) := by decide +kernel
theorem dL_law_968 : decode cL_law 968 = .ok (.aload_n 2, 1) := by decide +kernel
theorem dL_law_969 : decode cL_law 969 = .ok (.aload_n 0, 1) := by decide +kernel
theorem dL_law_970 : decode cL_law 970 = .ok (.iload 5, 2) := by decide +kernel
theorem dL_law_972 : decode cL_law 972 = .ok (.iconst 1, 1) := by decide +kernel
theorem dL_law_973 : decode cL_law 973 = .ok (.iadd, 1) := by decide +kernel
theorem dL_law_974 : decode cL_law 974 = .ok (.iaload, 1) := by decide +kernel
theorem dL_law_975 : decode cL_law 975 = .ok (.aload_n 0, 1) := by decide +kernel
theorem dL_law_976 : decode cL_law 976 = .ok (.iload 5, 2) := by decide +kernel
theorem dL_law_978 : decode cL_law 978 = .ok (.iconst 2, 1) := by decide +kernel
theorem dL_law_979 : decode cL_law 979 = .ok (.iadd, 1) := by decide +kernel
theorem dL_law_980 : decode cL_law 980 = .ok (.iaload, 1) := by decide +kernel
theorem dL_law_981 : decode cL_law 981 = .ok (.invokevirtual 146, 3) := by decide +kernel
theorem dL_law_984 : decode cL_law 984 = .ok (.dstore 7, 2) := by decide +kernel
theorem dL_law_986 : decode cL_law 986 = .ok (.aload_n 2, 1) := by decide +kernel
theorem dL_law_987 : decode cL_law 987 = .ok (.invokevirtual 104, 3) := by decide +kernel
theorem dL_law_990 : decode cL_law 990 = .ok (.iload 6, 2) := by decide +kernel
theorem dL_law_992 : decode cL_law 992 = .ok (.if_icmp .eq 5, 3) := by decide +kernel
theorem dL_law_995 : decode cL_law 995 = .ok (.iconst 0, 1) := by decide +kernel
theorem dL_law_996 : decode cL_law 996 = .ok (.ireturn, 1) := by decide +kernel
theorem dL_law_997 : decode cL_law 997 = .ok (.iload 6, 2) := by decide +kernel
theorem dL_law_999 : decode cL_law 999 = .ok (.ifCond .ne 35, 3) := by decide +kernel
theorem dL_law_1002 : decode cL_law 1002 = .ok (.aload 4, 2) := by decide +kernel
theorem dL_law_1004 : decode cL_law 1004 = .ok (.iconst 0, 1) := by decide +kernel
theorem dL_law_1005 : decode cL_law 1005 = .ok (.daload, 1) := by decide +kernel
theorem dL_law_1006 : decode cL_law 1006 = .ok (.dload 7, 2) := by decide +kernel
theorem dL_law_1008 : decode cL_law 1008 = .ok (.dcmp .l, 1) := by decide +kernel
theorem dL_law_1009 : decode cL_law 1009 = .ok (.ifCond .eq 25, 3) := by decide +kernel
theorem dL_law_1012 : decode cL_law 1012 = .ok (.aload 4, 2) := by decide +kernel
theorem dL_law_1014 : decode cL_law 1014 = .ok (.iconst 0, 1) := by decide +kernel
theorem dL_law_1015 : decode cL_law 1015 = .ok (.daload, 1) := by decide +kernel
theorem dL_law_1016 : decode cL_law 1016 = .ok (.aload 4, 2) := by decide +kernel
theorem dL_law_1018 : decode cL_law 1018 = .ok (.iconst 0, 1) := by decide +kernel
theorem dL_law_1019 : decode cL_law 1019 = .ok (.daload, 1) := by decide +kernel
theorem dL_law_1020 : decode cL_law 1020 = .ok (.dcmp .l, 1) := by decide +kernel
theorem dL_law_1021 : decode cL_law 1021 = .ok (.ifCond .eq 11, 3) := by decide +kernel
theorem dL_law_1024 : decode cL_law 1024 = .ok (.dload 7, 2) := by decide +kernel
theorem dL_law_1026 : decode cL_law 1026 = .ok (.dload 7, 2) := by decide +kernel
theorem dL_law_1028 : decode cL_law 1028 = .ok (.dcmp .l, 1) := by decide +kernel
theorem dL_law_1029 : decode cL_law 1029 = .ok (.ifCond .ne 5, 3) := by decide +kernel
theorem dL_law_1032 : decode cL_law 1032 = .ok (.iconst 0, 1) := by decide +kernel
theorem dL_law_1033 : decode cL_law 1033 = .ok (.ireturn, 1) := by decide +kernel
theorem dL_law_1034 : decode cL_law 1034 = .ok (.goto 820, 3) := by decide +kernel
theorem dL_law_1037 : decode cL_law 1037 = .ok (.aload_n 1, 1) := by decide +kernel
theorem dL_law_1038 : decode cL_law 1038 = .ok (.aload_n 0, 1) := by decide +kernel
theorem dL_law_1039 : decode cL_law 1039 = .ok (.iload 5, 2) := by decide +kernel
theorem dL_law_1041 : decode cL_law 1041 = .ok (.iconst 1, 1) := by decide +kernel
theorem dL_law_1042 : decode cL_law 1042 = .ok (.iadd, 1) := by decide +kernel
theorem dL_law_1043 : decode cL_law 1043 = .ok (.iaload, 1) := by decide +kernel
theorem dL_law_1044 : decode cL_law 1044 = .ok (.ifCond .eq 7, 3) := by decide +kernel
theorem dL_law_1047 : decode cL_law 1047 = .ok (.iconst 1, 1) := by decide +kernel
theorem dL_law_1048 : decode cL_law 1048 = .ok (.goto 4, 3) := by decide +kernel
theorem dL_law_1051 : decode cL_law 1051 = .ok (.iconst 0, 1) := by decide +kernel
theorem dL_law_1052 : decode cL_law 1052 = .ok (.invokevirtual 147, 3) := by decide +kernel
theorem dL_law_1055 : decode cL_law 1055 = .ok (.aload_n 2, 1) := by decide +kernel
theorem dL_law_1056 : decode cL_law 1056 = .ok (.aload_n 0, 1) := by decide +kernel
theorem dL_law_1057 : decode cL_law 1057 = .ok (.iload 5, 2) := by decide +kernel
theorem dL_law_1059 : decode cL_law 1059 = .ok (.iconst 1, 1) := by decide +kernel
theorem dL_law_1060 : decode cL_law 1060 = .ok (.iadd, 1) := by decide +kernel
theorem dL_law_1061 : decode cL_law 1061 = .ok (.iaload, 1) := by decide +kernel
theorem dL_law_1062 : decode cL_law 1062 = .ok (.ifCond .eq 7, 3) := by decide +kernel
theorem dL_law_1065 : decode cL_law 1065 = .ok (.iconst 1, 1) := by decide +kernel
theorem dL_law_1066 : decode cL_law 1066 = .ok (.goto 4, 3) := by decide +kernel
theorem dL_law_1069 : decode cL_law 1069 = .ok (.iconst 0, 1) := by decide +kernel
theorem dL_law_1070 : decode cL_law 1070 = .ok (.invokevirtual 151, 3) := by decide +kernel
theorem dL_law_1073 : decode cL_law 1073 = .ok (.if_icmp .eq 781, 3) := by decide +kernel
theorem dL_law_1076 : decode cL_law 1076 = .ok (.iconst 0, 1) := by decide +kernel
theorem dL_law_1077 : decode cL_law 1077 = .ok (.ireturn, 1) := by decide +kernel
theorem dL_law_1078 : decode cL_law 1078 = .ok (.aload_n 1, 1) := by decide +kernel
theorem dL_law_1079 : decode cL_law 1079 = .ok (.aload_n 0, 1) := by decide +kernel
theorem dL_law_1080 : decode cL_law 1080 = .ok (.iload 5, 2) := by decide +kernel
theorem dL_law_1082 : decode cL_law 1082 = .ok (.iconst 1, 1) := by decide +kernel
theorem dL_law_1083 : decode cL_law 1083 = .ok (.iadd, 1) := by decide +kernel
theorem dL_law_1084 : decode cL_law 1084 = .ok (.iaload, 1) := by decide +kernel
theorem dL_law_1085 : decode cL_law 1085 = .ok (.aload_n 3, 1) := by decide +kernel
theorem dL_law_1086 : decode cL_law 1086 = .ok (.invokestatic 152, 3) := by decide +kernel
theorem dL_law_1089 : decode cL_law 1089 = .ok (.istore 6, 2) := by decide +kernel
theorem dL_law_1091 : decode cL_law 1091 = .ok (.aload_n 2, 1) := by decide +kernel
theorem dL_law_1092 : decode cL_law 1092 = .ok (.aload_n 0, 1) := by decide +kernel
theorem dL_law_1093 : decode cL_law 1093 = .ok (.iload 5, 2) := by decide +kernel
theorem dL_law_1095 : decode cL_law 1095 = .ok (.iconst 1, 1) := by decide +kernel
theorem dL_law_1096 : decode cL_law 1096 = .ok (.iadd, 1) := by decide +kernel
theorem dL_law_1097 : decode cL_law 1097 = .ok (.iaload, 1) := by decide +kernel
theorem dL_law_1098 : decode cL_law 1098 = .ok (.invokevirtual 154, 3) := by decide +kernel
theorem dL_law_1101 : decode cL_law 1101 = .ok (.istore 7, 2) := by decide +kernel
theorem dL_law_1103 : decode cL_law 1103 = .ok (.aload_n 2, 1) := by decide +kernel
theorem dL_law_1104 : decode cL_law 1104 = .ok (.invokevirtual 104, 3) := by decide +kernel
theorem dL_law_1107 : decode cL_law 1107 = .ok (.iload 6, 2) := by decide +kernel
theorem dL_law_1109 : decode cL_law 1109 = .ok (.if_icmp .eq 5, 3) := by decide +kernel
theorem dL_law_1112 : decode cL_law 1112 = .ok (.iconst 0, 1) := by decide +kernel
theorem dL_law_1113 : decode cL_law 1113 = .ok (.ireturn, 1) := by decide +kernel
theorem dL_law_1114 : decode cL_law 1114 = .ok (.iload 6, 2) := by decide +kernel
theorem dL_law_1116 : decode cL_law 1116 = .ok (.ifCond .ne 15, 3) := by decide +kernel
theorem dL_law_1119 : decode cL_law 1119 = .ok (.aload_n 3, 1) := by decide +kernel
theorem dL_law_1120 : decode cL_law 1120 = .ok (.iconst 0, 1) := by decide +kernel
theorem dL_law_1121 : decode cL_law 1121 = .ok (.laload, 1) := by decide +kernel
theorem dL_law_1122 : decode cL_law 1122 = .ok (.iload 7, 2) := by decide +kernel
theorem dL_law_1124 : decode cL_law 1124 = .ok (.i2l, 1) := by decide +kernel
theorem dL_law_1125 : decode cL_law 1125 = .ok (.lcmp, 1) := by decide +kernel
theorem dL_law_1126 : decode cL_law 1126 = .ok (.ifCond .eq 5, 3) := by decide +kernel
theorem dL_law_1129 : decode cL_law 1129 = .ok (.iconst 0, 1) := by decide +kernel
theorem dL_law_1130 : decode cL_law 1130 = .ok (.ireturn, 1) := by decide +kernel
theorem dL_law_1131 : decode cL_law 1131 = .ok (.goto 723, 3) := by decide +kernel
theorem dL_law_1134 : decode cL_law 1134 = .ok (.aload_n 1, 1) := by decide +kernel
theorem dL_law_1135 : decode cL_law 1135 = .ok (.invokevirtual 155, 3) := by decide +kernel
theorem dL_law_1138 : decode cL_law 1138 = .ok (.aload_n 2, 1) := by decide +kernel
theorem dL_law_1139 : decode cL_law 1139 = .ok (.invokevirtual 158, 3) := by decide +kernel
theorem dL_law_1142 : decode cL_law 1142 = .ok (.if_icmp .eq 712, 3) := by decide +kernel
theorem dL_law_1145 : decode cL_law 1145 = .ok (.iconst 0, 1) := by decide +kernel
theorem dL_law_1146 : decode cL_law 1146 = .ok (.ireturn, 1) := by decide +kernel
theorem dL_law_1147 : decode cL_law 1147 = .ok (.aload_n 1, 1) := by decide +kernel
theorem dL_law_1148 : decode cL_law 1148 = .ok (.aload_n 0, 1) := by decide +kernel
theorem dL_law_1149 : decode cL_law 1149 = .ok (.iload 5, 2) := by decide +kernel
theorem dL_law_1151 : decode cL_law 1151 = .ok (.iconst 1, 1) := by decide +kernel
theorem dL_law_1152 : decode cL_law 1152 = .ok (.iadd, 1) := by decide +kernel
theorem dL_law_1153 : decode cL_law 1153 = .ok (.iaload, 1) := by decide +kernel
theorem dL_law_1154 : decode cL_law 1154 = .ok (.aload_n 3, 1) := by decide +kernel
theorem dL_law_1155 : decode cL_law 1155 = .ok (.invokestatic 159, 3) := by decide +kernel
theorem dL_law_1158 : decode cL_law 1158 = .ok (.istore 6, 2) := by decide +kernel
theorem dL_law_1160 : decode cL_law 1160 = .ok (.aload_n 2, 1) := by decide +kernel
theorem dL_law_1161 : decode cL_law 1161 = .ok (.aload_n 0, 1) := by decide +kernel
theorem dL_law_1162 : decode cL_law 1162 = .ok (.iload 5, 2) := by decide +kernel
theorem dL_law_1164 : decode cL_law 1164 = .ok (.iconst 1, 1) := by decide +kernel
theorem dL_law_1165 : decode cL_law 1165 = .ok (.iadd, 1) := by decide +kernel
theorem dL_law_1166 : decode cL_law 1166 = .ok (.iaload, 1) := by decide +kernel
theorem dL_law_1167 : decode cL_law 1167 = .ok (.invokevirtual 161, 3) := by decide +kernel
theorem dL_law_1170 : decode cL_law 1170 = .ok (.istore 7, 2) := by decide +kernel
theorem dL_law_1172 : decode cL_law 1172 = .ok (.aload_n 2, 1) := by decide +kernel
theorem dL_law_1173 : decode cL_law 1173 = .ok (.invokevirtual 104, 3) := by decide +kernel
theorem dL_law_1176 : decode cL_law 1176 = .ok (.iload 6, 2) := by decide +kernel
theorem dL_law_1178 : decode cL_law 1178 = .ok (.if_icmp .eq 5, 3) := by decide +kernel
theorem dL_law_1181 : decode cL_law 1181 = .ok (.iconst 0, 1) := by decide +kernel
theorem dL_law_1182 : decode cL_law 1182 = .ok (.ireturn, 1) := by decide +kernel
theorem dL_law_1183 : decode cL_law 1183 = .ok (.iload 6, 2) := by decide +kernel
theorem dL_law_1185 : decode cL_law 1185 = .ok (.ifCond .ne 15, 3) := by decide +kernel
theorem dL_law_1188 : decode cL_law 1188 = .ok (.aload_n 3, 1) := by decide +kernel
theorem dL_law_1189 : decode cL_law 1189 = .ok (.iconst 0, 1) := by decide +kernel
theorem dL_law_1190 : decode cL_law 1190 = .ok (.laload, 1) := by decide +kernel
theorem dL_law_1191 : decode cL_law 1191 = .ok (.iload 7, 2) := by decide +kernel
theorem dL_law_1193 : decode cL_law 1193 = .ok (.i2l, 1) := by decide +kernel
theorem dL_law_1194 : decode cL_law 1194 = .ok (.lcmp, 1) := by decide +kernel
theorem dL_law_1195 : decode cL_law 1195 = .ok (.ifCond .eq 5, 3) := by decide +kernel
theorem dL_law_1198 : decode cL_law 1198 = .ok (.iconst 0, 1) := by decide +kernel
theorem dL_law_1199 : decode cL_law 1199 = .ok (.ireturn, 1) := by decide +kernel
theorem dL_law_1200 : decode cL_law 1200 = .ok (.goto 654, 3) := by decide +kernel
theorem dL_law_1203 : decode cL_law 1203 = .ok (.aload_n 1, 1) := by decide +kernel
theorem dL_law_1204 : decode cL_law 1204 = .ok (.aload_n 0, 1) := by decide +kernel
theorem dL_law_1205 : decode cL_law 1205 = .ok (.iload 5, 2) := by decide +kernel
theorem dL_law_1207 : decode cL_law 1207 = .ok (.iconst 1, 1) := by decide +kernel
theorem dL_law_1208 : decode cL_law 1208 = .ok (.iadd, 1) := by decide +kernel
theorem dL_law_1209 : decode cL_law 1209 = .ok (.iaload, 1) := by decide +kernel
theorem dL_law_1210 : decode cL_law 1210 = .ok (.aload_n 0, 1) := by decide +kernel
theorem dL_law_1211 : decode cL_law 1211 = .ok (.iload 5, 2) := by decide +kernel
theorem dL_law_1213 : decode cL_law 1213 = .ok (.iconst 2, 1) := by decide +kernel
theorem dL_law_1214 : decode cL_law 1214 = .ok (.iadd, 1) := by decide +kernel
theorem dL_law_1215 : decode cL_law 1215 = .ok (.iaload, 1) := by decide +kernel
theorem dL_law_1216 : decode cL_law 1216 = .ok (.aload_n 0, 1) := by decide +kernel
theorem dL_law_1217 : decode cL_law 1217 = .ok (.iload 5, 2) := by decide +kernel
theorem dL_law_1219 : decode cL_law 1219 = .ok (.iconst 3, 1) := by decide +kernel
theorem dL_law_1220 : decode cL_law 1220 = .ok (.iadd, 1) := by decide +kernel
theorem dL_law_1221 : decode cL_law 1221 = .ok (.iaload, 1) := by decide +kernel
theorem dL_law_1222 : decode cL_law 1222 = .ok (.aload_n 0, 1) := by decide +kernel
theorem dL_law_1223 : decode cL_law 1223 = .ok (.iload 5, 2) := by decide +kernel
theorem dL_law_1225 : decode cL_law 1225 = .ok (.iconst 4, 1) := by decide +kernel
theorem dL_law_1226 : decode cL_law 1226 = .ok (.iadd, 1) := by decide +kernel
theorem dL_law_1227 : decode cL_law 1227 = .ok (.iaload, 1) := by decide +kernel
theorem dL_law_1228 : decode cL_law 1228 = .ok (.aload_n 0, 1) := by decide +kernel
theorem dL_law_1229 : decode cL_law 1229 = .ok (.iload 5, 2) := by decide +kernel
theorem dL_law_1231 : decode cL_law 1231 = .ok (.iconst 5, 1) := by decide +kernel
theorem dL_law_1232 : decode cL_law 1232 = .ok (.iadd, 1) := by decide +kernel
theorem dL_law_1233 : decode cL_law 1233 = .ok (.iaload, 1) := by decide +kernel
theorem dL_law_1234 : decode cL_law 1234 = .ok (.aload_n 3, 1) := by decide +kernel
theorem dL_law_1235 : decode cL_law 1235 = .ok (.invokestatic 162, 3) := by decide +kernel
theorem dL_law_1238 : decode cL_law 1238 = .ok (.istore 6, 2) := by decide +kernel
theorem dL_law_1240 : decode cL_law 1240 = .ok (.aload_n 2, 1) := by decide +kernel
theorem dL_law_1241 : decode cL_law 1241 = .ok (.aload_n 0, 1) := by decide +kernel
theorem dL_law_1242 : decode cL_law 1242 = .ok (.iload 5, 2) := by decide +kernel
theorem dL_law_1244 : decode cL_law 1244 = .ok (.iconst 1, 1) := by decide +kernel
theorem dL_law_1245 : decode cL_law 1245 = .ok (.iadd, 1) := by decide +kernel
theorem dL_law_1246 : decode cL_law 1246 = .ok (.iaload, 1) := by decide +kernel
theorem dL_law_1247 : decode cL_law 1247 = .ok (.aload_n 0, 1) := by decide +kernel
theorem dL_law_1248 : decode cL_law 1248 = .ok (.iload 5, 2) := by decide +kernel
theorem dL_law_1250 : decode cL_law 1250 = .ok (.iconst 2, 1) := by decide +kernel
theorem dL_law_1251 : decode cL_law 1251 = .ok (.iadd, 1) := by decide +kernel
theorem dL_law_1252 : decode cL_law 1252 = .ok (.iaload, 1) := by decide +kernel
theorem dL_law_1253 : decode cL_law 1253 = .ok (.aload_n 0, 1) := by decide +kernel
theorem dL_law_1254 : decode cL_law 1254 = .ok (.iload 5, 2) := by decide +kernel
theorem dL_law_1256 : decode cL_law 1256 = .ok (.iconst 3, 1) := by decide +kernel
theorem dL_law_1257 : decode cL_law 1257 = .ok (.iadd, 1) := by decide +kernel
theorem dL_law_1258 : decode cL_law 1258 = .ok (.iaload, 1) := by decide +kernel
theorem dL_law_1259 : decode cL_law 1259 = .ok (.aload_n 0, 1) := by decide +kernel
theorem dL_law_1260 : decode cL_law 1260 = .ok (.iload 5, 2) := by decide +kernel
theorem dL_law_1262 : decode cL_law 1262 = .ok (.iconst 4, 1) := by decide +kernel
theorem dL_law_1263 : decode cL_law 1263 = .ok (.iadd, 1) := by decide +kernel
theorem dL_law_1264 : decode cL_law 1264 = .ok (.iaload, 1) := by decide +kernel
theorem dL_law_1265 : decode cL_law 1265 = .ok (.aload_n 0, 1) := by decide +kernel
theorem dL_law_1266 : decode cL_law 1266 = .ok (.iload 5, 2) := by decide +kernel
theorem dL_law_1268 : decode cL_law 1268 = .ok (.iconst 5, 1) := by decide +kernel
theorem dL_law_1269 : decode cL_law 1269 = .ok (.iadd, 1) := by decide +kernel
theorem dL_law_1270 : decode cL_law 1270 = .ok (.iaload, 1) := by decide +kernel
theorem dL_law_1271 : decode cL_law 1271 = .ok (.invokevirtual 165, 3) := by decide +kernel
theorem dL_law_1274 : decode cL_law 1274 = .ok (.istore 7, 2) := by decide +kernel
theorem dL_law_1276 : decode cL_law 1276 = .ok (.aload_n 2, 1) := by decide +kernel
theorem dL_law_1277 : decode cL_law 1277 = .ok (.invokevirtual 104, 3) := by decide +kernel
theorem dL_law_1280 : decode cL_law 1280 = .ok (.iload 6, 2) := by decide +kernel
theorem dL_law_1282 : decode cL_law 1282 = .ok (.if_icmp .eq 5, 3) := by decide +kernel
theorem dL_law_1285 : decode cL_law 1285 = .ok (.iconst 0, 1) := by decide +kernel
theorem dL_law_1286 : decode cL_law 1286 = .ok (.ireturn, 1) := by decide +kernel
theorem dL_law_1287 : decode cL_law 1287 = .ok (.iload 6, 2) := by decide +kernel
theorem dL_law_1289 : decode cL_law 1289 = .ok (.ifCond .ne 15, 3) := by decide +kernel
theorem dL_law_1292 : decode cL_law 1292 = .ok (.aload_n 3, 1) := by decide +kernel
theorem dL_law_1293 : decode cL_law 1293 = .ok (.iconst 0, 1) := by decide +kernel
theorem dL_law_1294 : decode cL_law 1294 = .ok (.laload, 1) := by decide +kernel
theorem dL_law_1295 : decode cL_law 1295 = .ok (.iload 7, 2) := by decide +kernel
theorem dL_law_1297 : decode cL_law 1297 = .ok (.i2l, 1) := by decide +kernel
theorem dL_law_1298 : decode cL_law 1298 = .ok (.lcmp, 1) := by decide +kernel
theorem dL_law_1299 : decode cL_law 1299 = .ok (.ifCond .eq 5, 3) := by decide +kernel
theorem dL_law_1302 : decode cL_law 1302 = .ok (.iconst 0, 1) := by decide +kernel
theorem dL_law_1303 : decode cL_law 1303 = .ok (.ireturn, 1) := by decide +kernel
theorem dL_law_1304 : decode cL_law 1304 = .ok (.goto 550, 3) := by decide +kernel
theorem dL_law_1307 : decode cL_law 1307 = .ok (.aload_n 1, 1) := by decide +kernel
theorem dL_law_1308 : decode cL_law 1308 = .ok (.aload_n 0, 1) := by decide +kernel
theorem dL_law_1309 : decode cL_law 1309 = .ok (.iload 5, 2) := by decide +kernel
theorem dL_law_1311 : decode cL_law 1311 = .ok (.iconst 1, 1) := by decide +kernel
theorem dL_law_1312 : decode cL_law 1312 = .ok (.iadd, 1) := by decide +kernel
theorem dL_law_1313 : decode cL_law 1313 = .ok (.iaload, 1) := by decide +kernel
theorem dL_law_1314 : decode cL_law 1314 = .ok (.aload_n 0, 1) := by decide +kernel
theorem dL_law_1315 : decode cL_law 1315 = .ok (.iload 5, 2) := by decide +kernel
theorem dL_law_1317 : decode cL_law 1317 = .ok (.iconst 2, 1) := by decide +kernel
theorem dL_law_1318 : decode cL_law 1318 = .ok (.iadd, 1) := by decide +kernel
theorem dL_law_1319 : decode cL_law 1319 = .ok (.iaload, 1) := by decide +kernel
theorem dL_law_1320 : decode cL_law 1320 = .ok (.aload_n 0, 1) := by decide +kernel
theorem dL_law_1321 : decode cL_law 1321 = .ok (.iload 5, 2) := by decide +kernel
theorem dL_law_1323 : decode cL_law 1323 = .ok (.iconst 3, 1) := by decide +kernel
theorem dL_law_1324 : decode cL_law 1324 = .ok (.iadd, 1) := by decide +kernel
theorem dL_law_1325 : decode cL_law 1325 = .ok (.iaload, 1) := by decide +kernel
theorem dL_law_1326 : decode cL_law 1326 = .ok (.aload_n 3, 1) := by decide +kernel
theorem dL_law_1327 : decode cL_law 1327 = .ok (.invokestatic 166, 3) := by decide +kernel
theorem dL_law_1330 : decode cL_law 1330 = .ok (.istore 6, 2) := by decide +kernel
theorem dL_law_1332 : decode cL_law 1332 = .ok (.aload_n 2, 1) := by decide +kernel
theorem dL_law_1333 : decode cL_law 1333 = .ok (.aload_n 0, 1) := by decide +kernel
theorem dL_law_1334 : decode cL_law 1334 = .ok (.iload 5, 2) := by decide +kernel
theorem dL_law_1336 : decode cL_law 1336 = .ok (.iconst 1, 1) := by decide +kernel
theorem dL_law_1337 : decode cL_law 1337 = .ok (.iadd, 1) := by decide +kernel
theorem dL_law_1338 : decode cL_law 1338 = .ok (.iaload, 1) := by decide +kernel
theorem dL_law_1339 : decode cL_law 1339 = .ok (.aload_n 0, 1) := by decide +kernel
theorem dL_law_1340 : decode cL_law 1340 = .ok (.iload 5, 2) := by decide +kernel
theorem dL_law_1342 : decode cL_law 1342 = .ok (.iconst 2, 1) := by decide +kernel
theorem dL_law_1343 : decode cL_law 1343 = .ok (.iadd, 1) := by decide +kernel
theorem dL_law_1344 : decode cL_law 1344 = .ok (.iaload, 1) := by decide +kernel
theorem dL_law_1345 : decode cL_law 1345 = .ok (.aload_n 0, 1) := by decide +kernel
theorem dL_law_1346 : decode cL_law 1346 = .ok (.iload 5, 2) := by decide +kernel
theorem dL_law_1348 : decode cL_law 1348 = .ok (.iconst 3, 1) := by decide +kernel
theorem dL_law_1349 : decode cL_law 1349 = .ok (.iadd, 1) := by decide +kernel
theorem dL_law_1350 : decode cL_law 1350 = .ok (.iaload, 1) := by decide +kernel
theorem dL_law_1351 : decode cL_law 1351 = .ok (.invokevirtual 168, 3) := by decide +kernel
theorem dL_law_1354 : decode cL_law 1354 = .ok (.istore 7, 2) := by decide +kernel
theorem dL_law_1356 : decode cL_law 1356 = .ok (.aload_n 2, 1) := by decide +kernel
theorem dL_law_1357 : decode cL_law 1357 = .ok (.invokevirtual 104, 3) := by decide +kernel
theorem dL_law_1360 : decode cL_law 1360 = .ok (.iload 6, 2) := by decide +kernel
theorem dL_law_1362 : decode cL_law 1362 = .ok (.if_icmp .eq 5, 3) := by decide +kernel
theorem dL_law_1365 : decode cL_law 1365 = .ok (.iconst 0, 1) := by decide +kernel
theorem dL_law_1366 : decode cL_law 1366 = .ok (.ireturn, 1) := by decide +kernel
theorem dL_law_1367 : decode cL_law 1367 = .ok (.iload 6, 2) := by decide +kernel
theorem dL_law_1369 : decode cL_law 1369 = .ok (.ifCond .ne 15, 3) := by decide +kernel
theorem dL_law_1372 : decode cL_law 1372 = .ok (.aload_n 3, 1) := by decide +kernel
theorem dL_law_1373 : decode cL_law 1373 = .ok (.iconst 0, 1) := by decide +kernel
theorem dL_law_1374 : decode cL_law 1374 = .ok (.laload, 1) := by decide +kernel
theorem dL_law_1375 : decode cL_law 1375 = .ok (.iload 7, 2) := by decide +kernel
theorem dL_law_1377 : decode cL_law 1377 = .ok (.i2l, 1) := by decide +kernel
theorem dL_law_1378 : decode cL_law 1378 = .ok (.lcmp, 1) := by decide +kernel
theorem dL_law_1379 : decode cL_law 1379 = .ok (.ifCond .eq 5, 3) := by decide +kernel
theorem dL_law_1382 : decode cL_law 1382 = .ok (.iconst 0, 1) := by decide +kernel
theorem dL_law_1383 : decode cL_law 1383 = .ok (.ireturn, 1) := by decide +kernel
theorem dL_law_1384 : decode cL_law 1384 = .ok (.goto 470, 3) := by decide +kernel
theorem dL_law_1387 : decode cL_law 1387 = .ok (.aload_n 1, 1) := by decide +kernel
theorem dL_law_1388 : decode cL_law 1388 = .ok (.aload_n 0, 1) := by decide +kernel
theorem dL_law_1389 : decode cL_law 1389 = .ok (.iload 5, 2) := by decide +kernel
theorem dL_law_1391 : decode cL_law 1391 = .ok (.iconst 1, 1) := by decide +kernel
theorem dL_law_1392 : decode cL_law 1392 = .ok (.iadd, 1) := by decide +kernel
theorem dL_law_1393 : decode cL_law 1393 = .ok (.iaload, 1) := by decide +kernel
theorem dL_law_1394 : decode cL_law 1394 = .ok (.aload_n 0, 1) := by decide +kernel
theorem dL_law_1395 : decode cL_law 1395 = .ok (.iload 5, 2) := by decide +kernel
theorem dL_law_1397 : decode cL_law 1397 = .ok (.iconst 2, 1) := by decide +kernel
theorem dL_law_1398 : decode cL_law 1398 = .ok (.iadd, 1) := by decide +kernel
theorem dL_law_1399 : decode cL_law 1399 = .ok (.iaload, 1) := by decide +kernel
theorem dL_law_1400 : decode cL_law 1400 = .ok (.aload_n 3, 1) := by decide +kernel
theorem dL_law_1401 : decode cL_law 1401 = .ok (.invokestatic 169, 3) := by decide +kernel
theorem dL_law_1404 : decode cL_law 1404 = .ok (.istore 6, 2) := by decide +kernel
theorem dL_law_1406 : decode cL_law 1406 = .ok (.aload_n 2, 1) := by decide +kernel
theorem dL_law_1407 : decode cL_law 1407 = .ok (.aload_n 0, 1) := by decide +kernel
theorem dL_law_1408 : decode cL_law 1408 = .ok (.iload 5, 2) := by decide +kernel
theorem dL_law_1410 : decode cL_law 1410 = .ok (.iconst 1, 1) := by decide +kernel
theorem dL_law_1411 : decode cL_law 1411 = .ok (.iadd, 1) := by decide +kernel
theorem dL_law_1412 : decode cL_law 1412 = .ok (.iaload, 1) := by decide +kernel
theorem dL_law_1413 : decode cL_law 1413 = .ok (.aload_n 0, 1) := by decide +kernel
theorem dL_law_1414 : decode cL_law 1414 = .ok (.iload 5, 2) := by decide +kernel
theorem dL_law_1416 : decode cL_law 1416 = .ok (.iconst 2, 1) := by decide +kernel
theorem dL_law_1417 : decode cL_law 1417 = .ok (.iadd, 1) := by decide +kernel
theorem dL_law_1418 : decode cL_law 1418 = .ok (.iaload, 1) := by decide +kernel
theorem dL_law_1419 : decode cL_law 1419 = .ok (.invokevirtual 171, 3) := by decide +kernel
theorem dL_law_1422 : decode cL_law 1422 = .ok (.istore 7, 2) := by decide +kernel
theorem dL_law_1424 : decode cL_law 1424 = .ok (.aload_n 2, 1) := by decide +kernel
theorem dL_law_1425 : decode cL_law 1425 = .ok (.invokevirtual 104, 3) := by decide +kernel
theorem dL_law_1428 : decode cL_law 1428 = .ok (.iload 6, 2) := by decide +kernel
theorem dL_law_1430 : decode cL_law 1430 = .ok (.if_icmp .eq 5, 3) := by decide +kernel
theorem dL_law_1433 : decode cL_law 1433 = .ok (.iconst 0, 1) := by decide +kernel
theorem dL_law_1434 : decode cL_law 1434 = .ok (.ireturn, 1) := by decide +kernel
theorem dL_law_1435 : decode cL_law 1435 = .ok (.iload 6, 2) := by decide +kernel
theorem dL_law_1437 : decode cL_law 1437 = .ok (.ifCond .ne 15, 3) := by decide +kernel
theorem dL_law_1440 : decode cL_law 1440 = .ok (.aload_n 3, 1) := by decide +kernel
theorem dL_law_1441 : decode cL_law 1441 = .ok (.iconst 0, 1) := by decide +kernel
theorem dL_law_1442 : decode cL_law 1442 = .ok (.laload, 1) := by decide +kernel
theorem dL_law_1443 : decode cL_law 1443 = .ok (.iload 7, 2) := by decide +kernel
theorem dL_law_1445 : decode cL_law 1445 = .ok (.i2l, 1) := by decide +kernel
theorem dL_law_1446 : decode cL_law 1446 = .ok (.lcmp, 1) := by decide +kernel
theorem dL_law_1447 : decode cL_law 1447 = .ok (.ifCond .eq 5, 3) := by decide +kernel
theorem dL_law_1450 : decode cL_law 1450 = .ok (.iconst 0, 1) := by decide +kernel
theorem dL_law_1451 : decode cL_law 1451 = .ok (.ireturn, 1) := by decide +kernel
theorem dL_law_1452 : decode cL_law 1452 = .ok (.goto 402, 3) := by decide +kernel
theorem dL_law_1455 : decode cL_law 1455 = .ok (.aload_n 1, 1) := by decide +kernel
theorem dL_law_1456 : decode cL_law 1456 = .ok (.aload_n 0, 1) := by decide +kernel
theorem dL_law_1457 : decode cL_law 1457 = .ok (.iload 5, 2) := by decide +kernel
theorem dL_law_1459 : decode cL_law 1459 = .ok (.iconst 1, 1) := by decide +kernel
theorem dL_law_1460 : decode cL_law 1460 = .ok (.iadd, 1) := by decide +kernel
theorem dL_law_1461 : decode cL_law 1461 = .ok (.iaload, 1) := by decide +kernel
theorem dL_law_1462 : decode cL_law 1462 = .ok (.aload_n 0, 1) := by decide +kernel
theorem dL_law_1463 : decode cL_law 1463 = .ok (.iload 5, 2) := by decide +kernel
theorem dL_law_1465 : decode cL_law 1465 = .ok (.iconst 2, 1) := by decide +kernel
theorem dL_law_1466 : decode cL_law 1466 = .ok (.iadd, 1) := by decide +kernel
theorem dL_law_1467 : decode cL_law 1467 = .ok (.iaload, 1) := by decide +kernel
theorem dL_law_1468 : decode cL_law 1468 = .ok (.aload_n 0, 1) := by decide +kernel
theorem dL_law_1469 : decode cL_law 1469 = .ok (.iload 5, 2) := by decide +kernel
theorem dL_law_1471 : decode cL_law 1471 = .ok (.iconst 3, 1) := by decide +kernel
theorem dL_law_1472 : decode cL_law 1472 = .ok (.iadd, 1) := by decide +kernel
theorem dL_law_1473 : decode cL_law 1473 = .ok (.iaload, 1) := by decide +kernel
theorem dL_law_1474 : decode cL_law 1474 = .ok (.aload_n 3, 1) := by decide +kernel
theorem dL_law_1475 : decode cL_law 1475 = .ok (.invokestatic 172, 3) := by decide +kernel
theorem dL_law_1478 : decode cL_law 1478 = .ok (.istore 6, 2) := by decide +kernel
theorem dL_law_1480 : decode cL_law 1480 = .ok (.aload_n 2, 1) := by decide +kernel
theorem dL_law_1481 : decode cL_law 1481 = .ok (.aload_n 0, 1) := by decide +kernel
theorem dL_law_1482 : decode cL_law 1482 = .ok (.iload 5, 2) := by decide +kernel
theorem dL_law_1484 : decode cL_law 1484 = .ok (.iconst 1, 1) := by decide +kernel
theorem dL_law_1485 : decode cL_law 1485 = .ok (.iadd, 1) := by decide +kernel
theorem dL_law_1486 : decode cL_law 1486 = .ok (.iaload, 1) := by decide +kernel
theorem dL_law_1487 : decode cL_law 1487 = .ok (.aload_n 0, 1) := by decide +kernel
theorem dL_law_1488 : decode cL_law 1488 = .ok (.iload 5, 2) := by decide +kernel
theorem dL_law_1490 : decode cL_law 1490 = .ok (.iconst 2, 1) := by decide +kernel
theorem dL_law_1491 : decode cL_law 1491 = .ok (.iadd, 1) := by decide +kernel
theorem dL_law_1492 : decode cL_law 1492 = .ok (.iaload, 1) := by decide +kernel
theorem dL_law_1493 : decode cL_law 1493 = .ok (.aload_n 0, 1) := by decide +kernel
theorem dL_law_1494 : decode cL_law 1494 = .ok (.iload 5, 2) := by decide +kernel
theorem dL_law_1496 : decode cL_law 1496 = .ok (.iconst 3, 1) := by decide +kernel
theorem dL_law_1497 : decode cL_law 1497 = .ok (.iadd, 1) := by decide +kernel
theorem dL_law_1498 : decode cL_law 1498 = .ok (.iaload, 1) := by decide +kernel
theorem dL_law_1499 : decode cL_law 1499 = .ok (.invokevirtual 174, 3) := by decide +kernel
theorem dL_law_1502 : decode cL_law 1502 = .ok (.istore 7, 2) := by decide +kernel
theorem dL_law_1504 : decode cL_law 1504 = .ok (.aload_n 2, 1) := by decide +kernel
theorem dL_law_1505 : decode cL_law 1505 = .ok (.invokevirtual 104, 3) := by decide +kernel
theorem dL_law_1508 : decode cL_law 1508 = .ok (.iload 6, 2) := by decide +kernel
theorem dL_law_1510 : decode cL_law 1510 = .ok (.if_icmp .eq 5, 3) := by decide +kernel
theorem dL_law_1513 : decode cL_law 1513 = .ok (.iconst 0, 1) := by decide +kernel
theorem dL_law_1514 : decode cL_law 1514 = .ok (.ireturn, 1) := by decide +kernel
theorem dL_law_1515 : decode cL_law 1515 = .ok (.iload 6, 2) := by decide +kernel
theorem dL_law_1517 : decode cL_law 1517 = .ok (.ifCond .ne 15, 3) := by decide +kernel
theorem dL_law_1520 : decode cL_law 1520 = .ok (.aload_n 3, 1) := by decide +kernel
theorem dL_law_1521 : decode cL_law 1521 = .ok (.iconst 0, 1) := by decide +kernel
theorem dL_law_1522 : decode cL_law 1522 = .ok (.laload, 1) := by decide +kernel
theorem dL_law_1523 : decode cL_law 1523 = .ok (.iload 7, 2) := by decide +kernel
theorem dL_law_1525 : decode cL_law 1525 = .ok (.i2l, 1) := by decide +kernel
theorem dL_law_1526 : decode cL_law 1526 = .ok (.lcmp, 1) := by decide +kernel
theorem dL_law_1527 : decode cL_law 1527 = .ok (.ifCond .eq 5, 3) := by decide +kernel
theorem dL_law_1530 : decode cL_law 1530 = .ok (.iconst 0, 1) := by decide +kernel
theorem dL_law_1531 : decode cL_law 1531 = .ok (.ireturn, 1) := by decide +kernel
theorem dL_law_1532 : decode cL_law 1532 = .ok (.goto 322, 3) := by decide +kernel
theorem dL_law_1535 : decode cL_law 1535 = .ok (.aload_n 1, 1) := by decide +kernel
theorem dL_law_1536 : decode cL_law 1536 = .ok (.aload_n 0, 1) := by decide +kernel
theorem dL_law_1537 : decode cL_law 1537 = .ok (.iload 5, 2) := by decide +kernel
theorem dL_law_1539 : decode cL_law 1539 = .ok (.iconst 1, 1) := by decide +kernel
theorem dL_law_1540 : decode cL_law 1540 = .ok (.iadd, 1) := by decide +kernel
theorem dL_law_1541 : decode cL_law 1541 = .ok (.iaload, 1) := by decide +kernel
theorem dL_law_1542 : decode cL_law 1542 = .ok (.aload_n 3, 1) := by decide +kernel
theorem dL_law_1543 : decode cL_law 1543 = .ok (.invokestatic 175, 3) := by decide +kernel
theorem dL_law_1546 : decode cL_law 1546 = .ok (.istore 6, 2) := by decide +kernel
theorem dL_law_1548 : decode cL_law 1548 = .ok (.aload_n 2, 1) := by decide +kernel
theorem dL_law_1549 : decode cL_law 1549 = .ok (.aload_n 0, 1) := by decide +kernel
theorem dL_law_1550 : decode cL_law 1550 = .ok (.iload 5, 2) := by decide +kernel
theorem dL_law_1552 : decode cL_law 1552 = .ok (.iconst 1, 1) := by decide +kernel
theorem dL_law_1553 : decode cL_law 1553 = .ok (.iadd, 1) := by decide +kernel
theorem dL_law_1554 : decode cL_law 1554 = .ok (.iaload, 1) := by decide +kernel
theorem dL_law_1555 : decode cL_law 1555 = .ok (.invokevirtual 177, 3) := by decide +kernel
theorem dL_law_1558 : decode cL_law 1558 = .ok (.istore 7, 2) := by decide +kernel
theorem dL_law_1560 : decode cL_law 1560 = .ok (.aload_n 2, 1) := by decide +kernel
theorem dL_law_1561 : decode cL_law 1561 = .ok (.invokevirtual 104, 3) := by decide +kernel
theorem dL_law_1564 : decode cL_law 1564 = .ok (.iload 6, 2) := by decide +kernel
theorem dL_law_1566 : decode cL_law 1566 = .ok (.if_icmp .eq 5, 3) := by decide +kernel
theorem dL_law_1569 : decode cL_law 1569 = .ok (.iconst 0, 1) := by decide +kernel
theorem dL_law_1570 : decode cL_law 1570 = .ok (.ireturn, 1) := by decide +kernel
theorem dL_law_1571 : decode cL_law 1571 = .ok (.iload 6, 2) := by decide +kernel
theorem dL_law_1573 : decode cL_law 1573 = .ok (.ifCond .ne 15, 3) := by decide +kernel
theorem dL_law_1576 : decode cL_law 1576 = .ok (.aload_n 3, 1) := by decide +kernel
theorem dL_law_1577 : decode cL_law 1577 = .ok (.iconst 0, 1) := by decide +kernel
theorem dL_law_1578 : decode cL_law 1578 = .ok (.laload, 1) := by decide +kernel
theorem dL_law_1579 : decode cL_law 1579 = .ok (.iload 7, 2) := by decide +kernel
theorem dL_law_1581 : decode cL_law 1581 = .ok (.i2l, 1) := by decide +kernel
theorem dL_law_1582 : decode cL_law 1582 = .ok (.lcmp, 1) := by decide +kernel
theorem dL_law_1583 : decode cL_law 1583 = .ok (.ifCond .eq 5, 3) := by decide +kernel
theorem dL_law_1586 : decode cL_law 1586 = .ok (.iconst 0, 1) := by decide +kernel
theorem dL_law_1587 : decode cL_law 1587 = .ok (.ireturn, 1) := by decide +kernel
theorem dL_law_1588 : decode cL_law 1588 = .ok (.goto 266, 3) := by decide +kernel
theorem dL_law_1591 : decode cL_law 1591 = .ok (.aload_n 1, 1) := by decide +kernel
theorem dL_law_1592 : decode cL_law 1592 = .ok (.aload_n 0, 1) := by decide +kernel
theorem dL_law_1593 : decode cL_law 1593 = .ok (.iload 5, 2) := by decide +kernel
theorem dL_law_1595 : decode cL_law 1595 = .ok (.iconst 1, 1) := by decide +kernel
theorem dL_law_1596 : decode cL_law 1596 = .ok (.iadd, 1) := by decide +kernel
theorem dL_law_1597 : decode cL_law 1597 = .ok (.iaload, 1) := by decide +kernel
theorem dL_law_1598 : decode cL_law 1598 = .ok (.aload_n 3, 1) := by decide +kernel
theorem dL_law_1599 : decode cL_law 1599 = .ok (.invokestatic 178, 3) := by decide +kernel
theorem dL_law_1602 : decode cL_law 1602 = .ok (.istore 6, 2) := by decide +kernel
theorem dL_law_1604 : decode cL_law 1604 = .ok (.aload_n 2, 1) := by decide +kernel
theorem dL_law_1605 : decode cL_law 1605 = .ok (.aload_n 0, 1) := by decide +kernel
theorem dL_law_1606 : decode cL_law 1606 = .ok (.iload 5, 2) := by decide +kernel
theorem dL_law_1608 : decode cL_law 1608 = .ok (.iconst 1, 1) := by decide +kernel
theorem dL_law_1609 : decode cL_law 1609 = .ok (.iadd, 1) := by decide +kernel
theorem dL_law_1610 : decode cL_law 1610 = .ok (.iaload, 1) := by decide +kernel
theorem dL_law_1611 : decode cL_law 1611 = .ok (.invokevirtual 180, 3) := by decide +kernel
theorem dL_law_1614 : decode cL_law 1614 = .ok (.istore 7, 2) := by decide +kernel
theorem dL_law_1616 : decode cL_law 1616 = .ok (.aload_n 2, 1) := by decide +kernel
theorem dL_law_1617 : decode cL_law 1617 = .ok (.invokevirtual 104, 3) := by decide +kernel
theorem dL_law_1620 : decode cL_law 1620 = .ok (.iload 6, 2) := by decide +kernel
theorem dL_law_1622 : decode cL_law 1622 = .ok (.if_icmp .eq 5, 3) := by decide +kernel
theorem dL_law_1625 : decode cL_law 1625 = .ok (.iconst 0, 1) := by decide +kernel
theorem dL_law_1626 : decode cL_law 1626 = .ok (.ireturn, 1) := by decide +kernel
theorem dL_law_1627 : decode cL_law 1627 = .ok (.iload 6, 2) := by decide +kernel
theorem dL_law_1629 : decode cL_law 1629 = .ok (.ifCond .ne 15, 3) := by decide +kernel
theorem dL_law_1632 : decode cL_law 1632 = .ok (.aload_n 3, 1) := by decide +kernel
theorem dL_law_1633 : decode cL_law 1633 = .ok (.iconst 0, 1) := by decide +kernel
theorem dL_law_1634 : decode cL_law 1634 = .ok (.laload, 1) := by decide +kernel
theorem dL_law_1635 : decode cL_law 1635 = .ok (.iload 7, 2) := by decide +kernel
theorem dL_law_1637 : decode cL_law 1637 = .ok (.i2l, 1) := by decide +kernel
theorem dL_law_1638 : decode cL_law 1638 = .ok (.lcmp, 1) := by decide +kernel
theorem dL_law_1639 : decode cL_law 1639 = .ok (.ifCond .eq 5, 3) := by decide +kernel
theorem dL_law_1642 : decode cL_law 1642 = .ok (.iconst 0, 1) := by decide +kernel
theorem dL_law_1643 : decode cL_law 1643 = .ok (.ireturn, 1) := by decide +kernel
theorem dL_law_1644 : decode cL_law 1644 = .ok (.goto 210, 3) := by decide +kernel
theorem dL_law_1647 : decode cL_law 1647 = .ok (.aload_n 1, 1) := by decide +kernel
theorem dL_law_1648 : decode cL_law 1648 = .ok (.aload_n 0, 1) := by decide +kernel
theorem dL_law_1649 : decode cL_law 1649 = .ok (.iload 5, 2) := by decide +kernel
theorem dL_law_1651 : decode cL_law 1651 = .ok (.iconst 1, 1) := by decide +kernel
theorem dL_law_1652 : decode cL_law 1652 = .ok (.iadd, 1) := by decide +kernel
theorem dL_law_1653 : decode cL_law 1653 = .ok (.iaload, 1) := by decide +kernel
theorem dL_law_1654 : decode cL_law 1654 = .ok (.aload_n 3, 1) := by decide +kernel
theorem dL_law_1655 : decode cL_law 1655 = .ok (.invokestatic 181, 3) := by decide +kernel
theorem dL_law_1658 : decode cL_law 1658 = .ok (.istore 6, 2) := by decide +kernel
theorem dL_law_1660 : decode cL_law 1660 = .ok (.aload_n 2, 1) := by decide +kernel
theorem dL_law_1661 : decode cL_law 1661 = .ok (.aload_n 0, 1) := by decide +kernel
theorem dL_law_1662 : decode cL_law 1662 = .ok (.iload 5, 2) := by decide +kernel
theorem dL_law_1664 : decode cL_law 1664 = .ok (.iconst 1, 1) := by decide +kernel
theorem dL_law_1665 : decode cL_law 1665 = .ok (.iadd, 1) := by decide +kernel
theorem dL_law_1666 : decode cL_law 1666 = .ok (.iaload, 1) := by decide +kernel
theorem dL_law_1667 : decode cL_law 1667 = .ok (.invokevirtual 183, 3) := by decide +kernel
theorem dL_law_1670 : decode cL_law 1670 = .ok (.istore 7, 2) := by decide +kernel
theorem dL_law_1672 : decode cL_law 1672 = .ok (.aload_n 2, 1) := by decide +kernel
theorem dL_law_1673 : decode cL_law 1673 = .ok (.invokevirtual 104, 3) := by decide +kernel
theorem dL_law_1676 : decode cL_law 1676 = .ok (.iload 6, 2) := by decide +kernel
theorem dL_law_1678 : decode cL_law 1678 = .ok (.if_icmp .eq 5, 3) := by decide +kernel
theorem dL_law_1681 : decode cL_law 1681 = .ok (.iconst 0, 1) := by decide +kernel
theorem dL_law_1682 : decode cL_law 1682 = .ok (.ireturn, 1) := by decide +kernel
theorem dL_law_1683 : decode cL_law 1683 = .ok (.iload 6, 2) := by decide +kernel
theorem dL_law_1685 : decode cL_law 1685 = .ok (.ifCond .ne 15, 3) := by decide +kernel
theorem dL_law_1688 : decode cL_law 1688 = .ok (.aload_n 3, 1) := by decide +kernel
theorem dL_law_1689 : decode cL_law 1689 = .ok (.iconst 0, 1) := by decide +kernel
theorem dL_law_1690 : decode cL_law 1690 = .ok (.laload, 1) := by decide +kernel
theorem dL_law_1691 : decode cL_law 1691 = .ok (.iload 7, 2) := by decide +kernel
theorem dL_law_1693 : decode cL_law 1693 = .ok (.i2l, 1) := by decide +kernel
theorem dL_law_1694 : decode cL_law 1694 = .ok (.lcmp, 1) := by decide +kernel
theorem dL_law_1695 : decode cL_law 1695 = .ok (.ifCond .eq 5, 3) := by decide +kernel
theorem dL_law_1698 : decode cL_law 1698 = .ok (.iconst 0, 1) := by decide +kernel
theorem dL_law_1699 : decode cL_law 1699 = .ok (.ireturn, 1) := by decide +kernel
theorem dL_law_1700 : decode cL_law 1700 = .ok (.goto 154, 3) := by decide +kernel
theorem dL_law_1703 : decode cL_law 1703 = .ok (.aload_n 1, 1) := by decide +kernel
theorem dL_law_1704 : decode cL_law 1704 = .ok (.aload_n 0, 1) := by decide +kernel
theorem dL_law_1705 : decode cL_law 1705 = .ok (.iload 5, 2) := by decide +kernel
theorem dL_law_1707 : decode cL_law 1707 = .ok (.iconst 1, 1) := by decide +kernel
theorem dL_law_1708 : decode cL_law 1708 = .ok (.iadd, 1) := by decide +kernel
theorem dL_law_1709 : decode cL_law 1709 = .ok (.iaload, 1) := by decide +kernel
theorem dL_law_1710 : decode cL_law 1710 = .ok (.aload_n 0, 1) := by decide +kernel
theorem dL_law_1711 : decode cL_law 1711 = .ok (.iload 5, 2) := by decide +kernel
theorem dL_law_1713 : decode cL_law 1713 = .ok (.iconst 2, 1) := by decide +kernel
theorem dL_law_1714 : decode cL_law 1714 = .ok (.iadd, 1) := by decide +kernel
theorem dL_law_1715 : decode cL_law 1715 = .ok (.iaload, 1) := by decide +kernel
theorem dL_law_1716 : decode cL_law 1716 = .ok (.aload_n 3, 1) := by decide +kernel
theorem dL_law_1717 : decode cL_law 1717 = .ok (.invokestatic 184, 3) := by decide +kernel
theorem dL_law_1720 : decode cL_law 1720 = .ok (.istore 6, 2) := by decide +kernel
theorem dL_law_1722 : decode cL_law 1722 = .ok (.aload_n 2, 1) := by decide +kernel
theorem dL_law_1723 : decode cL_law 1723 = .ok (.aload_n 0, 1) := by decide +kernel
theorem dL_law_1724 : decode cL_law 1724 = .ok (.iload 5, 2) := by decide +kernel
theorem dL_law_1726 : decode cL_law 1726 = .ok (.iconst 1, 1) := by decide +kernel
theorem dL_law_1727 : decode cL_law 1727 = .ok (.iadd, 1) := by decide +kernel
theorem dL_law_1728 : decode cL_law 1728 = .ok (.iaload, 1) := by decide +kernel
theorem dL_law_1729 : decode cL_law 1729 = .ok (.aload_n 0, 1) := by decide +kernel
theorem dL_law_1730 : decode cL_law 1730 = .ok (.iload 5, 2) := by decide +kernel
theorem dL_law_1732 : decode cL_law 1732 = .ok (.iconst 2, 1) := by decide +kernel
theorem dL_law_1733 : decode cL_law 1733 = .ok (.iadd, 1) := by decide +kernel
theorem dL_law_1734 : decode cL_law 1734 = .ok (.iaload, 1) := by decide +kernel
theorem dL_law_1735 : decode cL_law 1735 = .ok (.invokevirtual 186, 3) := by decide +kernel
theorem dL_law_1738 : decode cL_law 1738 = .ok (.istore 7, 2) := by decide +kernel
theorem dL_law_1740 : decode cL_law 1740 = .ok (.aload_n 2, 1) := by decide +kernel
theorem dL_law_1741 : decode cL_law 1741 = .ok (.invokevirtual 104, 3) := by decide +kernel
theorem dL_law_1744 : decode cL_law 1744 = .ok (.iload 6, 2) := by decide +kernel
theorem dL_law_1746 : decode cL_law 1746 = .ok (.if_icmp .eq 5, 3) := by decide +kernel
theorem dL_law_1749 : decode cL_law 1749 = .ok (.iconst 0, 1) := by decide +kernel
theorem dL_law_1750 : decode cL_law 1750 = .ok (.ireturn, 1) := by decide +kernel
theorem dL_law_1751 : decode cL_law 1751 = .ok (.iload 6, 2) := by decide +kernel
theorem dL_law_1753 : decode cL_law 1753 = .ok (.ifCond .ne 15, 3) := by decide +kernel
theorem dL_law_1756 : decode cL_law 1756 = .ok (.aload_n 3, 1) := by decide +kernel
theorem dL_law_1757 : decode cL_law 1757 = .ok (.iconst 0, 1) := by decide +kernel
theorem dL_law_1758 : decode cL_law 1758 = .ok (.laload, 1) := by decide +kernel
theorem dL_law_1759 : decode cL_law 1759 = .ok (.iload 7, 2) := by decide +kernel
theorem dL_law_1761 : decode cL_law 1761 = .ok (.i2l, 1) := by decide +kernel
theorem dL_law_1762 : decode cL_law 1762 = .ok (.lcmp, 1) := by decide +kernel
theorem dL_law_1763 : decode cL_law 1763 = .ok (.ifCond .eq 5, 3) := by decide +kernel
theorem dL_law_1766 : decode cL_law 1766 = .ok (.iconst 0, 1) := by decide +kernel
theorem dL_law_1767 : decode cL_law 1767 = .ok (.ireturn, 1) := by decide +kernel
theorem dL_law_1768 : decode cL_law 1768 = .ok (.goto 86, 3) := by decide +kernel
theorem dL_law_1771 : decode cL_law 1771 = .ok (.aload_n 1, 1) := by decide +kernel
theorem dL_law_1772 : decode cL_law 1772 = .ok (.aload_n 0, 1) := by decide +kernel
theorem dL_law_1773 : decode cL_law 1773 = .ok (.iload 5, 2) := by decide +kernel
theorem dL_law_1775 : decode cL_law 1775 = .ok (.iconst 1, 1) := by decide +kernel
theorem dL_law_1776 : decode cL_law 1776 = .ok (.iadd, 1) := by decide +kernel
theorem dL_law_1777 : decode cL_law 1777 = .ok (.iaload, 1) := by decide +kernel
theorem dL_law_1778 : decode cL_law 1778 = .ok (.aload_n 3, 1) := by decide +kernel
theorem dL_law_1779 : decode cL_law 1779 = .ok (.invokestatic 187, 3) := by decide +kernel
theorem dL_law_1782 : decode cL_law 1782 = .ok (.istore 6, 2) := by decide +kernel
theorem dL_law_1784 : decode cL_law 1784 = .ok (.aload_n 2, 1) := by decide +kernel
theorem dL_law_1785 : decode cL_law 1785 = .ok (.aload_n 0, 1) := by decide +kernel
theorem dL_law_1786 : decode cL_law 1786 = .ok (.iload 5, 2) := by decide +kernel
theorem dL_law_1788 : decode cL_law 1788 = .ok (.iconst 1, 1) := by decide +kernel
theorem dL_law_1789 : decode cL_law 1789 = .ok (.iadd, 1) := by decide +kernel
theorem dL_law_1790 : decode cL_law 1790 = .ok (.iaload, 1) := by decide +kernel
theorem dL_law_1791 : decode cL_law 1791 = .ok (.invokevirtual 189, 3) := by decide +kernel
theorem dL_law_1794 : decode cL_law 1794 = .ok (.istore 7, 2) := by decide +kernel
theorem dL_law_1796 : decode cL_law 1796 = .ok (.aload_n 2, 1) := by decide +kernel
theorem dL_law_1797 : decode cL_law 1797 = .ok (.invokevirtual 104, 3) := by decide +kernel
theorem dL_law_1800 : decode cL_law 1800 = .ok (.iload 6, 2) := by decide +kernel
theorem dL_law_1802 : decode cL_law 1802 = .ok (.if_icmp .eq 5, 3) := by decide +kernel
theorem dL_law_1805 : decode cL_law 1805 = .ok (.iconst 0, 1) := by decide +kernel
theorem dL_law_1806 : decode cL_law 1806 = .ok (.ireturn, 1) := by decide +kernel
theorem dL_law_1807 : decode cL_law 1807 = .ok (.iload 6, 2) := by decide +kernel
theorem dL_law_1809 : decode cL_law 1809 = .ok (.ifCond .ne 15, 3) := by decide +kernel
theorem dL_law_1812 : decode cL_law 1812 = .ok (.aload_n 3, 1) := by decide +kernel
theorem dL_law_1813 : decode cL_law 1813 = .ok (.iconst 0, 1) := by decide +kernel
theorem dL_law_1814 : decode cL_law 1814 = .ok (.laload, 1) := by decide +kernel
theorem dL_law_1815 : decode cL_law 1815 = .ok (.iload 7, 2) := by decide +kernel
theorem dL_law_1817 : decode cL_law 1817 = .ok (.i2l, 1) := by decide +kernel
theorem dL_law_1818 : decode cL_law 1818 = .ok (.lcmp, 1) := by decide +kernel
theorem dL_law_1819 : decode cL_law 1819 = .ok (.ifCond .eq 5, 3) := by decide +kernel
theorem dL_law_1822 : decode cL_law 1822 = .ok (.iconst 0, 1) := by decide +kernel
theorem dL_law_1823 : decode cL_law 1823 = .ok (.ireturn, 1) := by decide +kernel
theorem dL_law_1824 : decode cL_law 1824 = .ok (.goto 30, 3) := by decide +kernel
theorem dL_law_1827 : decode cL_law 1827 = .ok (.aload_n 1, 1) := by decide +kernel
theorem dL_law_1828 : decode cL_law 1828 = .ok (.invokevirtual 190, 3) := by decide +kernel
theorem dL_law_1831 : decode cL_law 1831 = .ok (.aload_n 2, 1) := by decide +kernel
theorem dL_law_1832 : decode cL_law 1832 = .ok (.invokevirtual 193, 3) := by decide +kernel
theorem dL_law_1835 : decode cL_law 1835 = .ok (.if_icmp .eq 19, 3) := by decide +kernel
theorem dL_law_1838 : decode cL_law 1838 = .ok (.iconst 0, 1) := by decide +kernel
theorem dL_law_1839 : decode cL_law 1839 = .ok (.ireturn, 1) := by decide +kernel
theorem dL_law_1840 : decode cL_law 1840 = .ok (.aload_n 1, 1) := by decide +kernel
theorem dL_law_1841 : decode cL_law 1841 = .ok (.invokevirtual 194, 3) := by decide +kernel
theorem dL_law_1844 : decode cL_law 1844 = .ok (.aload_n 2, 1) := by decide +kernel
theorem dL_law_1845 : decode cL_law 1845 = .ok (.invokevirtual 198, 3) := by decide +kernel
theorem dL_law_1848 : decode cL_law 1848 = .ok (.lcmp, 1) := by decide +kernel
theorem dL_law_1849 : decode cL_law 1849 = .ok (.ifCond .eq 5, 3) := by decide +kernel
theorem dL_law_1852 : decode cL_law 1852 = .ok (.iconst 0, 1) := by decide +kernel
theorem dL_law_1853 : decode cL_law 1853 = .ok (.ireturn, 1) := by decide +kernel
theorem dL_law_1854 : decode cL_law 1854 = .ok (.iinc 5 6, 3) := by decide +kernel
theorem dL_law_1857 : decode cL_law 1857 = .ok (.goto (-1829), 3) := by decide +kernel
theorem dL_law_1860 : decode cL_law 1860 = .ok (.iconst 1, 1) := by decide +kernel
theorem dL_law_1861 : decode cL_law 1861 = .ok (.ireturn, 1) := by decide +kernel
