theorem dX7_sumOfLumps_12 : decode cX7_sumOfLumps 12 = .ok (.iload_n 1, 1) := by decide +kernel
theorem dX7_sumOfLumps_13 : decode cX7_sumOfLumps 13 = .ok (.ifCond .le 28, 3) := by decide +kernel
theorem dX7_sumOfLumps_16 : decode cX7_sumOfLumps 16 = .ok (.iload_n 2, 1) := by decide +kernel
theorem dX7_sumOfLumps_17 : decode cX7_sumOfLumps 17 = .ok (.sipush 4000, 3) := by decide +kernel
theorem dX7_sumOfLumps_20 : decode cX7_sumOfLumps 20 = .ok (.aload_n 0, 1) := by decide +kernel
theorem dX7_sumOfLumps_21 : decode cX7_sumOfLumps 21 = .ok (.getfield 9, 3) := by decide +kernel
theorem dX7_sumOfLumps_24 : decode cX7_sumOfLumps 24 = .ok (.iload_n 3, 1) := by decide +kernel
theorem dX7_sumOfLumps_25 : decode cX7_sumOfLumps 25 = .ok (.iaload, 1) := by decide +kernel
theorem dX7_sumOfLumps_26 : decode cX7_sumOfLumps 26 = .ok (.iload_n 1, 1) := by decide +kernel
theorem dX7_sumOfLumps_27 : decode cX7_sumOfLumps 27 = .ok (.invokestatic 19, 3) := by decide +kernel
theorem dX7_sumOfLumps_30 : decode cX7_sumOfLumps 30 = .ok (.imul, 1) := by decide +kernel
theorem dX7_sumOfLumps_31 : decode cX7_sumOfLumps 31 = .ok (.iload_n 1, 1) := by decide +kernel
theorem dX7_sumOfLumps_32 : decode cX7_sumOfLumps 32 = .ok (.idiv, 1) := by decide +kernel
theorem dX7_sumOfLumps_33 : decode cX7_sumOfLumps 33 = .ok (.iadd, 1) := by decide +kernel
theorem dX7_sumOfLumps_34 : decode cX7_sumOfLumps 34 = .ok (.istore_n 2, 1) := by decide +kernel
theorem dX7_sumOfLumps_35 : decode cX7_sumOfLumps 35 = .ok (.iinc 3 1, 3) := by decide +kernel
theorem dX7_sumOfLumps_38 : decode cX7_sumOfLumps 38 = .ok (.goto (-34), 3) := by decide +kernel
theorem dX7_sumOfLumps_41 : decode cX7_sumOfLumps 41 = .ok (.iload_n 2, 1) := by decide +kernel
theorem dX7_sumOfLumps_42 : decode cX7_sumOfLumps 42 = .ok (.ireturn, 1) := by decide +kernel
theorem dX7_bestUnit_0 : decode cX7_bestUnit 0 = .ok (.iload_n 1, 1) := by decide +kernel
theorem dX7_bestUnit_1 : decode cX7_bestUnit 1 = .ok (.istore 5, 2) := by decide +kernel
theorem dX7_bestUnit_3 : decode cX7_bestUnit 3 = .ok (.ldc 30, 2) := by decide +kernel
theorem dX7_bestUnit_5 : decode cX7_bestUnit 5 = .ok (.istore 6, 2) := by decide +kernel
theorem dX7_bestUnit_7 : decode cX7_bestUnit 7 = .ok (.iload_n 1, 1) := by decide +kernel
theorem dX7_bestUnit_8 : decode cX7_bestUnit 8 = .ok (.iload_n 2, 1) := by decide +kernel
theorem dX7_bestUnit_9 : decode cX7_bestUnit 9 = .ok (.iload_n 3, 1) := by decide +kernel
theorem dX7_bestUnit_10 : decode cX7_bestUnit 10 = .ok (.invokestatic 31, 3) := by decide +kernel
theorem dX7_bestUnit_13 : decode cX7_bestUnit 13 = .ok (.istore 7, 2) := by decide +kernel
theorem dX7_bestUnit_15 : decode cX7_bestUnit 15 = .ok (.iconst 0, 1) := by decide +kernel
theorem dX7_bestUnit_16 : decode cX7_bestUnit 16 = .ok (.istore 8, 2) := by decide +kernel
theorem dX7_bestUnit_18 : decode cX7_bestUnit 18 = .ok (.iload 8, 2) := by decide +kernel
theorem dX7_bestUnit_20 : decode cX7_bestUnit 20 = .ok (.iload 7, 2) := by decide +kernel
theorem dX7_bestUnit_22 : decode cX7_bestUnit 22 = .ok (.if_icmp .ge 45, 3) := by decide +kernel
theorem dX7_bestUnit_25 : decode cX7_bestUnit 25 = .ok (.iload_n 1, 1) := by decide +kernel
theorem dX7_bestUnit_26 : decode cX7_bestUnit 26 = .ok (.iload 8, 2) := by decide +kernel
theorem dX7_bestUnit_28 : decode cX7_bestUnit 28 = .ok (.iload_n 3, 1) := by decide +kernel
theorem dX7_bestUnit_29 : decode cX7_bestUnit 29 = .ok (.imul, 1) := by decide +kernel
theorem dX7_bestUnit_30 : decode cX7_bestUnit 30 = .ok (.iadd, 1) := by decide +kernel
theorem dX7_bestUnit_31 : decode cX7_bestUnit 31 = .ok (.istore 9, 2) := by decide +kernel
theorem dX7_bestUnit_33 : decode cX7_bestUnit 33 = .ok (.aload_n 0, 1) := by decide +kernel
theorem dX7_bestUnit_34 : decode cX7_bestUnit 34 = .ok (.iload 9, 2) := by decide +kernel
theorem dX7_bestUnit_36 : decode cX7_bestUnit 36 = .ok (.iload 4, 2) := by decide +kernel
theorem dX7_bestUnit_38 : decode cX7_bestUnit 38 = .ok (.invokestatic 35, 3) := by decide +kernel
theorem dX7_bestUnit_41 : decode cX7_bestUnit 41 = .ok (.invokevirtual 39, 3) := by decide +kernel
theorem dX7_bestUnit_44 : decode cX7_bestUnit 44 = .ok (.istore 10, 2) := by decide +kernel
theorem dX7_bestUnit_46 : decode cX7_bestUnit 46 = .ok (.iload 10, 2) := by decide +kernel
theorem dX7_bestUnit_48 : decode cX7_bestUnit 48 = .ok (.iload 6, 2) := by decide +kernel
theorem dX7_bestUnit_50 : decode cX7_bestUnit 50 = .ok (.if_icmp .ge 11, 3) := by decide +kernel
theorem dX7_bestUnit_53 : decode cX7_bestUnit 53 = .ok (.iload 10, 2) := by decide +kernel
theorem dX7_bestUnit_55 : decode cX7_bestUnit 55 = .ok (.istore 6, 2) := by decide +kernel
theorem dX7_bestUnit_57 : decode cX7_bestUnit 57 = .ok (.iload 9, 2) := by decide +kernel
theorem dX7_bestUnit_59 : decode cX7_bestUnit 59 = .ok (.istore 5, 2) := by decide +kernel
theorem dX7_bestUnit_61 : decode cX7_bestUnit 61 = .ok (.iinc 8 1, 3) := by decide +kernel
theorem dX7_bestUnit_64 : decode cX7_bestUnit 64 = .ok (.goto (-46), 3) := by decide +kernel
theorem dX7_bestUnit_67 : decode cX7_bestUnit 67 = .ok (.iload 5, 2) := by decide +kernel
theorem dX7_bestUnit_69 : decode cX7_bestUnit 69 = .ok (.ireturn, 1) := by decide +kernel
theorem dX7_lumpsOfBestUnit_0 : decode cX7_lumpsOfBestUnit 0 = .ok (.aload_n 0, 1) := by decide +kernel
theorem dX7_lumpsOfBestUnit_1 : decode cX7_lumpsOfBestUnit 1 = .ok (.aload_n 0, 1) := by decide +kernel
theorem dX7_lumpsOfBestUnit_2 : decode cX7_lumpsOfBestUnit 2 = .ok (.iload_n 1, 1) := by decide +kernel
theorem dX7_lumpsOfBestUnit_3 : decode cX7_lumpsOfBestUnit 3 = .ok (.iload_n 2, 1) := by decide +kernel
theorem dX7_lumpsOfBestUnit_4 : decode cX7_lumpsOfBestUnit 4 = .ok (.iload_n 3, 1) := by decide +kernel
theorem dX7_lumpsOfBestUnit_5 : decode cX7_lumpsOfBestUnit 5 = .ok (.iload 4, 2) := by decide +kernel
theorem dX7_lumpsOfBestUnit_7 : decode cX7_lumpsOfBestUnit 7 = .ok (.invokevirtual 43, 3) := by decide +kernel
theorem dX7_lumpsOfBestUnit_10 : decode cX7_lumpsOfBestUnit 10 = .ok (.iload 4, 2) := by decide +kernel
theorem dX7_lumpsOfBestUnit_12 : decode cX7_lumpsOfBestUnit 12 = .ok (.invokestatic 35, 3) := by decide +kernel
theorem dX7_lumpsOfBestUnit_15 : decode cX7_lumpsOfBestUnit 15 = .ok (.invokevirtual 39, 3) := by decide +kernel
theorem dX7_lumpsOfBestUnit_18 : decode cX7_lumpsOfBestUnit 18 = .ok (.ireturn, 1) := by decide +kernel
theorem dX8_init_0 : decode cX8_init 0 = .ok (.aload_n 0, 1) := by decide +kernel
theorem dX8_init_1 : decode cX8_init 1 = .ok (.invokespecial 3, 3) := by decide +kernel
theorem dX8_init_4 : decode cX8_init 4 = .ok (.aload_n 0, 1) := by decide +kernel
theorem dX8_init_5 : decode cX8_init 5 = .ok (.new 9, 3) := by decide +kernel
theorem dX8_init_8 : decode cX8_init 8 = .ok (.dup, 1) := by decide +kernel
theorem dX8_init_9 : decode cX8_init 9 = .ok (.iconst 4, 1) := by decide +kernel
theorem dX8_init_10 : decode cX8_init 10 = .ok (.invokespecial 11, 3) := by decide +kernel
theorem dX8_init_13 : decode cX8_init 13 = .ok (.putfield 14, 3) := by decide +kernel
theorem dX8_init_16 : decode cX8_init 16 = .ok (.aload_n 0, 1) := by decide +kernel
theorem dX8_init_17 : decode cX8_init 17 = .ok (.new 9, 3) := by decide +kernel
theorem dX8_init_20 : decode cX8_init 20 = .ok (.dup, 1) := by decide +kernel
theorem dX8_init_21 : decode cX8_init 21 = .ok (.bipush 8, 2) := by decide +kernel
theorem dX8_init_23 : decode cX8_init 23 = .ok (.invokespecial 11, 3) := by decide +kernel
theorem dX8_init_26 : decode cX8_init 26 = .ok (.putfield 20, 3) := by decide +kernel
theorem dX8_init_29 : decode cX8_init 29 = .ok (.aload_n 0, 1) := by decide +kernel
theorem dX8_init_30 : decode cX8_init 30 = .ok (.new 9, 3) := by decide +kernel
theorem dX8_init_33 : decode cX8_init 33 = .ok (.dup, 1) := by decide +kernel
theorem dX8_init_34 : decode cX8_init 34 = .ok (.iconst 5, 1) := by decide +kernel
theorem dX8_init_35 : decode cX8_init 35 = .ok (.invokespecial 11, 3) := by decide +kernel
theorem dX8_init_38 : decode cX8_init 38 = .ok (.putfield 23, 3) := by decide +kernel
theorem dX8_init_41 : decode cX8_init 41 = .ok (.aload_n 0, 1) := by decide +kernel
theorem dX8_init_42 : decode cX8_init 42 = .ok (.new 9, 3) := by decide +kernel
theorem dX8_init_45 : decode cX8_init 45 = .ok (.dup, 1) := by decide +kernel
theorem dX8_init_46 : decode cX8_init 46 = .ok (.bipush 6, 2) := by decide +kernel
theorem dX8_init_48 : decode cX8_init 48 = .ok (.invokespecial 11, 3) := by decide +kernel
theorem dX8_init_51 : decode cX8_init 51 = .ok (.putfield 26, 3) := by decide +kernel
theorem dX8_init_54 : decode cX8_init 54 = .ok (.aload_n 0, 1) := by decide +kernel
theorem dX8_init_55 : decode cX8_init 55 = .ok (.bipush 8, 2) := by decide +kernel
theorem dX8_init_57 : decode cX8_init 57 = .ok (.newarray .int, 2) := by decide +kernel
theorem dX8_init_59 : decode cX8_init 59 = .ok (.putfield 29, 3) := by decide +kernel
theorem dX8_init_62 : decode cX8_init 62 = .ok (.aload_n 0, 1) := by decide +kernel
theorem dX8_init_63 : decode cX8_init 63 = .ok (.bipush 8, 2) := by decide +kernel
theorem dX8_init_65 : decode cX8_init 65 = .ok (.newarray .int, 2) := by decide +kernel
theorem dX8_init_67 : decode cX8_init 67 = .ok (.putfield 33, 3) := by decide +kernel
theorem dX8_init_70 : decode cX8_init 70 = .ok (.aload_n 0, 1) := by decide +kernel
theorem dX8_init_71 : decode cX8_init 71 = .ok (.sipush 480, 3) := by decide +kernel
theorem dX8_init_74 : decode cX8_init 74 = .ok (.newarray .int, 2) := by decide +kernel
theorem dX8_init_76 : decode cX8_init 76 = .ok (.putfield 36, 3) := by decide +kernel
theorem dX8_init_79 : decode cX8_init 79 = .ok (.aload_n 0, 1) := by decide +kernel
theorem dX8_init_80 : decode cX8_init 80 = .ok (.bipush 35, 2) := by decide +kernel
theorem dX8_init_82 : decode cX8_init 82 = .ok (.newarray .int, 2) := by decide +kernel
theorem dX8_init_84 : decode cX8_init 84 = .ok (.putfield 39, 3) := by decide +kernel
theorem dX8_init_87 : decode cX8_init 87 = .ok (.aload_n 0, 1) := by decide +kernel
theorem dX8_init_88 : decode cX8_init 88 = .ok (.bipush 80, 2) := by decide +kernel
theorem dX8_init_90 : decode cX8_init 90 = .ok (.newarray .int, 2) := by decide +kernel
theorem dX8_init_92 : decode cX8_init 92 = .ok (.putfield 42, 3) := by decide +kernel
theorem dX8_init_95 : decode cX8_init 95 = .ok (.aload_n 0, 1) := by decide +kernel
theorem dX8_init_96 : decode cX8_init 96 = .ok (.iconst 0, 1) := by decide +kernel
theorem dX8_init_97 : decode cX8_init 97 = .ok (.putfield 45, 3) := by decide +kernel
theorem dX8_init_100 : decode cX8_init 100 = .ok (.aload_n 0, 1) := by decide +kernel
theorem dX8_init_101 : decode cX8_init 101 = .ok (.new 49, 3) := by decide +kernel
theorem dX8_init_104 : decode cX8_init 104 = .ok (.dup, 1) := by decide +kernel
theorem dX8_init_105 : decode cX8_init 105 = .ok (.invokespecial 51, 3) := by decide +kernel
theorem dX8_init_108 : decode cX8_init 108 = .ok (.putfield 52, 3) := by decide +kernel
theorem dX8_init_111 : decode cX8_init 111 = .ok (.aload_n 0, 1) := by decide +kernel
theorem dX8_init_112 : decode cX8_init 112 = .ok (.iconst 0, 1) := by decide +kernel
theorem dX8_init_113 : decode cX8_init 113 = .ok (.putfield 56, 3) := by decide +kernel
theorem dX8_init_116 : decode cX8_init 116 = .ok (.aload_n 0, 1) := by decide +kernel
theorem dX8_init_117 : decode cX8_init 117 = .ok (.iconst 0, 1) := by decide +kernel
theorem dX8_init_118 : decode cX8_init 118 = .ok (.putfield 60, 3) := by decide +kernel
theorem dX8_init_121 : decode cX8_init 121 = .ok (.aload_n 0, 1) := by decide +kernel
theorem dX8_init_122 : decode cX8_init 122 = .ok (.iconst 0, 1) := by decide +kernel
theorem dX8_init_123 : decode cX8_init 123 = .ok (.putfield 63, 3) := by decide +kernel
theorem dX8_init_126 : decode cX8_init 126 = .ok (.aload_n 0, 1) := by decide +kernel
theorem dX8_init_127 : decode cX8_init 127 = .ok (.iconst 4, 1) := by decide +kernel
theorem dX8_init_128 : decode cX8_init 128 = .ok (.putfield 66, 3) := by decide +kernel
theorem dX8_init_131 : decode cX8_init 131 = .ok (.aload_n 0, 1) := by decide +kernel
theorem dX8_init_132 : decode cX8_init 132 = .ok (.bipush 6, 2) := by decide +kernel
theorem dX8_init_134 : decode cX8_init 134 = .ok (.putfield 69, 3) := by decide +kernel
theorem dX8_init_137 : decode cX8_init 137 = .ok (.aload_n 0, 1) := by decide +kernel
theorem dX8_init_138 : decode cX8_init 138 = .ok (.sipush 300, 3) := by decide +kernel
theorem dX8_init_141 : decode cX8_init 141 = .ok (.putfield 72, 3) := by decide +kernel
theorem dX8_init_144 : decode cX8_init 144 = .ok (.return_, 1) := by decide +kernel
theorem dX8_clear_0 : decode cX8_clear 0 = .ok (.aload_n 0, 1) := by decide +kernel
theorem dX8_clear_1 : decode cX8_clear 1 = .ok (.getfield 14, 3) := by decide +kernel
theorem dX8_clear_4 : decode cX8_clear 4 = .ok (.iconst 0, 1) := by decide +kernel
theorem dX8_clear_5 : decode cX8_clear 5 = .ok (.putfield 75, 3) := by decide +kernel
theorem dX8_clear_8 : decode cX8_clear 8 = .ok (.aload_n 0, 1) := by decide +kernel
theorem dX8_clear_9 : decode cX8_clear 9 = .ok (.getfield 20, 3) := by decide +kernel
theorem dX8_clear_12 : decode cX8_clear 12 = .ok (.iconst 0, 1) := by decide +kernel
theorem dX8_clear_13 : decode cX8_clear 13 = .ok (.putfield 75, 3) := by decide +kernel
theorem dX8_clear_16 : decode cX8_clear 16 = .ok (.aload_n 0, 1) := by decide +kernel
theorem dX8_clear_17 : decode cX8_clear 17 = .ok (.getfield 23, 3) := by decide +kernel
theorem dX8_clear_20 : decode cX8_clear 20 = .ok (.iconst 0, 1) := by decide +kernel
theorem dX8_clear_21 : decode cX8_clear 21 = .ok (.putfield 75, 3) := by decide +kernel
theorem dX8_clear_24 : decode cX8_clear 24 = .ok (.aload_n 0, 1) := by decide +kernel
theorem dX8_clear_25 : decode cX8_clear 25 = .ok (.getfield 26, 3) := by decide +kernel
theorem dX8_clear_28 : decode cX8_clear 28 = .ok (.iconst 0, 1) := by decide +kernel
theorem dX8_clear_29 : decode cX8_clear 29 = .ok (.putfield 75, 3) := by decide +kernel
theorem dX8_clear_32 : decode cX8_clear 32 = .ok (.aload_n 0, 1) := by decide +kernel
theorem dX8_clear_33 : decode cX8_clear 33 = .ok (.iconst 0, 1) := by decide +kernel
theorem dX8_clear_34 : decode cX8_clear 34 = .ok (.putfield 45, 3) := by decide +kernel
theorem dX8_clear_37 : decode cX8_clear 37 = .ok (.aload_n 0, 1) := by decide +kernel
theorem dX8_clear_38 : decode cX8_clear 38 = .ok (.getfield 52, 3) := by decide +kernel
theorem dX8_clear_41 : decode cX8_clear 41 = .ok (.iconst 0, 1) := by decide +kernel
theorem dX8_clear_42 : decode cX8_clear 42 = .ok (.putfield 78, 3) := by decide +kernel
theorem dX8_clear_45 : decode cX8_clear 45 = .ok (.aload_n 0, 1) := by decide +kernel
theorem dX8_clear_46 : decode cX8_clear 46 = .ok (.iconst 0, 1) := by decide +kernel
theorem dX8_clear_47 : decode cX8_clear 47 = .ok (.putfield 56, 3) := by decide +kernel
theorem dX8_clear_50 : decode cX8_clear 50 = .ok (.aload_n 0, 1) := by decide +kernel
theorem dX8_clear_51 : decode cX8_clear 51 = .ok (.iconst 0, 1) := by decide +kernel
theorem dX8_clear_52 : decode cX8_clear 52 = .ok (.putfield 60, 3) := by decide +kernel
theorem dX8_clear_55 : decode cX8_clear 55 = .ok (.aload_n 0, 1) := by decide +kernel
theorem dX8_clear_56 : decode cX8_clear 56 = .ok (.iconst 0, 1) := by decide +kernel
theorem dX8_clear_57 : decode cX8_clear 57 = .ok (.putfield 63, 3) := by decide +kernel
theorem dX8_clear_60 : decode cX8_clear 60 = .ok (.aload_n 0, 1) := by decide +kernel
theorem dX8_clear_61 : decode cX8_clear 61 = .ok (.iconst 4, 1) := by decide +kernel
theorem dX8_clear_62 : decode cX8_clear 62 = .ok (.putfield 66, 3) := by decide +kernel
theorem dX8_clear_65 : decode cX8_clear 65 = .ok (.aload_n 0, 1) := by decide +kernel
theorem dX8_clear_66 : decode cX8_clear 66 = .ok (.bipush 6, 2) := by decide +kernel
theorem dX8_clear_68 : decode cX8_clear 68 = .ok (.putfield 69, 3) := by decide +kernel
theorem dX8_clear_71 : decode cX8_clear 71 = .ok (.aload_n 0, 1) := by decide +kernel
theorem dX8_clear_72 : decode cX8_clear 72 = .ok (.sipush 300, 3) := by decide +kernel
theorem dX8_clear_75 : decode cX8_clear 75 = .ok (.putfield 72, 3) := by decide +kernel
theorem dX8_clear_78 : decode cX8_clear 78 = .ok (.aload_n 0, 1) := by decide +kernel
theorem dX8_clear_79 : decode cX8_clear 79 = .ok (.getfield 33, 3) := by decide +kernel
theorem dX8_clear_82 : decode cX8_clear 82 = .ok (.iconst 0, 1) := by decide +kernel
theorem dX8_clear_83 : decode cX8_clear 83 = .ok (.invokestatic 81, 3) := by decide +kernel
theorem dX8_clear_86 : decode cX8_clear 86 = .ok (.return_, 1) := by decide +kernel
theorem dX8_hasRing_0 : decode cX8_hasRing 0 = .ok (.iload_n 1, 1) := by decide +kernel
theorem dX8_hasRing_1 : decode cX8_hasRing 1 = .ok (.ifCond .lt 24, 3) := by decide +kernel
theorem dX8_hasRing_4 : decode cX8_hasRing 4 = .ok (.iload_n 1, 1) := by decide +kernel
theorem dX8_hasRing_5 : decode cX8_hasRing 5 = .ok (.aload_n 0, 1) := by decide +kernel
theorem dX8_hasRing_6 : decode cX8_hasRing 6 = .ok (.getfield 20, 3) := by decide +kernel
theorem dX8_hasRing_9 : decode cX8_hasRing 9 = .ok (.getfield 75, 3) := by decide +kernel
theorem dX8_hasRing_12 : decode cX8_hasRing 12 = .ok (.if_icmp .ge 13, 3) := by decide +kernel
theorem dX8_hasRing_15 : decode cX8_hasRing 15 = .ok (.iload_n 1, 1) := by decide +kernel
theorem dX8_hasRing_16 : decode cX8_hasRing 16 = .ok (.bipush 8, 2) := by decide +kernel
theorem dX8_hasRing_18 : decode cX8_hasRing 18 = .ok (.if_icmp .ge 7, 3) := by decide +kernel
theorem dX8_hasRing_21 : decode cX8_hasRing 21 = .ok (.iconst 1, 1) := by decide +kernel
theorem dX8_hasRing_22 : decode cX8_hasRing 22 = .ok (.goto 4, 3) := by decide +kernel
theorem dX8_hasRing_25 : decode cX8_hasRing 25 = .ok (.iconst 0, 1) := by decide +kernel
theorem dX8_hasRing_26 : decode cX8_hasRing 26 = .ok (.ireturn, 1) := by decide +kernel
theorem dX8_hasStone_0 : decode cX8_hasStone 0 = .ok (.aload_n 0, 1) := by decide +kernel
theorem dX8_hasStone_1 : decode cX8_hasStone 1 = .ok (.iload_n 1, 1) := by decide +kernel
theorem dX8_hasStone_2 : decode cX8_hasStone 2 = .ok (.invokevirtual 87, 3) := by decide +kernel
theorem dX8_hasStone_5 : decode cX8_hasStone 5 = .ok (.ifCond .eq 27, 3) := by decide +kernel
theorem dX8_hasStone_8 : decode cX8_hasStone 8 = .ok (.iload_n 2, 1) := by decide +kernel
theorem dX8_hasStone_9 : decode cX8_hasStone 9 = .ok (.ifCond .lt 23, 3) := by decide +kernel
theorem dX8_hasStone_12 : decode cX8_hasStone 12 = .ok (.iload_n 2, 1) := by decide +kernel
theorem dX8_hasStone_13 : decode cX8_hasStone 13 = .ok (.aload_n 0, 1) := by decide +kernel
theorem dX8_hasStone_14 : decode cX8_hasStone 14 = .ok (.getfield 33, 3) := by decide +kernel
theorem dX8_hasStone_17 : decode cX8_hasStone 17 = .ok (.iload_n 1, 1) := by decide +kernel
theorem dX8_hasStone_18 : decode cX8_hasStone 18 = .ok (.iaload, 1) := by decide +kernel
theorem dX8_hasStone_19 : decode cX8_hasStone 19 = .ok (.if_icmp .ge 13, 3) := by decide +kernel
theorem dX8_hasStone_22 : decode cX8_hasStone 22 = .ok (.iload_n 2, 1) := by decide +kernel
theorem dX8_hasStone_23 : decode cX8_hasStone 23 = .ok (.bipush 10, 2) := by decide +kernel
theorem dX8_hasStone_25 : decode cX8_hasStone 25 = .ok (.if_icmp .ge 7, 3) := by decide +kernel
theorem dX8_hasStone_28 : decode cX8_hasStone 28 = .ok (.iconst 1, 1) := by decide +kernel
theorem dX8_hasStone_29 : decode cX8_hasStone 29 = .ok (.goto 4, 3) := by decide +kernel
theorem dX8_hasStone_32 : decode cX8_hasStone 32 = .ok (.iconst 0, 1) := by decide +kernel
theorem dX8_hasStone_33 : decode cX8_hasStone 33 = .ok (.ireturn, 1) := by decide +kernel
theorem dX8_saidOf_0 : decode cX8_saidOf 0 = .ok (.iload_n 1, 1) := by decide +kernel
theorem dX8_saidOf_1 : decode cX8_saidOf 1 = .ok (.iconst 4, 1) := by decide +kernel
theorem dX8_saidOf_2 : decode cX8_saidOf 2 = .ok (.imul, 1) := by decide +kernel
theorem dX8_saidOf_3 : decode cX8_saidOf 3 = .ok (.iload_n 2, 1) := by decide +kernel
theorem dX8_saidOf_4 : decode cX8_saidOf 4 = .ok (.iadd, 1) := by decide +kernel
theorem dX8_saidOf_5 : decode cX8_saidOf 5 = .ok (.istore_n 3, 1) := by decide +kernel
theorem dX8_saidOf_6 : decode cX8_saidOf 6 = .ok (.iload_n 3, 1) := by decide +kernel
theorem dX8_saidOf_7 : decode cX8_saidOf 7 = .ok (.ifCond .lt 21, 3) := by decide +kernel
theorem dX8_saidOf_10 : decode cX8_saidOf 10 = .ok (.iload_n 3, 1) := by decide +kernel
theorem dX8_saidOf_11 : decode cX8_saidOf 11 = .ok (.aload_n 0, 1) := by decide +kernel
theorem dX8_saidOf_12 : decode cX8_saidOf 12 = .ok (.getfield 42, 3) := by decide +kernel
theorem dX8_saidOf_15 : decode cX8_saidOf 15 = .ok (.arraylength, 1) := by decide +kernel
theorem dX8_saidOf_16 : decode cX8_saidOf 16 = .ok (.if_icmp .ge 12, 3) := by decide +kernel
theorem dX8_saidOf_19 : decode cX8_saidOf 19 = .ok (.aload_n 0, 1) := by decide +kernel
theorem dX8_saidOf_20 : decode cX8_saidOf 20 = .ok (.getfield 42, 3) := by decide +kernel
theorem dX8_saidOf_23 : decode cX8_saidOf 23 = .ok (.iload_n 3, 1) := by decide +kernel
theorem dX8_saidOf_24 : decode cX8_saidOf 24 = .ok (.iaload, 1) := by decide +kernel
theorem dX8_saidOf_25 : decode cX8_saidOf 25 = .ok (.goto 4, 3) := by decide +kernel
theorem dX8_saidOf_28 : decode cX8_saidOf 28 = .ok (.iconst 0, 1) := by decide +kernel
theorem dX8_saidOf_29 : decode cX8_saidOf 29 = .ok (.ireturn, 1) := by decide +kernel
theorem dX8_weightOf_0 : decode cX8_weightOf 0 = .ok (.iload_n 1, 1) := by decide +kernel
theorem dX8_weightOf_1 : decode cX8_weightOf 1 = .ok (.bipush 7, 2) := by decide +kernel
theorem dX8_weightOf_3 : decode cX8_weightOf 3 = .ok (.imul, 1) := by decide +kernel
theorem dX8_weightOf_4 : decode cX8_weightOf 4 = .ok (.istore 4, 2) := by decide +kernel
theorem dX8_weightOf_6 : decode cX8_weightOf 6 = .ok (.iload 4, 2) := by decide +kernel
theorem dX8_weightOf_8 : decode cX8_weightOf 8 = .ok (.ifCond .lt 16, 3) := by decide +kernel
theorem dX8_weightOf_11 : decode cX8_weightOf 11 = .ok (.iload 4, 2) := by decide +kernel
theorem dX8_weightOf_13 : decode cX8_weightOf 13 = .ok (.bipush 7, 2) := by decide +kernel
theorem dX8_weightOf_15 : decode cX8_weightOf 15 = .ok (.iadd, 1) := by decide +kernel
theorem dX8_weightOf_16 : decode cX8_weightOf 16 = .ok (.aload_n 0, 1) := by decide +kernel
theorem dX8_weightOf_17 : decode cX8_weightOf 17 = .ok (.getfield 39, 3) := by decide +kernel
theorem dX8_weightOf_20 : decode cX8_weightOf 20 = .ok (.arraylength, 1) := by decide +kernel
theorem dX8_weightOf_21 : decode cX8_weightOf 21 = .ok (.if_icmp .le 5, 3) := by decide +kernel
theorem dX8_weightOf_24 : decode cX8_weightOf 24 = .ok (.lconst 0, 1) := by decide +kernel
theorem dX8_weightOf_25 : decode cX8_weightOf 25 = .ok (.lreturn, 1) := by decide +kernel
theorem dX8_weightOf_26 : decode cX8_weightOf 26 = .ok (.aload_n 0, 1) := by decide +kernel
theorem dX8_weightOf_27 : decode cX8_weightOf 27 = .ok (.getfield 39, 3) := by decide +kernel
theorem dX8_weightOf_30 : decode cX8_weightOf 30 = .ok (.iload 4, 2) := by decide +kernel
theorem dX8_weightOf_32 : decode cX8_weightOf 32 = .ok (.iaload, 1) := by decide +kernel
theorem dX8_weightOf_33 : decode cX8_weightOf 33 = .ok (.i2l, 1) := by decide +kernel
theorem dX8_weightOf_34 : decode cX8_weightOf 34 = .ok (.lstore 5, 2) := by decide +kernel
theorem dX8_weightOf_36 : decode cX8_weightOf 36 = .ok (.iconst 0, 1) := by decide +kernel
theorem dX8_weightOf_37 : decode cX8_weightOf 37 = .ok (.istore 7, 2) := by decide +kernel
theorem dX8_weightOf_39 : decode cX8_weightOf 39 = .ok (.iload 7, 2) := by decide +kernel
theorem dX8_weightOf_41 : decode cX8_weightOf 41 = .ok (.aload_n 2, 1) := by decide +kernel
theorem dX8_weightOf_42 : decode cX8_weightOf 42 = .ok (.getfield 91, 3) := by decide +kernel
theorem dX8_weightOf_45 : decode cX8_weightOf 45 = .ok (.if_icmp .ge 32, 3) := by decide +kernel
theorem dX8_weightOf_48 : decode cX8_weightOf 48 = .ok (.lload 5, 2) := by decide +kernel
theorem dX8_weightOf_50 : decode cX8_weightOf 50 = .ok (.aload_n 0, 1) := by decide +kernel
theorem dX8_weightOf_51 : decode cX8_weightOf 51 = .ok (.getfield 39, 3) := by decide +kernel
theorem dX8_weightOf_54 : decode cX8_weightOf 54 = .ok (.iload 4, 2) := by decide +kernel
theorem dX8_weightOf_56 : decode cX8_weightOf 56 = .ok (.iconst 1, 1) := by decide +kernel
theorem dX8_weightOf_57 : decode cX8_weightOf 57 = .ok (.iadd, 1) := by decide +kernel
theorem dX8_weightOf_58 : decode cX8_weightOf 58 = .ok (.aload_n 2, 1) := by decide +kernel
theorem dX8_weightOf_59 : decode cX8_weightOf 59 = .ok (.iload 7, 2) := by decide +kernel
theorem dX8_weightOf_61 : decode cX8_weightOf 61 = .ok (.iload_n 3, 1) := by decide +kernel
theorem dX8_weightOf_62 : decode cX8_weightOf 62 = .ok (.invokevirtual 94, 3) := by decide +kernel
theorem dX8_weightOf_65 : decode cX8_weightOf 65 = .ok (.iadd, 1) := by decide +kernel
theorem dX8_weightOf_66 : decode cX8_weightOf 66 = .ok (.iaload, 1) := by decide +kernel
theorem dX8_weightOf_67 : decode cX8_weightOf 67 = .ok (.i2l, 1) := by decide +kernel
theorem dX8_weightOf_68 : decode cX8_weightOf 68 = .ok (.lmul, 1) := by decide +kernel
theorem dX8_weightOf_69 : decode cX8_weightOf 69 = .ok (.lstore 5, 2) := by decide +kernel
theorem dX8_weightOf_71 : decode cX8_weightOf 71 = .ok (.iinc 7 1, 3) := by decide +kernel
theorem dX8_weightOf_74 : decode cX8_weightOf 74 = .ok (.goto (-35), 3) := by decide +kernel
theorem dX8_weightOf_77 : decode cX8_weightOf 77 = .ok (.lload 5, 2) := by decide +kernel
theorem dX8_weightOf_79 : decode cX8_weightOf 79 = .ok (.lreturn, 1) := by decide +kernel
theorem dX9_init_0 : decode cX9_init 0 = .ok (.aload_n 0, 1) := by decide +kernel
theorem dX9_init_1 : decode cX9_init 1 = .ok (.invokespecial 3, 3) := by decide +kernel
theorem dX9_init_4 : decode cX9_init 4 = .ok (.aload_n 0, 1) := by decide +kernel
theorem dX9_init_5 : decode cX9_init 5 = .ok (.sipush 900, 3) := by decide +kernel
theorem dX9_init_8 : decode cX9_init 8 = .ok (.newarray .char, 2) := by decide +kernel
theorem dX9_init_10 : decode cX9_init 10 = .ok (.putfield 9, 3) := by decide +kernel
theorem dX9_init_13 : decode cX9_init 13 = .ok (.aload_n 0, 1) := by decide +kernel
theorem dX9_init_14 : decode cX9_init 14 = .ok (.iconst 0, 1) := by decide +kernel
theorem dX9_init_15 : decode cX9_init 15 = .ok (.putfield 13, 3) := by decide +kernel
theorem dX9_init_18 : decode cX9_init 18 = .ok (.aload_n 0, 1) := by decide +kernel
theorem dX9_init_19 : decode cX9_init 19 = .ok (.new 17, 3) := by decide +kernel
theorem dX9_init_22 : decode cX9_init 22 = .ok (.dup, 1) := by decide +kernel
theorem dX9_init_23 : decode cX9_init 23 = .ok (.invokespecial 19, 3) := by decide +kernel
theorem dX9_init_26 : decode cX9_init 26 = .ok (.putfield 20, 3) := by decide +kernel
theorem dX9_init_29 : decode cX9_init 29 = .ok (.aload_n 0, 1) := by decide +kernel
theorem dX9_init_30 : decode cX9_init 30 = .ok (.new 24, 3) := by decide +kernel
theorem dX9_init_33 : decode cX9_init 33 = .ok (.dup, 1) := by decide +kernel
theorem dX9_init_34 : decode cX9_init 34 = .ok (.invokespecial 26, 3) := by decide +kernel
theorem dX9_init_37 : decode cX9_init 37 = .ok (.putfield 27, 3) := by decide +kernel
theorem dX9_init_40 : decode cX9_init 40 = .ok (.aload_n 0, 1) := by decide +kernel
theorem dX9_init_41 : decode cX9_init 41 = .ok (.new 24, 3) := by decide +kernel
theorem dX9_init_44 : decode cX9_init 44 = .ok (.dup, 1) := by decide +kernel
theorem dX9_init_45 : decode cX9_init 45 = .ok (.invokespecial 26, 3) := by decide +kernel
theorem dX9_init_48 : decode cX9_init 48 = .ok (.putfield 31, 3) := by decide +kernel
theorem dX9_init_51 : decode cX9_init 51 = .ok (.aload_n 0, 1) := by decide +kernel
theorem dX9_init_52 : decode cX9_init 52 = .ok (.new 34, 3) := by decide +kernel
theorem dX9_init_55 : decode cX9_init 55 = .ok (.dup, 1) := by decide +kernel
theorem dX9_init_56 : decode cX9_init 56 = .ok (.invokespecial 36, 3) := by decide +kernel
theorem dX9_init_59 : decode cX9_init 59 = .ok (.putfield 37, 3) := by decide +kernel
theorem dX9_init_62 : decode cX9_init 62 = .ok (.aload_n 0, 1) := by decide +kernel
theorem dX9_init_63 : decode cX9_init 63 = .ok (.iconst (-1), 1) := by decide +kernel
theorem dX9_init_64 : decode cX9_init 64 = .ok (.putfield 41, 3) := by decide +kernel
theorem dX9_init_67 : decode cX9_init 67 = .ok (.aload_n 0, 1) := by decide +kernel
theorem dX9_init_68 : decode cX9_init 68 = .ok (.iconst 0, 1) := by decide +kernel
theorem dX9_init_69 : decode cX9_init 69 = .ok (.putfield 44, 3) := by decide +kernel
theorem dX9_init_72 : decode cX9_init 72 = .ok (.aload_n 0, 1) := by decide +kernel
theorem dX9_init_73 : decode cX9_init 73 = .ok (.iconst 0, 1) := by decide +kernel
theorem dX9_init_74 : decode cX9_init 74 = .ok (.putfield 47, 3) := by decide +kernel
theorem dX9_init_77 : decode cX9_init 77 = .ok (.aload_n 0, 1) := by decide +kernel
theorem dX9_init_78 : decode cX9_init 78 = .ok (.new 51, 3) := by decide +kernel
theorem dX9_init_81 : decode cX9_init 81 = .ok (.dup, 1) := by decide +kernel
theorem dX9_init_82 : decode cX9_init 82 = .ok (.invokespecial 53, 3) := by decide +kernel
theorem dX9_init_85 : decode cX9_init 85 = .ok (.putfield 54, 3) := by decide +kernel
theorem dX9_init_88 : decode cX9_init 88 = .ok (.aload_n 0, 1) := by decide +kernel
theorem dX9_init_89 : decode cX9_init 89 = .ok (.new 51, 3) := by decide +kernel
theorem dX9_init_92 : decode cX9_init 92 = .ok (.dup, 1) := by decide +kernel
theorem dX9_init_93 : decode cX9_init 93 = .ok (.invokespecial 53, 3) := by decide +kernel
theorem dX9_init_96 : decode cX9_init 96 = .ok (.putfield 58, 3) := by decide +kernel
theorem dX9_init_99 : decode cX9_init 99 = .ok (.aload_n 0, 1) := by decide +kernel
theorem dX9_init_100 : decode cX9_init 100 = .ok (.new 61, 3) := by decide +kernel
theorem dX9_init_103 : decode cX9_init 103 = .ok (.dup, 1) := by decide +kernel
theorem dX9_init_104 : decode cX9_init 104 = .ok (.invokespecial 63, 3) := by decide +kernel
theorem dX9_init_107 : decode cX9_init 107 = .ok (.putfield 64, 3) := by decide +kernel
theorem dX9_init_110 : decode cX9_init 110 = .ok (.aload_n 0, 1) := by decide +kernel
theorem dX9_init_111 : decode cX9_init 111 = .ok (.new 61, 3) := by decide +kernel
theorem dX9_init_114 : decode cX9_init 114 = .ok (.dup, 1) := by decide +kernel
theorem dX9_init_115 : decode cX9_init 115 = .ok (.invokespecial 63, 3) := by decide +kernel
theorem dX9_init_118 : decode cX9_init 118 = .ok (.putfield 68, 3) := by decide +kernel
theorem dX9_init_121 : decode cX9_init 121 = .ok (.aload_n 0, 1) := by decide +kernel
theorem dX9_init_122 : decode cX9_init 122 = .ok (.bipush 9, 2) := by decide +kernel
theorem dX9_init_124 : decode cX9_init 124 = .ok (.newarray .long, 2) := by decide +kernel
theorem dX9_init_126 : decode cX9_init 126 = .ok (.putfield 71, 3) := by decide +kernel
theorem dX9_init_129 : decode cX9_init 129 = .ok (.return_, 1) := by decide +kernel
theorem dX9_feed_0 : decode cX9_feed 0 = .ok (.aload_n 0, 1) := by decide +kernel
theorem dX9_feed_1 : decode cX9_feed 1 = .ok (.getfield 13, 3) := by decide +kernel
theorem dX9_feed_4 : decode cX9_feed 4 = .ok (.ifCond .lt 16, 3) := by decide +kernel
theorem dX9_feed_7 : decode cX9_feed 7 = .ok (.aload_n 0, 1) := by decide +kernel
theorem dX9_feed_8 : decode cX9_feed 8 = .ok (.getfield 13, 3) := by decide +kernel
theorem dX9_feed_11 : decode cX9_feed 11 = .ok (.bipush 20, 2) := by decide +kernel
theorem dX9_feed_13 : decode cX9_feed 13 = .ok (.iadd, 1) := by decide +kernel
theorem dX9_feed_14 : decode cX9_feed 14 = .ok (.sipush 900, 3) := by decide +kernel
theorem dX9_feed_17 : decode cX9_feed 17 = .ok (.if_icmp .le 5, 3) := by decide +kernel
theorem dX9_feed_20 : decode cX9_feed 20 = .ok (.iconst (-1), 1) := by decide +kernel
theorem dX9_feed_21 : decode cX9_feed 21 = .ok (.ireturn, 1) := by decide +kernel
theorem dX9_feed_22 : decode cX9_feed 22 = .ok (.aload_n 0, 1) := by decide +kernel
theorem dX9_feed_23 : decode cX9_feed 23 = .ok (.iload_n 1, 1) := by decide +kernel
theorem dX9_feed_24 : decode cX9_feed 24 = .ok (.invokevirtual 75, 3) := by decide +kernel
theorem dX9_feed_27 : decode cX9_feed 27 = .ok (.aload_n 0, 1) := by decide +kernel
theorem dX9_feed_28 : decode cX9_feed 28 = .ok (.iload_n 2, 1) := by decide +kernel
theorem dX9_feed_29 : decode cX9_feed 29 = .ok (.invokevirtual 75, 3) := by decide +kernel
theorem dX9_feed_32 : decode cX9_feed 32 = .ok (.aload_n 0, 1) := by decide +kernel
theorem dX9_feed_33 : decode cX9_feed 33 = .ok (.iload_n 3, 1) := by decide +kernel
theorem dX9_feed_34 : decode cX9_feed 34 = .ok (.invokevirtual 75, 3) := by decide +kernel
theorem dX9_feed_37 : decode cX9_feed 37 = .ok (.aload_n 0, 1) := by decide +kernel
theorem dX9_feed_38 : decode cX9_feed 38 = .ok (.iload 4, 2) := by decide +kernel
theorem dX9_feed_40 : decode cX9_feed 40 = .ok (.invokevirtual 75, 3) := by decide +kernel
theorem dX9_feed_43 : decode cX9_feed 43 = .ok (.aload_n 0, 1) := by decide +kernel
theorem dX9_feed_44 : decode cX9_feed 44 = .ok (.iload 5, 2) := by decide +kernel
theorem dX9_feed_46 : decode cX9_feed 46 = .ok (.invokevirtual 75, 3) := by decide +kernel
theorem dX9_feed_49 : decode cX9_feed 49 = .ok (.aload_n 0, 1) := by decide +kernel
theorem dX9_feed_50 : decode cX9_feed 50 = .ok (.getfield 13, 3) := by decide +kernel
theorem dX9_feed_53 : decode cX9_feed 53 = .ok (.ireturn, 1) := by decide +kernel
theorem dX9_putFourBytes_0 : decode cX9_putFourBytes 0 = .ok (.bipush 24, 2) := by decide +kernel
theorem dX9_putFourBytes_2 : decode cX9_putFourBytes 2 = .ok (.istore_n 2, 1) := by decide +kernel
theorem dX9_putFourBytes_3 : decode cX9_putFourBytes 3 = .ok (.iload_n 2, 1) := by decide +kernel
theorem dX9_putFourBytes_4 : decode cX9_putFourBytes 4 = .ok (.ifCond .lt 46, 3) := by decide +kernel
theorem dX9_putFourBytes_7 : decode cX9_putFourBytes 7 = .ok (.aload_n 0, 1) := by decide +kernel
theorem dX9_putFourBytes_8 : decode cX9_putFourBytes 8 = .ok (.getfield 13, 3) := by decide +kernel
theorem dX9_putFourBytes_11 : decode cX9_putFourBytes 11 = .ok (.sipush 900, 3) := by decide +kernel
theorem dX9_putFourBytes_14 : decode cX9_putFourBytes 14 = .ok (.if_icmp .ge 36, 3) := by decide +kernel
theorem dX9_putFourBytes_17 : decode cX9_putFourBytes 17 = .ok (.aload_n 0, 1) := by decide +kernel
theorem dX9_putFourBytes_18 : decode cX9_putFourBytes 18 = .ok (.getfield 9, 3) := by decide +kernel
theorem dX9_putFourBytes_21 : decode cX9_putFourBytes 21 = .ok (.aload_n 0, 1) := by decide +kernel
theorem dX9_putFourBytes_22 : decode cX9_putFourBytes 22 = .ok (.getfield 13, 3) := by decide +kernel
theorem dX9_putFourBytes_25 : decode cX9_putFourBytes 25 = .ok (.iload_n 1, 1) := by decide +kernel
theorem dX9_putFourBytes_26 : decode cX9_putFourBytes 26 = .ok (.iload_n 2, 1) := by decide +kernel
theorem dX9_putFourBytes_27 : decode cX9_putFourBytes 27 = .ok (.iushr, 1) := by decide +kernel
theorem dX9_putFourBytes_28 : decode cX9_putFourBytes 28 = .ok (.sipush 255, 3) := by decide +kernel
theorem dX9_putFourBytes_31 : decode cX9_putFourBytes 31 = .ok (.iand, 1) := by decide +kernel
theorem dX9_putFourBytes_32 : decode cX9_putFourBytes 32 = .ok (.i2c, 1) := by decide +kernel
theorem dX9_putFourBytes_33 : decode cX9_putFourBytes 33 = .ok (.castore, 1) := by decide +kernel
theorem dX9_putFourBytes_34 : decode cX9_putFourBytes 34 = .ok (.aload_n 0, 1) := by decide +kernel
theorem dX9_putFourBytes_35 : decode cX9_putFourBytes 35 = .ok (.dup, 1) := by decide +kernel
theorem dX9_putFourBytes_36 : decode cX9_putFourBytes 36 = .ok (.getfield 13, 3) := by decide +kernel
theorem dX9_putFourBytes_39 : decode cX9_putFourBytes 39 = .ok (.iconst 1, 1) := by decide +kernel
theorem dX9_putFourBytes_40 : decode cX9_putFourBytes 40 = .ok (.iadd, 1) := by decide +kernel
theorem dX9_putFourBytes_41 : decode cX9_putFourBytes 41 = .ok (.putfield 13, 3) := by decide +kernel
theorem dX9_putFourBytes_44 : decode cX9_putFourBytes 44 = .ok (.iinc 2 (-8), 3) := by decide +kernel
theorem dX9_putFourBytes_47 : decode cX9_putFourBytes 47 = .ok (.goto (-44), 3) := by decide +kernel
theorem dX9_putFourBytes_50 : decode cX9_putFourBytes 50 = .ok (.return_, 1) := by decide +kernel
theorem dX9_text_0 : decode cX9_text 0 = .ok (.iload_n 1, 1) := by decide +kernel
theorem dX9_text_1 : decode cX9_text 1 = .ok (.ifCond .lt 11, 3) := by decide +kernel
theorem dX9_text_4 : decode cX9_text 4 = .ok (.iload_n 1, 1) := by decide +kernel
theorem dX9_text_5 : decode cX9_text 5 = .ok (.aload_n 0, 1) := by decide +kernel
theorem dX9_text_6 : decode cX9_text 6 = .ok (.getfield 13, 3) := by decide +kernel
theorem dX9_text_9 : decode cX9_text 9 = .ok (.if_icmp .le 6, 3) := by decide +kernel
theorem dX9_text_12 : decode cX9_text 12 = .ok (.bipush (-2), 2) := by decide +kernel
theorem dX9_text_14 : decode cX9_text 14 = .ok (.ireturn, 1) := by decide +kernel
theorem dX9_text_15 : decode cX9_text 15 = .ok (.aload_n 0, 1) := by decide +kernel
theorem dX9_text_16 : decode cX9_text 16 = .ok (.iconst 0, 1) := by decide +kernel
theorem dX9_text_17 : decode cX9_text 17 = .ok (.putfield 13, 3) := by decide +kernel
theorem dX9_text_20 : decode cX9_text 20 = .ok (.aload_n 0, 1) := by decide +kernel
theorem dX9_text_21 : decode cX9_text 21 = .ok (.getfield 20, 3) := by decide +kernel
theorem dX9_text_24 : decode cX9_text 24 = .ok (.aload_n 0, 1) := by decide +kernel
theorem dX9_text_25 : decode cX9_text 25 = .ok (.getfield 9, 3) := by decide +kernel
theorem dX9_text_28 : decode cX9_text 28 = .ok (.iload_n 1, 1) := by decide +kernel
theorem dX9_text_29 : decode cX9_text 29 = .ok (.aload_n 0, 1) := by decide +kernel
theorem dX9_text_30 : decode cX9_text 30 = .ok (.getfield 31, 3) := by decide +kernel
theorem dX9_text_33 : decode cX9_text 33 = .ok (.invokevirtual 79, 3) := by decide +kernel
theorem dX9_text_36 : decode cX9_text 36 = .ok (.ifCond .ne 5, 3) := by decide +kernel
theorem dX9_text_39 : decode cX9_text 39 = .ok (.iconst (-1), 1) := by decide +kernel
theorem dX9_text_40 : decode cX9_text 40 = .ok (.ireturn, 1) := by decide +kernel
theorem dX9_text_41 : decode cX9_text 41 = .ok (.aload_n 0, 1) := by decide +kernel
theorem dX9_text_42 : decode cX9_text 42 = .ok (.getfield 27, 3) := by decide +kernel
theorem dX9_text_45 : decode cX9_text 45 = .ok (.astore_n 2, 1) := by decide +kernel
theorem dX9_text_46 : decode cX9_text 46 = .ok (.aload_n 0, 1) := by decide +kernel
theorem dX9_text_47 : decode cX9_text 47 = .ok (.aload_n 0, 1) := by decide +kernel
theorem dX9_text_48 : decode cX9_text 48 = .ok (.getfield 31, 3) := by decide +kernel
theorem dX9_text_51 : decode cX9_text 51 = .ok (.putfield 27, 3) := by decide +kernel
theorem dX9_text_54 : decode cX9_text 54 = .ok (.aload_n 0, 1) := by decide +kernel
theorem dX9_text_55 : decode cX9_text 55 = .ok (.aload_n 2, 1) := by decide +kernel
theorem dX9_text_56 : decode cX9_text 56 = .ok (.putfield 31, 3) := by decide +kernel
theorem dX9_text_59 : decode cX9_text 59 = .ok (.aload_n 0, 1) := by decide +kernel
theorem dX9_text_60 : decode cX9_text 60 = .ok (.getfield 37, 3) := by decide +kernel
theorem dX9_text_63 : decode cX9_text 63 = .ok (.iconst 0, 1) := by decide +kernel
theorem dX9_text_64 : decode cX9_text 64 = .ok (.putfield 83, 3) := by decide +kernel
theorem dX9_text_67 : decode cX9_text 67 = .ok (.aload_n 0, 1) := by decide +kernel
theorem dX9_text_68 : decode cX9_text 68 = .ok (.iconst (-1), 1) := by decide +kernel
theorem dX9_text_69 : decode cX9_text 69 = .ok (.putfield 41, 3) := by decide +kernel
theorem dX9_text_72 : decode cX9_text 72 = .ok (.aload_n 0, 1) := by decide +kernel
theorem dX9_text_73 : decode cX9_text 73 = .ok (.invokevirtual 86, 3) := by decide +kernel
theorem dX9_text_76 : decode cX9_text 76 = .ok (.aload_n 0, 1) := by decide +kernel
theorem dX9_text_77 : decode cX9_text 77 = .ok (.getfield 20, 3) := by decide +kernel
theorem dX9_text_80 : decode cX9_text 80 = .ok (.getfield 89, 3) := by decide +kernel
theorem dX9_text_83 : decode cX9_text 83 = .ok (.ireturn, 1) := by decide +kernel
theorem dX9_fault_0 : decode cX9_fault 0 = .ok (.iload_n 1, 1) := by decide +kernel
theorem dX9_fault_1 : decode cX9_fault 1 = .ok (.lookupswitch 43 #[(0, 27), (1, 35)], 27) := by decide +kernel
theorem dX9_fault_28 : decode cX9_fault 28 = .ok (.aload_n 0, 1) := by decide +kernel
theorem dX9_fault_29 : decode cX9_fault 29 = .ok (.getfield 20, 3) := by decide +kernel
theorem dX9_fault_32 : decode cX9_fault 32 = .ok (.getfield 92, 3) := by decide +kernel
theorem dX9_fault_35 : decode cX9_fault 35 = .ok (.ireturn, 1) := by decide +kernel
theorem dX9_fault_36 : decode cX9_fault 36 = .ok (.aload_n 0, 1) := by decide +kernel
theorem dX9_fault_37 : decode cX9_fault 37 = .ok (.getfield 20, 3) := by decide +kernel
theorem dX9_fault_40 : decode cX9_fault 40 = .ok (.getfield 95, 3) := by decide +kernel
theorem dX9_fault_43 : decode cX9_fault 43 = .ok (.ireturn, 1) := by decide +kernel
theorem dX9_fault_44 : decode cX9_fault 44 = .ok (.iconst (-1), 1) := by decide +kernel
theorem dX9_fault_45 : decode cX9_fault 45 = .ok (.ireturn, 1) := by decide +kernel
theorem dX9_named_0 : decode cX9_named 0 = .ok (.iload_n 1, 1) := by decide +kernel
theorem dX9_named_1 : decode cX9_named 1 = .ok (.tableswitch 79 0 3 #[31, 43, 55, 67], 31) := by decide +kernel
theorem dX9_named_32 : decode cX9_named 32 = .ok (.aload_n 0, 1) := by decide +kernel
theorem dX9_named_33 : decode cX9_named 33 = .ok (.getfield 27, 3) := by decide +kernel
theorem dX9_named_36 : decode cX9_named 36 = .ok (.getfield 98, 3) := by decide +kernel
theorem dX9_named_39 : decode cX9_named 39 = .ok (.iload_n 2, 1) := by decide +kernel
theorem dX9_named_40 : decode cX9_named 40 = .ok (.invokevirtual 102, 3) := by decide +kernel
theorem dX9_named_43 : decode cX9_named 43 = .ok (.ireturn, 1) := by decide +kernel
theorem dX9_named_44 : decode cX9_named 44 = .ok (.aload_n 0, 1) := by decide +kernel
theorem dX9_named_45 : decode cX9_named 45 = .ok (.getfield 27, 3) := by decide +kernel
theorem dX9_named_48 : decode cX9_named 48 = .ok (.getfield 108, 3) := by decide +kernel
theorem dX9_named_51 : decode cX9_named 51 = .ok (.iload_n 2, 1) := by decide +kernel
theorem dX9_named_52 : decode cX9_named 52 = .ok (.invokevirtual 102, 3) := by decide +kernel
theorem dX9_named_55 : decode cX9_named 55 = .ok (.ireturn, 1) := by decide +kernel
theorem dX9_named_56 : decode cX9_named 56 = .ok (.aload_n 0, 1) := by decide +kernel
theorem dX9_named_57 : decode cX9_named 57 = .ok (.getfield 27, 3) := by decide +kernel
theorem dX9_named_60 : decode cX9_named 60 = .ok (.getfield 111, 3) := by decide +kernel
theorem dX9_named_63 : decode cX9_named 63 = .ok (.iload_n 2, 1) := by decide +kernel
theorem dX9_named_64 : decode cX9_named 64 = .ok (.invokevirtual 102, 3) := by decide +kernel
theorem dX9_named_67 : decode cX9_named 67 = .ok (.ireturn, 1) := by decide +kernel
theorem dX9_named_68 : decode cX9_named 68 = .ok (.aload_n 0, 1) := by decide +kernel
theorem dX9_named_69 : decode cX9_named 69 = .ok (.getfield 27, 3) := by decide +kernel
theorem dX9_named_72 : decode cX9_named 72 = .ok (.getfield 114, 3) := by decide +kernel
theorem dX9_named_75 : decode cX9_named 75 = .ok (.iload_n 2, 1) := by decide +kernel
theorem dX9_named_76 : decode cX9_named 76 = .ok (.invokevirtual 102, 3) := by decide +kernel
theorem dX9_named_79 : decode cX9_named 79 = .ok (.ireturn, 1) := by decide +kernel
theorem dX9_named_80 : decode cX9_named 80 = .ok (.iconst (-1), 1) := by decide +kernel
theorem dX9_named_81 : decode cX9_named 81 = .ok (.ireturn, 1) := by decide +kernel
theorem dX9_look_0 : decode cX9_look 0 = .ok (.aload_n 0, 1) := by decide +kernel
theorem dX9_look_1 : decode cX9_look 1 = .ok (.getfield 27, 3) := by decide +kernel
theorem dX9_look_4 : decode cX9_look 4 = .ok (.iload_n 1, 1) := by decide +kernel
theorem dX9_look_5 : decode cX9_look 5 = .ok (.iload_n 2, 1) := by decide +kernel
theorem dX9_look_6 : decode cX9_look 6 = .ok (.invokevirtual 117, 3) := by decide +kernel
theorem dX9_look_9 : decode cX9_look 9 = .ok (.ifCond .ne 13, 3) := by decide +kernel
theorem dX9_look_12 : decode cX9_look 12 = .ok (.new 121, 3) := by decide +kernel
theorem dX9_look_15 : decode cX9_look 15 = .ok (.dup, 1) := by decide +kernel
theorem dX9_look_16 : decode cX9_look 16 = .ok (.ldc 123, 2) := by decide +kernel
theorem dX9_look_18 : decode cX9_look 18 = .ok (.invokespecial 125, 3) := by decide +kernel
theorem dX9_look_21 : decode cX9_look 21 = .ok (.athrow, 1) := by decide +kernel
theorem dX9_look_22 : decode cX9_look 22 = .ok (.iload_n 3, 1) := by decide +kernel
theorem dX9_look_23 : decode cX9_look 23 = .ok (.ifCond .lt 9, 3) := by decide +kernel
theorem dX9_look_26 : decode cX9_look 26 = .ok (.iload_n 3, 1) := by decide +kernel
theorem dX9_look_27 : decode cX9_look 27 = .ok (.bipush 6, 2) := by decide +kernel
theorem dX9_look_29 : decode cX9_look 29 = .ok (.if_icmp .lt 13, 3) := by decide +kernel
theorem dX9_look_32 : decode cX9_look 32 = .ok (.new 128, 3) := by decide +kernel
theorem dX9_look_35 : decode cX9_look 35 = .ok (.dup, 1) := by decide +kernel
theorem dX9_look_36 : decode cX9_look 36 = .ok (.ldc 130, 2) := by decide +kernel
theorem dX9_look_38 : decode cX9_look 38 = .ok (.invokespecial 132, 3) := by decide +kernel
theorem dX9_look_41 : decode cX9_look 41 = .ok (.athrow, 1) := by decide +kernel
theorem dX9_look_42 : decode cX9_look 42 = .ok (.aload_n 0, 1) := by decide +kernel
theorem dX9_look_43 : decode cX9_look 43 = .ok (.getfield 54, 3) := by decide +kernel
theorem dX9_look_46 : decode cX9_look 46 = .ok (.getfield 133, 3) := by decide +kernel
theorem dX9_look_49 : decode cX9_look 49 = .ok (.iload_n 1, 1) := by decide +kernel
theorem dX9_look_50 : decode cX9_look 50 = .ok (.iload_n 2, 1) := by decide +kernel
theorem dX9_look_51 : decode cX9_look 51 = .ok (.invokestatic 137, 3) := by decide +kernel
theorem dX9_look_54 : decode cX9_look 54 = .ok (.iload_n 3, 1) := by decide +kernel
theorem dX9_look_55 : decode cX9_look 55 = .ok (.iadd, 1) := by decide +kernel
theorem dX9_look_56 : decode cX9_look 56 = .ok (.iaload, 1) := by decide +kernel
theorem dX9_look_57 : decode cX9_look 57 = .ok (.ireturn, 1) := by decide +kernel
theorem dX9_about_0 : decode cX9_about 0 = .ok (.aload_n 0, 1) := by decide +kernel
theorem dX9_about_1 : decode cX9_about 1 = .ok (.getfield 27, 3) := by decide +kernel
theorem dX9_about_4 : decode cX9_about 4 = .ok (.iload_n 1, 1) := by decide +kernel
theorem dX9_about_5 : decode cX9_about 5 = .ok (.invokevirtual 141, 3) := by decide +kernel
theorem dX9_about_8 : decode cX9_about 8 = .ok (.ifCond .ne 5, 3) := by decide +kernel
theorem dX9_about_11 : decode cX9_about 11 = .ok (.iconst (-1), 1) := by decide +kernel
theorem dX9_about_12 : decode cX9_about 12 = .ok (.ireturn, 1) := by decide +kernel
theorem dX9_about_13 : decode cX9_about 13 = .ok (.iload_n 2, 1) := by decide +kernel
theorem dX9_about_14 : decode cX9_about 14 = .ok (.tableswitch 56 0 2 #[26, 36, 46], 26) := by decide +kernel
theorem dX9_about_40 : decode cX9_about 40 = .ok (.aload_n 0, 1) := by decide +kernel
theorem dX9_about_41 : decode cX9_about 41 = .ok (.getfield 27, 3) := by decide +kernel
theorem dX9_about_44 : decode cX9_about 44 = .ok (.getfield 145, 3) := by decide +kernel
theorem dX9_about_47 : decode cX9_about 47 = .ok (.iload_n 1, 1) := by decide +kernel
theorem dX9_about_48 : decode cX9_about 48 = .ok (.iaload, 1) := by decide +kernel
theorem dX9_about_49 : decode cX9_about 49 = .ok (.ireturn, 1) := by decide +kernel
theorem dX9_about_50 : decode cX9_about 50 = .ok (.aload_n 0, 1) := by decide +kernel
theorem dX9_about_51 : decode cX9_about 51 = .ok (.getfield 27, 3) := by decide +kernel
theorem dX9_about_54 : decode cX9_about 54 = .ok (.getfield 148, 3) := by decide +kernel
theorem dX9_about_57 : decode cX9_about 57 = .ok (.iload_n 1, 1) := by decide +kernel
theorem dX9_about_58 : decode cX9_about 58 = .ok (.iaload, 1) := by decide +kernel
theorem dX9_about_59 : decode cX9_about 59 = .ok (.ireturn, 1) := by decide +kernel
theorem dX9_about_60 : decode cX9_about 60 = .ok (.aload_n 0, 1) := by decide +kernel
theorem dX9_about_61 : decode cX9_about 61 = .ok (.getfield 54, 3) := by decide +kernel
theorem dX9_about_64 : decode cX9_about 64 = .ok (.getfield 151, 3) := by decide +kernel
theorem dX9_about_67 : decode cX9_about 67 = .ok (.iload_n 1, 1) := by decide +kernel
theorem dX9_about_68 : decode cX9_about 68 = .ok (.iaload, 1) := by decide +kernel
theorem dX9_about_69 : decode cX9_about 69 = .ok (.ireturn, 1) := by decide +kernel
theorem dX9_about_70 : decode cX9_about 70 = .ok (.iconst (-1), 1) := by decide +kernel
theorem dX9_about_71 : decode cX9_about 71 = .ok (.ireturn, 1) := by decide +kernel
theorem dX9_tape_0 : decode cX9_tape 0 = .ok (.aload_n 0, 1) := by decide +kernel
theorem dX9_tape_1 : decode cX9_tape 1 = .ok (.getfield 27, 3) := by decide +kernel
theorem dX9_tape_4 : decode cX9_tape 4 = .ok (.iload_n 1, 1) := by decide +kernel
theorem dX9_tape_5 : decode cX9_tape 5 = .ok (.iload_n 2, 1) := by decide +kernel
theorem dX9_tape_6 : decode cX9_tape 6 = .ok (.invokevirtual 117, 3) := by decide +kernel
theorem dX9_tape_9 : decode cX9_tape 9 = .ok (.ifCond .eq 30, 3) := by decide +kernel
theorem dX9_tape_12 : decode cX9_tape 12 = .ok (.iload_n 3, 1) := by decide +kernel
theorem dX9_tape_13 : decode cX9_tape 13 = .ok (.sipush (-999), 3) := by decide +kernel
theorem dX9_tape_16 : decode cX9_tape 16 = .ok (.sipush 999, 3) := by decide +kernel
theorem dX9_tape_19 : decode cX9_tape 19 = .ok (.invokestatic 154, 3) := by decide +kernel
theorem dX9_tape_22 : decode cX9_tape 22 = .ok (.ifCond .ne 17, 3) := by decide +kernel
theorem dX9_tape_25 : decode cX9_tape 25 = .ok (.iload 4, 2) := by decide +kernel
theorem dX9_tape_27 : decode cX9_tape 27 = .ok (.sipush (-999), 3) := by decide +kernel
theorem dX9_tape_30 : decode cX9_tape 30 = .ok (.sipush 999, 3) := by decide +kernel
theorem dX9_tape_33 : decode cX9_tape 33 = .ok (.invokestatic 154, 3) := by decide +kernel
theorem dX9_tape_36 : decode cX9_tape 36 = .ok (.ifCond .eq 5, 3) := by decide +kernel
theorem dX9_tape_39 : decode cX9_tape 39 = .ok (.iconst (-1), 1) := by decide +kernel
theorem dX9_tape_40 : decode cX9_tape 40 = .ok (.ireturn, 1) := by decide +kernel
theorem dX9_tape_41 : decode cX9_tape 41 = .ok (.aload_n 0, 1) := by decide +kernel
theorem dX9_tape_42 : decode cX9_tape 42 = .ok (.iconst 0, 1) := by decide +kernel
theorem dX9_tape_43 : decode cX9_tape 43 = .ok (.iload_n 1, 1) := by decide +kernel
theorem dX9_tape_44 : decode cX9_tape 44 = .ok (.iload_n 2, 1) := by decide +kernel
theorem dX9_tape_45 : decode cX9_tape 45 = .ok (.invokestatic 137, 3) := by decide +kernel
theorem dX9_tape_48 : decode cX9_tape 48 = .ok (.iload_n 3, 1) := by decide +kernel
theorem dX9_tape_49 : decode cX9_tape 49 = .ok (.iload 4, 2) := by decide +kernel
theorem dX9_tape_51 : decode cX9_tape 51 = .ok (.invokevirtual 158, 3) := by decide +kernel
theorem dX9_tape_54 : decode cX9_tape 54 = .ok (.ireturn, 1) := by decide +kernel
theorem dX9_gone_0 : decode cX9_gone 0 = .ok (.aload_n 0, 1) := by decide +kernel
theorem dX9_gone_1 : decode cX9_gone 1 = .ok (.getfield 27, 3) := by decide +kernel
theorem dX9_gone_4 : decode cX9_gone 4 = .ok (.iload_n 1, 1) := by decide +kernel
theorem dX9_gone_5 : decode cX9_gone 5 = .ok (.iload_n 2, 1) := by decide +kernel
theorem dX9_gone_6 : decode cX9_gone 6 = .ok (.invokevirtual 117, 3) := by decide +kernel
theorem dX9_gone_9 : decode cX9_gone 9 = .ok (.ifCond .ne 5, 3) := by decide +kernel
theorem dX9_gone_12 : decode cX9_gone 12 = .ok (.iconst (-1), 1) := by decide +kernel
theorem dX9_gone_13 : decode cX9_gone 13 = .ok (.ireturn, 1) := by decide +kernel
theorem dX9_gone_14 : decode cX9_gone 14 = .ok (.aload_n 0, 1) := by decide +kernel
theorem dX9_gone_15 : decode cX9_gone 15 = .ok (.iconst 1, 1) := by decide +kernel
theorem dX9_gone_16 : decode cX9_gone 16 = .ok (.iload_n 1, 1) := by decide +kernel
theorem dX9_gone_17 : decode cX9_gone 17 = .ok (.iload_n 2, 1) := by decide +kernel
theorem dX9_gone_18 : decode cX9_gone 18 = .ok (.invokestatic 137, 3) := by decide +kernel
theorem dX9_gone_21 : decode cX9_gone 21 = .ok (.iload_n 3, 1) := by decide +kernel
theorem dX9_gone_22 : decode cX9_gone 22 = .ok (.ifCond .eq 7, 3) := by decide +kernel
theorem dX9_gone_25 : decode cX9_gone 25 = .ok (.iconst 1, 1) := by decide +kernel
theorem dX9_gone_26 : decode cX9_gone 26 = .ok (.goto 4, 3) := by decide +kernel
theorem dX9_gone_29 : decode cX9_gone 29 = .ok (.iconst 0, 1) := by decide +kernel
theorem dX9_gone_30 : decode cX9_gone 30 = .ok (.iconst 0, 1) := by decide +kernel
theorem dX9_gone_31 : decode cX9_gone 31 = .ok (.invokevirtual 158, 3) := by decide +kernel
theorem dX9_gone_34 : decode cX9_gone 34 = .ok (.ireturn, 1) := by decide +kernel
theorem dX9_strike_0 : decode cX9_strike 0 = .ok (.iload_n 1, 1) := by decide +kernel
theorem dX9_strike_1 : decode cX9_strike 1 = .ok (.ifCond .lt 14, 3) := by decide +kernel
theorem dX9_strike_4 : decode cX9_strike 4 = .ok (.iload_n 1, 1) := by decide +kernel
theorem dX9_strike_5 : decode cX9_strike 5 = .ok (.aload_n 0, 1) := by decide +kernel
theorem dX9_strike_6 : decode cX9_strike 6 = .ok (.getfield 37, 3) := by decide +kernel
theorem dX9_strike_9 : decode cX9_strike 9 = .ok (.getfield 83, 3) := by decide +kernel
theorem dX9_strike_12 : decode cX9_strike 12 = .ok (.if_icmp .lt 5, 3) := by decide +kernel
theorem dX9_strike_15 : decode cX9_strike 15 = .ok (.iconst (-1), 1) := by decide +kernel
theorem dX9_strike_16 : decode cX9_strike 16 = .ok (.ireturn, 1) := by decide +kernel
theorem dX9_strike_17 : decode cX9_strike 17 = .ok (.aload_n 0, 1) := by decide +kernel
theorem dX9_strike_18 : decode cX9_strike 18 = .ok (.iconst 2, 1) := by decide +kernel
theorem dX9_strike_19 : decode cX9_strike 19 = .ok (.iload_n 1, 1) := by decide +kernel
theorem dX9_strike_20 : decode cX9_strike 20 = .ok (.iconst 0, 1) := by decide +kernel
theorem dX9_strike_21 : decode cX9_strike 21 = .ok (.iconst 0, 1) := by decide +kernel
theorem dX9_strike_22 : decode cX9_strike 22 = .ok (.invokevirtual 158, 3) := by decide +kernel
theorem dX9_strike_25 : decode cX9_strike 25 = .ok (.ireturn, 1) := by decide +kernel
theorem dX9_known_0 : decode cX9_known 0 = .ok (.iload_n 1, 1) := by decide +kernel
theorem dX9_known_1 : decode cX9_known 1 = .ok (.iconst (-1), 1) := by decide +kernel
theorem dX9_known_2 : decode cX9_known 2 = .ok (.aload_n 0, 1) := by decide +kernel
theorem dX9_known_3 : decode cX9_known 3 = .ok (.getfield 37, 3) := by decide +kernel
theorem dX9_known_6 : decode cX9_known 6 = .ok (.getfield 83, 3) := by decide +kernel
theorem dX9_known_9 : decode cX9_known 9 = .ok (.invokestatic 154, 3) := by decide +kernel
theorem dX9_known_12 : decode cX9_known 12 = .ok (.ifCond .eq 5, 3) := by decide +kernel
theorem dX9_known_15 : decode cX9_known 15 = .ok (.iconst 0, 1) := by decide +kernel
theorem dX9_known_16 : decode cX9_known 16 = .ok (.ireturn, 1) := by decide +kernel
theorem dX9_known_17 : decode cX9_known 17 = .ok (.aload_n 0, 1) := by decide +kernel
theorem dX9_known_18 : decode cX9_known 18 = .ok (.iload_n 1, 1) := by decide +kernel
theorem dX9_known_19 : decode cX9_known 19 = .ok (.putfield 41, 3) := by decide +kernel
theorem dX9_known_22 : decode cX9_known 22 = .ok (.aload_n 0, 1) := by decide +kernel
theorem dX9_known_23 : decode cX9_known 23 = .ok (.invokevirtual 86, 3) := by decide +kernel
theorem dX9_known_26 : decode cX9_known 26 = .ok (.iconst 1, 1) := by decide +kernel
theorem dX9_known_27 : decode cX9_known 27 = .ok (.ireturn, 1) := by decide +kernel
theorem dX9_mode_0 : decode cX9_mode 0 = .ok (.iload_n 1, 1) := by decide +kernel
theorem dX9_mode_1 : decode cX9_mode 1 = .ok (.iconst 0, 1) := by decide +kernel
theorem dX9_mode_2 : decode cX9_mode 2 = .ok (.iconst 3, 1) := by decide +kernel
theorem dX9_mode_3 : decode cX9_mode 3 = .ok (.invokestatic 154, 3) := by decide +kernel
theorem dX9_mode_6 : decode cX9_mode 6 = .ok (.ifCond .eq 5, 3) := by decide +kernel
theorem dX9_mode_9 : decode cX9_mode 9 = .ok (.iconst 0, 1) := by decide +kernel
theorem dX9_mode_10 : decode cX9_mode 10 = .ok (.ireturn, 1) := by decide +kernel
theorem dX9_mode_11 : decode cX9_mode 11 = .ok (.aload_n 0, 1) := by decide +kernel
theorem dX9_mode_12 : decode cX9_mode 12 = .ok (.iload_n 1, 1) := by decide +kernel
theorem dX9_mode_13 : decode cX9_mode 13 = .ok (.putfield 44, 3) := by decide +kernel
theorem dX9_mode_16 : decode cX9_mode 16 = .ok (.aload_n 0, 1) := by decide +kernel
theorem dX9_mode_17 : decode cX9_mode 17 = .ok (.iload_n 2, 1) := by decide +kernel
theorem dX9_mode_18 : decode cX9_mode 18 = .ok (.putfield 47, 3) := by decide +kernel
theorem dX9_mode_21 : decode cX9_mode 21 = .ok (.aload_n 0, 1) := by decide +kernel
theorem dX9_mode_22 : decode cX9_mode 22 = .ok (.invokevirtual 86, 3) := by decide +kernel
theorem dX9_mode_25 : decode cX9_mode 25 = .ok (.iconst 1, 1) := by decide +kernel
theorem dX9_mode_26 : decode cX9_mode 26 = .ok (.ireturn, 1) := by decide +kernel
theorem dX9_takeNote_0 : decode cX9_takeNote 0 = .ok (.aload_n 0, 1) := by decide +kernel
theorem dX9_takeNote_1 : decode cX9_takeNote 1 = .ok (.getfield 37, 3) := by decide +kernel
theorem dX9_takeNote_4 : decode cX9_takeNote 4 = .ok (.iload_n 1, 1) := by decide +kernel
theorem dX9_takeNote_5 : decode cX9_takeNote 5 = .ok (.iload_n 2, 1) := by decide +kernel
theorem dX9_takeNote_6 : decode cX9_takeNote 6 = .ok (.iload_n 3, 1) := by decide +kernel
theorem dX9_takeNote_7 : decode cX9_takeNote 7 = .ok (.iload 4, 2) := by decide +kernel
theorem dX9_takeNote_9 : decode cX9_takeNote 9 = .ok (.invokevirtual 162, 3) := by decide +kernel
theorem dX9_takeNote_12 : decode cX9_takeNote 12 = .ok (.istore 5, 2) := by decide +kernel
theorem dX9_takeNote_14 : decode cX9_takeNote 14 = .ok (.iload 5, 2) := by decide +kernel
theorem dX9_takeNote_16 : decode cX9_takeNote 16 = .ok (.iconst (-1), 1) := by decide +kernel
theorem dX9_takeNote_17 : decode cX9_takeNote 17 = .ok (.if_icmp .eq 7, 3) := by decide +kernel
theorem dX9_takeNote_20 : decode cX9_takeNote 20 = .ok (.aload_n 0, 1) := by decide +kernel
theorem dX9_takeNote_21 : decode cX9_takeNote 21 = .ok (.invokevirtual 86, 3) := by decide +kernel
theorem dX9_takeNote_24 : decode cX9_takeNote 24 = .ok (.iload 5, 2) := by decide +kernel
theorem dX9_takeNote_26 : decode cX9_takeNote 26 = .ok (.ireturn, 1) := by decide +kernel
theorem dX9_notesKnown_0 : decode cX9_notesKnown 0 = .ok (.aload_n 0, 1) := by decide +kernel
theorem dX9_notesKnown_1 : decode cX9_notesKnown 1 = .ok (.getfield 41, 3) := by decide +kernel
theorem dX9_notesKnown_4 : decode cX9_notesKnown 4 = .ok (.iconst (-1), 1) := by decide +kernel
theorem dX9_notesKnown_5 : decode cX9_notesKnown 5 = .ok (.if_icmp .ne 13, 3) := by decide +kernel
theorem dX9_notesKnown_8 : decode cX9_notesKnown 8 = .ok (.aload_n 0, 1) := by decide +kernel
theorem dX9_notesKnown_9 : decode cX9_notesKnown 9 = .ok (.getfield 37, 3) := by decide +kernel
theorem dX9_notesKnown_12 : decode cX9_notesKnown 12 = .ok (.getfield 83, 3) := by decide +kernel
theorem dX9_notesKnown_15 : decode cX9_notesKnown 15 = .ok (.goto 7, 3) := by decide +kernel
theorem dX9_notesKnown_18 : decode cX9_notesKnown 18 = .ok (.aload_n 0, 1) := by decide +kernel
theorem dX9_notesKnown_19 : decode cX9_notesKnown 19 = .ok (.getfield 41, 3) := by decide +kernel
theorem dX9_notesKnown_22 : decode cX9_notesKnown 22 = .ok (.ireturn, 1) := by decide +kernel
theorem dX9_learnAnew_0 : decode cX9_learnAnew 0 = .ok (.aload_n 0, 1) := by decide +kernel
theorem dX9_learnAnew_1 : decode cX9_learnAnew 1 = .ok (.getfield 54, 3) := by decide +kernel
theorem dX9_learnAnew_4 : decode cX9_learnAnew 4 = .ok (.aload_n 0, 1) := by decide +kernel
theorem dX9_learnAnew_5 : decode cX9_learnAnew 5 = .ok (.getfield 27, 3) := by decide +kernel
theorem dX9_learnAnew_8 : decode cX9_learnAnew 8 = .ok (.aload_n 0, 1) := by decide +kernel
theorem dX9_learnAnew_9 : decode cX9_learnAnew 9 = .ok (.getfield 37, 3) := by decide +kernel
theorem dX9_learnAnew_12 : decode cX9_learnAnew 12 = .ok (.aload_n 0, 1) := by decide +kernel
theorem dX9_learnAnew_13 : decode cX9_learnAnew 13 = .ok (.invokevirtual 165, 3) := by decide +kernel
theorem dX9_learnAnew_16 : decode cX9_learnAnew 16 = .ok (.aload_n 0, 1) := by decide +kernel
theorem dX9_learnAnew_17 : decode cX9_learnAnew 17 = .ok (.getfield 44, 3) := by decide +kernel
theorem dX9_learnAnew_20 : decode cX9_learnAnew 20 = .ok (.invokevirtual 169, 3) := by decide +kernel
theorem dX9_learnAnew_23 : decode cX9_learnAnew 23 = .ok (.return_, 1) := by decide +kernel
theorem dX9_fit_0 : decode cX9_fit 0 = .ok (.iload_n 2, 1) := by decide +kernel
theorem dX9_fit_1 : decode cX9_fit 1 = .ok (.iconst 0, 1) := by decide +kernel
theorem dX9_fit_2 : decode cX9_fit 2 = .ok (.iconst 2, 1) := by decide +kernel
theorem dX9_fit_3 : decode cX9_fit 3 = .ok (.invokestatic 154, 3) := by decide +kernel
theorem dX9_fit_6 : decode cX9_fit 6 = .ok (.ifCond .ne 12, 3) := by decide +kernel
theorem dX9_fit_9 : decode cX9_fit 9 = .ok (.iload_n 3, 1) := by decide +kernel
theorem dX9_fit_10 : decode cX9_fit 10 = .ok (.iconst 0, 1) := by decide +kernel
theorem dX9_fit_11 : decode cX9_fit 11 = .ok (.iconst 3, 1) := by decide +kernel
theorem dX9_fit_12 : decode cX9_fit 12 = .ok (.invokestatic 154, 3) := by decide +kernel
theorem dX9_fit_15 : decode cX9_fit 15 = .ok (.ifCond .eq 6, 3) := by decide +kernel
theorem dX9_fit_18 : decode cX9_fit 18 = .ok (.ldc 175, 2) := by decide +kernel
theorem dX9_fit_20 : decode cX9_fit 20 = .ok (.ireturn, 1) := by decide +kernel
theorem dX9_fit_21 : decode cX9_fit 21 = .ok (.aload_n 0, 1) := by decide +kernel
theorem dX9_fit_22 : decode cX9_fit 22 = .ok (.getfield 54, 3) := by decide +kernel
theorem dX9_fit_25 : decode cX9_fit 25 = .ok (.iload_n 1, 1) := by decide +kernel
theorem dX9_fit_26 : decode cX9_fit 26 = .ok (.iload_n 2, 1) := by decide +kernel
theorem dX9_fit_27 : decode cX9_fit 27 = .ok (.iconst 4, 1) := by decide +kernel
theorem dX9_fit_28 : decode cX9_fit 28 = .ok (.imul, 1) := by decide +kernel
theorem dX9_fit_29 : decode cX9_fit 29 = .ok (.iload_n 3, 1) := by decide +kernel
theorem dX9_fit_30 : decode cX9_fit 30 = .ok (.iadd, 1) := by decide +kernel
theorem dX9_fit_31 : decode cX9_fit 31 = .ok (.invokevirtual 176, 3) := by decide +kernel
theorem dX9_fit_34 : decode cX9_fit 34 = .ok (.istore 5, 2) := by decide +kernel
theorem dX9_fit_36 : decode cX9_fit 36 = .ok (.iload 5, 2) := by decide +kernel
theorem dX9_fit_38 : decode cX9_fit 38 = .ok (.iconst (-1), 1) := by decide +kernel
theorem dX9_fit_39 : decode cX9_fit 39 = .ok (.if_icmp .ne 6, 3) := by decide +kernel
theorem dX9_fit_42 : decode cX9_fit 42 = .ok (.ldc 175, 2) := by decide +kernel
theorem dX9_fit_44 : decode cX9_fit 44 = .ok (.ireturn, 1) := by decide +kernel
theorem dX9_fit_45 : decode cX9_fit 45 = .ok (.iload 4, 2) := by decide +kernel
theorem dX9_fit_47 : decode cX9_fit 47 = .ok (.tableswitch 73 0 3 #[29, 40, 51, 62], 29) := by decide +kernel
theorem dX9_fit_76 : decode cX9_fit 76 = .ok (.aload_n 0, 1) := by decide +kernel
theorem dX9_fit_77 : decode cX9_fit 77 = .ok (.getfield 54, 3) := by decide +kernel
theorem dX9_fit_80 : decode cX9_fit 80 = .ok (.getfield 179, 3) := by decide +kernel
theorem dX9_fit_83 : decode cX9_fit 83 = .ok (.iload 5, 2) := by decide +kernel
theorem dX9_fit_85 : decode cX9_fit 85 = .ok (.iaload, 1) := by decide +kernel
theorem dX9_fit_86 : decode cX9_fit 86 = .ok (.ireturn, 1) := by decide +kernel
theorem dX9_fit_87 : decode cX9_fit 87 = .ok (.aload_n 0, 1) := by decide +kernel
theorem dX9_fit_88 : decode cX9_fit 88 = .ok (.getfield 54, 3) := by decide +kernel
theorem dX9_fit_91 : decode cX9_fit 91 = .ok (.getfield 182, 3) := by decide +kernel
theorem dX9_fit_94 : decode cX9_fit 94 = .ok (.iload 5, 2) := by decide +kernel
theorem dX9_fit_96 : decode cX9_fit 96 = .ok (.iaload, 1) := by decide +kernel
theorem dX9_fit_97 : decode cX9_fit 97 = .ok (.ireturn, 1) := by decide +kernel
theorem dX9_fit_98 : decode cX9_fit 98 = .ok (.aload_n 0, 1) := by decide +kernel
theorem dX9_fit_99 : decode cX9_fit 99 = .ok (.getfield 54, 3) := by decide +kernel
theorem dX9_fit_102 : decode cX9_fit 102 = .ok (.getfield 185, 3) := by decide +kernel
theorem dX9_fit_105 : decode cX9_fit 105 = .ok (.iload 5, 2) := by decide +kernel
theorem dX9_fit_107 : decode cX9_fit 107 = .ok (.iaload, 1) := by decide +kernel
theorem dX9_fit_108 : decode cX9_fit 108 = .ok (.ireturn, 1) := by decide +kernel
theorem dX9_fit_109 : decode cX9_fit 109 = .ok (.aload_n 0, 1) := by decide +kernel
theorem dX9_fit_110 : decode cX9_fit 110 = .ok (.getfield 54, 3) := by decide +kernel
theorem dX9_fit_113 : decode cX9_fit 113 = .ok (.getfield 188, 3) := by decide +kernel
theorem dX9_fit_116 : decode cX9_fit 116 = .ok (.iload 5, 2) := by decide +kernel
theorem dX9_fit_118 : decode cX9_fit 118 = .ok (.iaload, 1) := by decide +kernel
theorem dX9_fit_119 : decode cX9_fit 119 = .ok (.ireturn, 1) := by decide +kernel
theorem dX9_fit_120 : decode cX9_fit 120 = .ok (.ldc 175, 2) := by decide +kernel
theorem dX9_fit_122 : decode cX9_fit 122 = .ok (.ireturn, 1) := by decide +kernel
theorem dX9_best_0 : decode cX9_best 0 = .ok (.aload_n 0, 1) := by decide +kernel
theorem dX9_best_1 : decode cX9_best 1 = .ok (.getfield 54, 3) := by decide +kernel
theorem dX9_best_4 : decode cX9_best 4 = .ok (.iload_n 1, 1) := by decide +kernel
theorem dX9_best_5 : decode cX9_best 5 = .ok (.invokevirtual 191, 3) := by decide +kernel
theorem dX9_best_8 : decode cX9_best 8 = .ok (.istore_n 3, 1) := by decide +kernel
theorem dX9_best_9 : decode cX9_best 9 = .ok (.aload_n 0, 1) := by decide +kernel
theorem dX9_best_10 : decode cX9_best 10 = .ok (.getfield 54, 3) := by decide +kernel
theorem dX9_best_13 : decode cX9_best 13 = .ok (.iload_n 1, 1) := by decide +kernel
theorem dX9_best_14 : decode cX9_best 14 = .ok (.iload_n 3, 1) := by decide +kernel
theorem dX9_best_15 : decode cX9_best 15 = .ok (.invokevirtual 176, 3) := by decide +kernel
theorem dX9_best_18 : decode cX9_best 18 = .ok (.istore 4, 2) := by decide +kernel
theorem dX9_best_20 : decode cX9_best 20 = .ok (.iload 4, 2) := by decide +kernel
theorem dX9_best_22 : decode cX9_best 22 = .ok (.iconst (-1), 1) := by decide +kernel
theorem dX9_best_23 : decode cX9_best 23 = .ok (.if_icmp .ne 5, 3) := by decide +kernel
theorem dX9_best_26 : decode cX9_best 26 = .ok (.iconst (-1), 1) := by decide +kernel
theorem dX9_best_27 : decode cX9_best 27 = .ok (.ireturn, 1) := by decide +kernel
theorem dX9_best_28 : decode cX9_best 28 = .ok (.iload_n 2, 1) := by decide +kernel
theorem dX9_best_29 : decode cX9_best 29 = .ok (.tableswitch 61 0 3 #[31, 35, 39, 50], 31) := by decide +kernel
theorem dX9_best_60 : decode cX9_best 60 = .ok (.iload_n 3, 1) := by decide +kernel
theorem dX9_best_61 : decode cX9_best 61 = .ok (.iconst 4, 1) := by decide +kernel
theorem dX9_best_62 : decode cX9_best 62 = .ok (.idiv, 1) := by decide +kernel
theorem dX9_best_63 : decode cX9_best 63 = .ok (.ireturn, 1) := by decide +kernel
theorem dX9_best_64 : decode cX9_best 64 = .ok (.iload_n 3, 1) := by decide +kernel
theorem dX9_best_65 : decode cX9_best 65 = .ok (.iconst 4, 1) := by decide +kernel
theorem dX9_best_66 : decode cX9_best 66 = .ok (.irem, 1) := by decide +kernel
theorem dX9_best_67 : decode cX9_best 67 = .ok (.ireturn, 1) := by decide +kernel
theorem dX9_best_68 : decode cX9_best 68 = .ok (.aload_n 0, 1) := by decide +kernel
theorem dX9_best_69 : decode cX9_best 69 = .ok (.getfield 54, 3) := by decide +kernel
theorem dX9_best_72 : decode cX9_best 72 = .ok (.getfield 179, 3) := by decide +kernel
theorem dX9_best_75 : decode cX9_best 75 = .ok (.iload 4, 2) := by decide +kernel
theorem dX9_best_77 : decode cX9_best 77 = .ok (.iaload, 1) := by decide +kernel
theorem dX9_best_78 : decode cX9_best 78 = .ok (.ireturn, 1) := by decide +kernel
theorem dX9_best_79 : decode cX9_best 79 = .ok (.aload_n 0, 1) := by decide +kernel
theorem dX9_best_80 : decode cX9_best 80 = .ok (.getfield 54, 3) := by decide +kernel
theorem dX9_best_83 : decode cX9_best 83 = .ok (.getfield 182, 3) := by decide +kernel
theorem dX9_best_86 : decode cX9_best 86 = .ok (.iload 4, 2) := by decide +kernel
theorem dX9_best_88 : decode cX9_best 88 = .ok (.iaload, 1) := by decide +kernel
theorem dX9_best_89 : decode cX9_best 89 = .ok (.ireturn, 1) := by decide +kernel
theorem dX9_best_90 : decode cX9_best 90 = .ok (.iconst (-1), 1) := by decide +kernel
theorem dX9_best_91 : decode cX9_best 91 = .ok (.ireturn, 1) := by decide +kernel
theorem dX9_well_0 : decode cX9_well 0 = .ok (.aload_n 0, 1) := by decide +kernel
theorem dX9_well_1 : decode cX9_well 1 = .ok (.getfield 54, 3) := by decide +kernel
theorem dX9_well_4 : decode cX9_well 4 = .ok (.iload_n 1, 1) := by decide +kernel
theorem dX9_well_5 : decode cX9_well 5 = .ok (.invokevirtual 194, 3) := by decide +kernel
theorem dX9_well_8 : decode cX9_well 8 = .ok (.ifCond .eq 21, 3) := by decide +kernel
theorem dX9_well_11 : decode cX9_well 11 = .ok (.aload_n 0, 1) := by decide +kernel
theorem dX9_well_12 : decode cX9_well 12 = .ok (.getfield 54, 3) := by decide +kernel
theorem dX9_well_15 : decode cX9_well 15 = .ok (.iload_n 1, 1) := by decide +kernel
theorem dX9_well_16 : decode cX9_well 16 = .ok (.aload_n 0, 1) := by decide +kernel
theorem dX9_well_17 : decode cX9_well 17 = .ok (.getfield 27, 3) := by decide +kernel
theorem dX9_well_20 : decode cX9_well 20 = .ok (.getfield 197, 3) := by decide +kernel
theorem dX9_well_23 : decode cX9_well 23 = .ok (.invokevirtual 200, 3) := by decide +kernel
theorem dX9_well_26 : decode cX9_well 26 = .ok (.goto 4, 3) := by decide +kernel
theorem dX9_well_29 : decode cX9_well 29 = .ok (.iconst (-1), 1) := by decide +kernel
theorem dX9_well_30 : decode cX9_well 30 = .ok (.ireturn, 1) := by decide +kernel
theorem dX9_span_0 : decode cX9_span 0 = .ok (.aload_n 0, 1) := by decide +kernel
theorem dX9_span_1 : decode cX9_span 1 = .ok (.getfield 54, 3) := by decide +kernel
theorem dX9_span_4 : decode cX9_span 4 = .ok (.iload_n 1, 1) := by decide +kernel
theorem dX9_span_5 : decode cX9_span 5 = .ok (.invokevirtual 194, 3) := by decide +kernel
theorem dX9_span_8 : decode cX9_span 8 = .ok (.ifCond .eq 12, 3) := by decide +kernel
theorem dX9_span_11 : decode cX9_span 11 = .ok (.iload_n 2, 1) := by decide +kernel
theorem dX9_span_12 : decode cX9_span 12 = .ok (.iconst 0, 1) := by decide +kernel
theorem dX9_span_13 : decode cX9_span 13 = .ok (.iconst 1, 1) := by decide +kernel
theorem dX9_span_14 : decode cX9_span 14 = .ok (.invokestatic 154, 3) := by decide +kernel
theorem dX9_span_17 : decode cX9_span 17 = .ok (.ifCond .eq 5, 3) := by decide +kernel
theorem dX9_span_20 : decode cX9_span 20 = .ok (.iconst (-1), 1) := by decide +kernel
theorem dX9_span_21 : decode cX9_span 21 = .ok (.ireturn, 1) := by decide +kernel
theorem dX9_span_22 : decode cX9_span 22 = .ok (.aload_n 0, 1) := by decide +kernel
theorem dX9_span_23 : decode cX9_span 23 = .ok (.getfield 54, 3) := by decide +kernel
theorem dX9_span_26 : decode cX9_span 26 = .ok (.iload_n 1, 1) := by decide +kernel
theorem dX9_span_27 : decode cX9_span 27 = .ok (.aload_n 0, 1) := by decide +kernel
theorem dX9_span_28 : decode cX9_span 28 = .ok (.getfield 27, 3) := by decide +kernel
theorem dX9_span_31 : decode cX9_span 31 = .ok (.getfield 197, 3) := by decide +kernel
theorem dX9_span_34 : decode cX9_span 34 = .ok (.iload_n 2, 1) := by decide +kernel
theorem dX9_span_35 : decode cX9_span 35 = .ok (.iconst 1, 1) := by decide +kernel
theorem dX9_span_36 : decode cX9_span 36 = .ok (.if_icmp .ne 7, 3) := by decide +kernel
theorem dX9_span_39 : decode cX9_span 39 = .ok (.iconst 1, 1) := by decide +kernel
theorem dX9_span_40 : decode cX9_span 40 = .ok (.goto 4, 3) := by decide +kernel
theorem dX9_span_43 : decode cX9_span 43 = .ok (.iconst 0, 1) := by decide +kernel
theorem dX9_span_44 : decode cX9_span 44 = .ok (.invokevirtual 203, 3) := by decide +kernel
theorem dX9_span_47 : decode cX9_span 47 = .ok (.ireturn, 1) := by decide +kernel
theorem dX9_next_0 : decode cX9_next 0 = .ok (.iconst (-1), 1) := by decide +kernel
theorem dX9_next_1 : decode cX9_next 1 = .ok (.istore_n 1, 1) := by decide +kernel
theorem dX9_next_2 : decode cX9_next 2 = .ok (.iconst (-1), 1) := by decide +kernel
theorem dX9_next_3 : decode cX9_next 3 = .ok (.istore_n 2, 1) := by decide +kernel
theorem dX9_next_4 : decode cX9_next 4 = .ok (.iconst 0, 1) := by decide +kernel
theorem dX9_next_5 : decode cX9_next 5 = .ok (.istore_n 3, 1) := by decide +kernel
theorem dX9_next_6 : decode cX9_next 6 = .ok (.iload_n 3, 1) := by decide +kernel
theorem dX9_next_7 : decode cX9_next 7 = .ok (.bipush 8, 2) := by decide +kernel
theorem dX9_next_9 : decode cX9_next 9 = .ok (.if_icmp .ge 69, 3) := by decide +kernel
theorem dX9_next_12 : decode cX9_next 12 = .ok (.aload_n 0, 1) := by decide +kernel
theorem dX9_next_13 : decode cX9_next 13 = .ok (.getfield 54, 3) := by decide +kernel
theorem dX9_next_16 : decode cX9_next 16 = .ok (.iload_n 3, 1) := by decide +kernel
theorem dX9_next_17 : decode cX9_next 17 = .ok (.invokevirtual 194, 3) := by decide +kernel
theorem dX9_next_20 : decode cX9_next 20 = .ok (.ifCond .ne 6, 3) := by decide +kernel
theorem dX9_next_23 : decode cX9_next 23 = .ok (.goto 49, 3) := by decide +kernel
theorem dX9_next_26 : decode cX9_next 26 = .ok (.aload_n 0, 1) := by decide +kernel
theorem dX9_next_27 : decode cX9_next 27 = .ok (.getfield 54, 3) := by decide +kernel
theorem dX9_next_30 : decode cX9_next 30 = .ok (.iload_n 3, 1) := by decide +kernel
theorem dX9_next_31 : decode cX9_next 31 = .ok (.aload_n 0, 1) := by decide +kernel
theorem dX9_next_32 : decode cX9_next 32 = .ok (.getfield 27, 3) := by decide +kernel
theorem dX9_next_35 : decode cX9_next 35 = .ok (.getfield 197, 3) := by decide +kernel
theorem dX9_next_38 : decode cX9_next 38 = .ok (.iconst 1, 1) := by decide +kernel
theorem dX9_next_39 : decode cX9_next 39 = .ok (.invokevirtual 203, 3) := by decide +kernel
theorem dX9_next_42 : decode cX9_next 42 = .ok (.aload_n 0, 1) := by decide +kernel
theorem dX9_next_43 : decode cX9_next 43 = .ok (.getfield 54, 3) := by decide +kernel
theorem dX9_next_46 : decode cX9_next 46 = .ok (.iload_n 3, 1) := by decide +kernel
theorem dX9_next_47 : decode cX9_next 47 = .ok (.aload_n 0, 1) := by decide +kernel
theorem dX9_next_48 : decode cX9_next 48 = .ok (.getfield 27, 3) := by decide +kernel
theorem dX9_next_51 : decode cX9_next 51 = .ok (.getfield 197, 3) := by decide +kernel
theorem dX9_next_54 : decode cX9_next 54 = .ok (.iconst 0, 1) := by decide +kernel
theorem dX9_next_55 : decode cX9_next 55 = .ok (.invokevirtual 203, 3) := by decide +kernel
theorem dX9_next_58 : decode cX9_next 58 = .ok (.isub, 1) := by decide +kernel
theorem dX9_next_59 : decode cX9_next 59 = .ok (.istore 4, 2) := by decide +kernel
theorem dX9_next_61 : decode cX9_next 61 = .ok (.iload 4, 2) := by decide +kernel
theorem dX9_next_63 : decode cX9_next 63 = .ok (.iload_n 1, 1) := by decide +kernel
theorem dX9_next_64 : decode cX9_next 64 = .ok (.if_icmp .le 8, 3) := by decide +kernel
theorem dX9_next_67 : decode cX9_next 67 = .ok (.iload 4, 2) := by decide +kernel
theorem dX9_next_69 : decode cX9_next 69 = .ok (.istore_n 1, 1) := by decide +kernel
theorem dX9_next_70 : decode cX9_next 70 = .ok (.iload_n 3, 1) := by decide +kernel
theorem dX9_next_71 : decode cX9_next 71 = .ok (.istore_n 2, 1) := by decide +kernel
theorem dX9_next_72 : decode cX9_next 72 = .ok (.iinc 3 1, 3) := by decide +kernel
theorem dX9_next_75 : decode cX9_next 75 = .ok (.goto (-69), 3) := by decide +kernel
theorem dX9_next_78 : decode cX9_next 78 = .ok (.iload_n 2, 1) := by decide +kernel
theorem dX9_next_79 : decode cX9_next 79 = .ok (.ireturn, 1) := by decide +kernel
theorem dX9_whole_0 : decode cX9_whole 0 = .ok (.iload_n 1, 1) := by decide +kernel
theorem dX9_whole_1 : decode cX9_whole 1 = .ok (.iconst 0, 1) := by decide +kernel
theorem dX9_whole_2 : decode cX9_whole 2 = .ok (.ldc 207, 2) := by decide +kernel
theorem dX9_whole_4 : decode cX9_whole 4 = .ok (.invokestatic 154, 3) := by decide +kernel
theorem dX9_whole_7 : decode cX9_whole 7 = .ok (.ifCond .ne 10, 3) := by decide +kernel
theorem dX9_whole_10 : decode cX9_whole 10 = .ok (.iload_n 2, 1) := by decide +kernel
theorem dX9_whole_11 : decode cX9_whole 11 = .ok (.invokestatic 208, 3) := by decide +kernel
theorem dX9_whole_14 : decode cX9_whole 14 = .ok (.ifCond .ne 5, 3) := by decide +kernel
theorem dX9_whole_17 : decode cX9_whole 17 = .ok (.iconst (-1), 1) := by decide +kernel
theorem dX9_whole_18 : decode cX9_whole 18 = .ok (.ireturn, 1) := by decide +kernel
theorem dX9_whole_19 : decode cX9_whole 19 = .ok (.iload_n 2, 1) := by decide +kernel
theorem dX9_whole_20 : decode cX9_whole 20 = .ok (.aload_n 0, 1) := by decide +kernel
theorem dX9_whole_21 : decode cX9_whole 21 = .ok (.getfield 47, 3) := by decide +kernel
theorem dX9_whole_24 : decode cX9_whole 24 = .ok (.invokestatic 211, 3) := by decide +kernel
theorem dX9_whole_27 : decode cX9_whole 27 = .ok (.istore 4, 2) := by decide +kernel
theorem dX9_whole_29 : decode cX9_whole 29 = .ok (.iload_n 3, 1) := by decide +kernel
theorem dX9_whole_30 : decode cX9_whole 30 = .ok (.lookupswitch 40 #[(0, 26), (1, 33)], 26) := by decide +kernel
theorem dX9_whole_56 : decode cX9_whole 56 = .ok (.iload_n 1, 1) := by decide +kernel
theorem dX9_whole_57 : decode cX9_whole 57 = .ok (.iload 4, 2) := by decide +kernel
theorem dX9_whole_59 : decode cX9_whole 59 = .ok (.invokestatic 215, 3) := by decide +kernel
theorem dX9_whole_62 : decode cX9_whole 62 = .ok (.ireturn, 1) := by decide +kernel
theorem dX9_whole_63 : decode cX9_whole 63 = .ok (.iload_n 1, 1) := by decide +kernel
theorem dX9_whole_64 : decode cX9_whole 64 = .ok (.iload 4, 2) := by decide +kernel
theorem dX9_whole_66 : decode cX9_whole 66 = .ok (.invokestatic 218, 3) := by decide +kernel
theorem dX9_whole_69 : decode cX9_whole 69 = .ok (.ireturn, 1) := by decide +kernel
theorem dX9_whole_70 : decode cX9_whole 70 = .ok (.iconst (-1), 1) := by decide +kernel
theorem dX9_whole_71 : decode cX9_whole 71 = .ok (.ireturn, 1) := by decide +kernel
theorem dX9_near_0 : decode cX9_near 0 = .ok (.iload_n 1, 1) := by decide +kernel
theorem dX9_near_1 : decode cX9_near 1 = .ok (.invokestatic 208, 3) := by decide +kernel
theorem dX9_near_4 : decode cX9_near 4 = .ok (.ifCond .ne 5, 3) := by decide +kernel
theorem dX9_near_7 : decode cX9_near 7 = .ok (.iconst (-1), 1) := by decide +kernel
theorem dX9_near_8 : decode cX9_near 8 = .ok (.ireturn, 1) := by decide +kernel
theorem dX9_near_9 : decode cX9_near 9 = .ok (.iconst 0, 1) := by decide +kernel
theorem dX9_near_10 : decode cX9_near 10 = .ok (.istore_n 2, 1) := by decide +kernel
theorem dX9_near_11 : decode cX9_near 11 = .ok (.iconst 0, 1) := by decide +kernel
theorem dX9_near_12 : decode cX9_near 12 = .ok (.istore_n 3, 1) := by decide +kernel
theorem dX9_near_13 : decode cX9_near 13 = .ok (.iload_n 3, 1) := by decide +kernel
theorem dX9_near_14 : decode cX9_near 14 = .ok (.bipush 8, 2) := by decide +kernel
theorem dX9_near_16 : decode cX9_near 16 = .ok (.if_icmp .ge 24, 3) := by decide +kernel
theorem dX9_near_19 : decode cX9_near 19 = .ok (.aload_n 0, 1) := by decide +kernel
theorem dX9_near_20 : decode cX9_near 20 = .ok (.iload_n 3, 1) := by decide +kernel
theorem dX9_near_21 : decode cX9_near 21 = .ok (.iload_n 1, 1) := by decide +kernel
theorem dX9_near_22 : decode cX9_near 22 = .ok (.invokevirtual 221, 3) := by decide +kernel
theorem dX9_near_25 : decode cX9_near 25 = .ok (.ifCond .eq 9, 3) := by decide +kernel
theorem dX9_near_28 : decode cX9_near 28 = .ok (.iload_n 2, 1) := by decide +kernel
theorem dX9_near_29 : decode cX9_near 29 = .ok (.iconst 1, 1) := by decide +kernel
theorem dX9_near_30 : decode cX9_near 30 = .ok (.iload_n 3, 1) := by decide +kernel
theorem dX9_near_31 : decode cX9_near 31 = .ok (.ishl, 1) := by decide +kernel
theorem dX9_near_32 : decode cX9_near 32 = .ok (.ior, 1) := by decide +kernel
theorem dX9_near_33 : decode cX9_near 33 = .ok (.istore_n 2, 1) := by decide +kernel
theorem dX9_near_34 : decode cX9_near 34 = .ok (.iinc 3 1, 3) := by decide +kernel
theorem dX9_near_37 : decode cX9_near 37 = .ok (.goto (-24), 3) := by decide +kernel
theorem dX9_near_40 : decode cX9_near 40 = .ok (.iload_n 2, 1) := by decide +kernel
theorem dX9_near_41 : decode cX9_near 41 = .ok (.ireturn, 1) := by decide +kernel
theorem dX9_isNearBy_0 : decode cX9_isNearBy 0 = .ok (.aload_n 0, 1) := by decide +kernel
theorem dX9_isNearBy_1 : decode cX9_isNearBy 1 = .ok (.getfield 54, 3) := by decide +kernel
theorem dX9_isNearBy_4 : decode cX9_isNearBy 4 = .ok (.iload_n 1, 1) := by decide +kernel
theorem dX9_isNearBy_5 : decode cX9_isNearBy 5 = .ok (.invokevirtual 191, 3) := by decide +kernel
theorem dX9_isNearBy_8 : decode cX9_isNearBy 8 = .ok (.istore_n 3, 1) := by decide +kernel
theorem dX9_isNearBy_9 : decode cX9_isNearBy 9 = .ok (.iload_n 3, 1) := by decide +kernel
theorem dX9_isNearBy_10 : decode cX9_isNearBy 10 = .ok (.iconst (-1), 1) := by decide +kernel
theorem dX9_isNearBy_11 : decode cX9_isNearBy 11 = .ok (.if_icmp .eq 35, 3) := by decide +kernel
theorem dX9_isNearBy_14 : decode cX9_isNearBy 14 = .ok (.aload_n 0, 1) := by decide +kernel
theorem dX9_isNearBy_15 : decode cX9_isNearBy 15 = .ok (.aload_n 0, 1) := by decide +kernel
theorem dX9_isNearBy_16 : decode cX9_isNearBy 16 = .ok (.getfield 54, 3) := by decide +kernel
theorem dX9_isNearBy_19 : decode cX9_isNearBy 19 = .ok (.iload_n 1, 1) := by decide +kernel
theorem dX9_isNearBy_20 : decode cX9_isNearBy 20 = .ok (.invokevirtual 224, 3) := by decide +kernel
theorem dX9_isNearBy_23 : decode cX9_isNearBy 23 = .ok (.iload_n 2, 1) := by decide +kernel
theorem dX9_isNearBy_24 : decode cX9_isNearBy 24 = .ok (.aload_n 0, 1) := by decide +kernel
theorem dX9_isNearBy_25 : decode cX9_isNearBy 25 = .ok (.getfield 54, 3) := by decide +kernel
theorem dX9_isNearBy_28 : decode cX9_isNearBy 28 = .ok (.getfield 151, 3) := by decide +kernel
theorem dX9_isNearBy_31 : decode cX9_isNearBy 31 = .ok (.iload_n 1, 1) := by decide +kernel
theorem dX9_isNearBy_32 : decode cX9_isNearBy 32 = .ok (.iaload, 1) := by decide +kernel
theorem dX9_isNearBy_33 : decode cX9_isNearBy 33 = .ok (.iload_n 3, 1) := by decide +kernel
theorem dX9_isNearBy_34 : decode cX9_isNearBy 34 = .ok (.iconst 4, 1) := by decide +kernel
theorem dX9_isNearBy_35 : decode cX9_isNearBy 35 = .ok (.idiv, 1) := by decide +kernel
theorem dX9_isNearBy_36 : decode cX9_isNearBy 36 = .ok (.invokevirtual 227, 3) := by decide +kernel
theorem dX9_isNearBy_39 : decode cX9_isNearBy 39 = .ok (.ifCond .eq 7, 3) := by decide +kernel
theorem dX9_isNearBy_42 : decode cX9_isNearBy 42 = .ok (.iconst 1, 1) := by decide +kernel
theorem dX9_isNearBy_43 : decode cX9_isNearBy 43 = .ok (.goto 4, 3) := by decide +kernel
theorem dX9_isNearBy_46 : decode cX9_isNearBy 46 = .ok (.iconst 0, 1) := by decide +kernel
theorem dX9_isNearBy_47 : decode cX9_isNearBy 47 = .ok (.ireturn, 1) := by decide +kernel
theorem dX9_isNearAs_0 : decode cX9_isNearAs 0 = .ok (.iload_n 2, 1) := by decide +kernel
theorem dX9_isNearAs_1 : decode cX9_isNearAs 1 = .ok (.aload_n 0, 1) := by decide +kernel
theorem dX9_isNearAs_2 : decode cX9_isNearAs 2 = .ok (.getfield 47, 3) := by decide +kernel
theorem dX9_isNearAs_5 : decode cX9_isNearAs 5 = .ok (.invokestatic 211, 3) := by decide +kernel
theorem dX9_isNearAs_8 : decode cX9_isNearAs 8 = .ok (.istore 5, 2) := by decide +kernel
theorem dX9_isNearAs_10 : decode cX9_isNearAs 10 = .ok (.iload_n 1, 1) := by decide +kernel
theorem dX9_isNearAs_11 : decode cX9_isNearAs 11 = .ok (.iload 5, 2) := by decide +kernel
theorem dX9_isNearAs_13 : decode cX9_isNearAs 13 = .ok (.invokestatic 215, 3) := by decide +kernel
theorem dX9_isNearAs_16 : decode cX9_isNearAs 16 = .ok (.istore 6, 2) := by decide +kernel
theorem dX9_isNearAs_18 : decode cX9_isNearAs 18 = .ok (.aload_n 0, 1) := by decide +kernel
theorem dX9_isNearAs_19 : decode cX9_isNearAs 19 = .ok (.getfield 27, 3) := by decide +kernel
theorem dX9_isNearAs_22 : decode cX9_isNearAs 22 = .ok (.getfield 231, 3) := by decide +kernel
theorem dX9_isNearAs_25 : decode cX9_isNearAs 25 = .ok (.ifCond .ne 18, 3) := by decide +kernel
theorem dX9_isNearAs_28 : decode cX9_isNearAs 28 = .ok (.bipush 8, 2) := by decide +kernel
theorem dX9_isNearAs_30 : decode cX9_isNearAs 30 = .ok (.iload 6, 2) := by decide +kernel
theorem dX9_isNearAs_32 : decode cX9_isNearAs 32 = .ok (.imul, 1) := by decide +kernel
theorem dX9_isNearAs_33 : decode cX9_isNearAs 33 = .ok (.iload_n 2, 1) := by decide +kernel
theorem dX9_isNearAs_34 : decode cX9_isNearAs 34 = .ok (.if_icmp .gt 7, 3) := by decide +kernel
theorem dX9_isNearAs_37 : decode cX9_isNearAs 37 = .ok (.iconst 1, 1) := by decide +kernel
theorem dX9_isNearAs_38 : decode cX9_isNearAs 38 = .ok (.goto 4, 3) := by decide +kernel
theorem dX9_isNearAs_41 : decode cX9_isNearAs 41 = .ok (.iconst 0, 1) := by decide +kernel
theorem dX9_isNearAs_42 : decode cX9_isNearAs 42 = .ok (.ireturn, 1) := by decide +kernel
theorem dX9_isNearAs_43 : decode cX9_isNearAs 43 = .ok (.aload_n 0, 1) := by decide +kernel
theorem dX9_isNearAs_44 : decode cX9_isNearAs 44 = .ok (.getfield 27, 3) := by decide +kernel
theorem dX9_isNearAs_47 : decode cX9_isNearAs 47 = .ok (.getfield 234, 3) := by decide +kernel
theorem dX9_isNearAs_50 : decode cX9_isNearAs 50 = .ok (.iload 6, 2) := by decide +kernel
theorem dX9_isNearAs_52 : decode cX9_isNearAs 52 = .ok (.iload_n 2, 1) := by decide +kernel
theorem dX9_isNearAs_53 : decode cX9_isNearAs 53 = .ok (.iload_n 1, 1) := by decide +kernel
theorem dX9_isNearAs_54 : decode cX9_isNearAs 54 = .ok (.iload_n 1, 1) := by decide +kernel
theorem dX9_isNearAs_55 : decode cX9_isNearAs 55 = .ok (.iload 5, 2) := by decide +kernel
theorem dX9_isNearAs_57 : decode cX9_isNearAs 57 = .ok (.invokestatic 218, 3) := by decide +kernel
theorem dX9_isNearAs_60 : decode cX9_isNearAs 60 = .ok (.iload_n 3, 1) := by decide +kernel
theorem dX9_isNearAs_61 : decode cX9_isNearAs 61 = .ok (.iload 4, 2) := by decide +kernel
theorem dX9_isNearAs_63 : decode cX9_isNearAs 63 = .ok (.invokevirtual 238, 3) := by decide +kernel
theorem dX9_isNearAs_66 : decode cX9_isNearAs 66 = .ok (.ireturn, 1) := by decide +kernel
theorem dX9_lumps_0 : decode cX9_lumps 0 = .ok (.iload_n 1, 1) := by decide +kernel
theorem dX9_lumps_1 : decode cX9_lumps 1 = .ok (.invokestatic 208, 3) := by decide +kernel
theorem dX9_lumps_4 : decode cX9_lumps 4 = .ok (.ifCond .ne 5, 3) := by decide +kernel
theorem dX9_lumps_7 : decode cX9_lumps 7 = .ok (.iconst (-1), 1) := by decide +kernel
theorem dX9_lumps_8 : decode cX9_lumps 8 = .ok (.ireturn, 1) := by decide +kernel
theorem dX9_lumps_9 : decode cX9_lumps 9 = .ok (.aload_n 0, 1) := by decide +kernel
theorem dX9_lumps_10 : decode cX9_lumps 10 = .ok (.iconst (-1), 1) := by decide +kernel
theorem dX9_lumps_11 : decode cX9_lumps 11 = .ok (.iconst (-1), 1) := by decide +kernel
theorem dX9_lumps_12 : decode cX9_lumps 12 = .ok (.invokevirtual 244, 3) := by decide +kernel
theorem dX9_lumps_15 : decode cX9_lumps 15 = .ok (.aload_n 0, 1) := by decide +kernel
theorem dX9_lumps_16 : decode cX9_lumps 16 = .ok (.getfield 64, 3) := by decide +kernel
theorem dX9_lumps_19 : decode cX9_lumps 19 = .ok (.iload_n 1, 1) := by decide +kernel
theorem dX9_lumps_20 : decode cX9_lumps 20 = .ok (.aload_n 0, 1) := by decide +kernel
theorem dX9_lumps_21 : decode cX9_lumps 21 = .ok (.getfield 47, 3) := by decide +kernel
theorem dX9_lumps_24 : decode cX9_lumps 24 = .ok (.invokestatic 211, 3) := by decide +kernel
theorem dX9_lumps_27 : decode cX9_lumps 27 = .ok (.invokevirtual 248, 3) := by decide +kernel
theorem dX9_lumps_30 : decode cX9_lumps 30 = .ok (.ireturn, 1) := by decide +kernel
theorem dX9_gather_0 : decode cX9_gather 0 = .ok (.aload_n 0, 1) := by decide +kernel
theorem dX9_gather_1 : decode cX9_gather 1 = .ok (.getfield 64, 3) := by decide +kernel
theorem dX9_gather_4 : decode cX9_gather 4 = .ok (.iconst 0, 1) := by decide +kernel
theorem dX9_gather_5 : decode cX9_gather 5 = .ok (.putfield 251, 3) := by decide +kernel
theorem dX9_gather_8 : decode cX9_gather 8 = .ok (.iconst 0, 1) := by decide +kernel
theorem dX9_gather_9 : decode cX9_gather 9 = .ok (.istore_n 3, 1) := by decide +kernel
theorem dX9_gather_10 : decode cX9_gather 10 = .ok (.iload_n 3, 1) := by decide +kernel
theorem dX9_gather_11 : decode cX9_gather 11 = .ok (.bipush 8, 2) := by decide +kernel
theorem dX9_gather_13 : decode cX9_gather 13 = .ok (.if_icmp .ge 74, 3) := by decide +kernel
theorem dX9_gather_16 : decode cX9_gather 16 = .ok (.aload_n 0, 1) := by decide +kernel
theorem dX9_gather_17 : decode cX9_gather 17 = .ok (.getfield 54, 3) := by decide +kernel
theorem dX9_gather_20 : decode cX9_gather 20 = .ok (.iload_n 3, 1) := by decide +kernel
theorem dX9_gather_21 : decode cX9_gather 21 = .ok (.invokevirtual 191, 3) := by decide +kernel
theorem dX9_gather_24 : decode cX9_gather 24 = .ok (.istore 4, 2) := by decide +kernel
theorem dX9_gather_26 : decode cX9_gather 26 = .ok (.iload 4, 2) := by decide +kernel
theorem dX9_gather_28 : decode cX9_gather 28 = .ok (.iconst (-1), 1) := by decide +kernel
theorem dX9_gather_29 : decode cX9_gather 29 = .ok (.if_icmp .eq 52, 3) := by decide +kernel
theorem dX9_gather_32 : decode cX9_gather 32 = .ok (.iload_n 1, 1) := by decide +kernel
theorem dX9_gather_33 : decode cX9_gather 33 = .ok (.iconst (-1), 1) := by decide +kernel
theorem dX9_gather_34 : decode cX9_gather 34 = .ok (.if_icmp .eq 16, 3) := by decide +kernel
theorem dX9_gather_37 : decode cX9_gather 37 = .ok (.aload_n 0, 1) := by decide +kernel
theorem dX9_gather_38 : decode cX9_gather 38 = .ok (.getfield 27, 3) := by decide +kernel
theorem dX9_gather_41 : decode cX9_gather 41 = .ok (.getfield 145, 3) := by decide +kernel
theorem dX9_gather_44 : decode cX9_gather 44 = .ok (.iload_n 3, 1) := by decide +kernel
theorem dX9_gather_45 : decode cX9_gather 45 = .ok (.iaload, 1) := by decide +kernel
theorem dX9_gather_46 : decode cX9_gather 46 = .ok (.iload_n 1, 1) := by decide +kernel
theorem dX9_gather_47 : decode cX9_gather 47 = .ok (.if_icmp .ne 34, 3) := by decide +kernel
theorem dX9_gather_50 : decode cX9_gather 50 = .ok (.iload_n 2, 1) := by decide +kernel
theorem dX9_gather_51 : decode cX9_gather 51 = .ok (.iconst (-1), 1) := by decide +kernel
theorem dX9_gather_52 : decode cX9_gather 52 = .ok (.if_icmp .eq 14, 3) := by decide +kernel
theorem dX9_gather_55 : decode cX9_gather 55 = .ok (.iload 4, 2) := by decide +kernel
theorem dX9_gather_57 : decode cX9_gather 57 = .ok (.iconst 4, 1) := by decide +kernel
theorem dX9_gather_58 : decode cX9_gather 58 = .ok (.idiv, 1) := by decide +kernel
theorem dX9_gather_59 : decode cX9_gather 59 = .ok (.iload_n 2, 1) := by decide +kernel
theorem dX9_gather_60 : decode cX9_gather 60 = .ok (.if_icmp .eq 6, 3) := by decide +kernel
theorem dX9_gather_63 : decode cX9_gather 63 = .ok (.goto 18, 3) := by decide +kernel
theorem dX9_gather_66 : decode cX9_gather 66 = .ok (.aload_n 0, 1) := by decide +kernel
theorem dX9_gather_67 : decode cX9_gather 67 = .ok (.getfield 64, 3) := by decide +kernel
theorem dX9_gather_70 : decode cX9_gather 70 = .ok (.aload_n 0, 1) := by decide +kernel
theorem dX9_gather_71 : decode cX9_gather 71 = .ok (.getfield 54, 3) := by decide +kernel
theorem dX9_gather_74 : decode cX9_gather 74 = .ok (.iload_n 3, 1) := by decide +kernel
theorem dX9_gather_75 : decode cX9_gather 75 = .ok (.invokevirtual 224, 3) := by decide +kernel
theorem dX9_gather_78 : decode cX9_gather 78 = .ok (.invokevirtual 252, 3) := by decide +kernel
theorem dX9_gather_81 : decode cX9_gather 81 = .ok (.iinc 3 1, 3) := by decide +kernel
theorem dX9_gather_84 : decode cX9_gather 84 = .ok (.goto (-74), 3) := by decide +kernel
theorem dX9_gather_87 : decode cX9_gather 87 = .ok (.return_, 1) := by decide +kernel
theorem dX9_odds_0 : decode cX9_odds 0 = .ok (.iload_n 1, 1) := by decide +kernel
theorem dX9_odds_1 : decode cX9_odds 1 = .ok (.invokestatic 208, 3) := by decide +kernel
theorem dX9_odds_4 : decode cX9_odds 4 = .ok (.ifCond .eq 18, 3) := by decide +kernel
theorem dX9_odds_7 : decode cX9_odds 7 = .ok (.iload_n 2, 1) := by decide +kernel
theorem dX9_odds_8 : decode cX9_odds 8 = .ok (.ifCond .lt 14, 3) := by decide +kernel
theorem dX9_odds_11 : decode cX9_odds 11 = .ok (.iload_n 2, 1) := by decide +kernel
theorem dX9_odds_12 : decode cX9_odds 12 = .ok (.aload_n 0, 1) := by decide +kernel
theorem dX9_odds_13 : decode cX9_odds 13 = .ok (.getfield 54, 3) := by decide +kernel
theorem dX9_odds_16 : decode cX9_odds 16 = .ok (.invokevirtual 254, 3) := by decide +kernel
theorem dX9_odds_19 : decode cX9_odds 19 = .ok (.if_icmp .le 5, 3) := by decide +kernel
theorem dX9_odds_22 : decode cX9_odds 22 = .ok (.iconst (-1), 1) := by decide +kernel
theorem dX9_odds_23 : decode cX9_odds 23 = .ok (.ireturn, 1) := by decide +kernel
theorem dX9_odds_24 : decode cX9_odds 24 = .ok (.aload_n 0, 1) := by decide +kernel
theorem dX9_odds_25 : decode cX9_odds 25 = .ok (.getfield 71, 3) := by decide +kernel
theorem dX9_odds_28 : decode cX9_odds 28 = .ok (.lconst 0, 1) := by decide +kernel
theorem dX9_odds_29 : decode cX9_odds 29 = .ok (.invokestatic 257, 3) := by decide +kernel
theorem dX9_odds_32 : decode cX9_odds 32 = .ok (.aload_n 0, 1) := by decide +kernel
theorem dX9_odds_33 : decode cX9_odds 33 = .ok (.getfield 71, 3) := by decide +kernel
theorem dX9_odds_36 : decode cX9_odds 36 = .ok (.iconst 0, 1) := by decide +kernel
theorem dX9_odds_37 : decode cX9_odds 37 = .ok (.ldc2_w 263, 3) := by decide +kernel
theorem dX9_odds_40 : decode cX9_odds 40 = .ok (.lastore, 1) := by decide +kernel
theorem dX9_odds_41 : decode cX9_odds 41 = .ok (.iconst 0, 1) := by decide +kernel
theorem dX9_odds_42 : decode cX9_odds 42 = .ok (.istore_n 3, 1) := by decide +kernel
theorem dX9_odds_43 : decode cX9_odds 43 = .ok (.iload_n 3, 1) := by decide +kernel
theorem dX9_odds_44 : decode cX9_odds 44 = .ok (.bipush 8, 2) := by decide +kernel
theorem dX9_odds_46 : decode cX9_odds 46 = .ok (.if_icmp .ge 40, 3) := by decide +kernel
theorem dX9_odds_49 : decode cX9_odds 49 = .ok (.aload_n 0, 1) := by decide +kernel
theorem dX9_odds_50 : decode cX9_odds 50 = .ok (.getfield 54, 3) := by decide +kernel
theorem dX9_odds_53 : decode cX9_odds 53 = .ok (.iload_n 3, 1) := by decide +kernel
theorem dX9_odds_54 : decode cX9_odds 54 = .ok (.invokevirtual 194, 3) := by decide +kernel
theorem dX9_odds_57 : decode cX9_odds 57 = .ok (.ifCond .eq 23, 3) := by decide +kernel
theorem dX9_odds_60 : decode cX9_odds 60 = .ok (.aload_n 0, 1) := by decide +kernel
theorem dX9_odds_61 : decode cX9_odds 61 = .ok (.aload_n 0, 1) := by decide +kernel
theorem dX9_odds_62 : decode cX9_odds 62 = .ok (.iload_n 3, 1) := by decide +kernel
theorem dX9_odds_63 : decode cX9_odds 63 = .ok (.iload_n 1, 1) := by decide +kernel
theorem dX9_odds_64 : decode cX9_odds 64 = .ok (.invokevirtual 265, 3) := by decide +kernel
theorem dX9_odds_67 : decode cX9_odds 67 = .ok (.i2l, 1) := by decide +kernel
theorem dX9_odds_68 : decode cX9_odds 68 = .ok (.iload_n 1, 1) := by decide +kernel
theorem dX9_odds_69 : decode cX9_odds 69 = .ok (.aload_n 0, 1) := by decide +kernel
theorem dX9_odds_70 : decode cX9_odds 70 = .ok (.getfield 47, 3) := by decide +kernel
theorem dX9_odds_73 : decode cX9_odds 73 = .ok (.invokestatic 211, 3) := by decide +kernel
theorem dX9_odds_76 : decode cX9_odds 76 = .ok (.i2l, 1) := by decide +kernel
theorem dX9_odds_77 : decode cX9_odds 77 = .ok (.invokevirtual 268, 3) := by decide +kernel
theorem dX9_odds_80 : decode cX9_odds 80 = .ok (.iinc 3 1, 3) := by decide +kernel
theorem dX9_odds_83 : decode cX9_odds 83 = .ok (.goto (-40), 3) := by decide +kernel
theorem dX9_odds_86 : decode cX9_odds 86 = .ok (.lconst 0, 1) := by decide +kernel
theorem dX9_odds_87 : decode cX9_odds 87 = .ok (.lstore_n 3, 1) := by decide +kernel
theorem dX9_odds_88 : decode cX9_odds 88 = .ok (.iload_n 2, 1) := by decide +kernel
theorem dX9_odds_89 : decode cX9_odds 89 = .ok (.istore 5, 2) := by decide +kernel
theorem dX9_odds_91 : decode cX9_odds 91 = .ok (.iload 5, 2) := by decide +kernel
theorem dX9_odds_93 : decode cX9_odds 93 = .ok (.aload_n 0, 1) := by decide +kernel
theorem dX9_odds_94 : decode cX9_odds 94 = .ok (.getfield 71, 3) := by decide +kernel
theorem dX9_odds_97 : decode cX9_odds 97 = .ok (.arraylength, 1) := by decide +kernel
theorem dX9_odds_98 : decode cX9_odds 98 = .ok (.if_icmp .ge 19, 3) := by decide +kernel
theorem dX9_odds_101 : decode cX9_odds 101 = .ok (.lload_n 3, 1) := by decide +kernel
theorem dX9_odds_102 : decode cX9_odds 102 = .ok (.aload_n 0, 1) := by decide +kernel
theorem dX9_odds_103 : decode cX9_odds 103 = .ok (.getfield 71, 3) := by decide +kernel
theorem dX9_odds_106 : decode cX9_odds 106 = .ok (.iload 5, 2) := by decide +kernel
theorem dX9_odds_108 : decode cX9_odds 108 = .ok (.laload, 1) := by decide +kernel
theorem dX9_odds_109 : decode cX9_odds 109 = .ok (.ladd, 1) := by decide +kernel
theorem dX9_odds_110 : decode cX9_odds 110 = .ok (.lstore_n 3, 1) := by decide +kernel
theorem dX9_odds_111 : decode cX9_odds 111 = .ok (.iinc 5 1, 3) := by decide +kernel
theorem dX9_odds_114 : decode cX9_odds 114 = .ok (.goto (-23), 3) := by decide +kernel
theorem dX9_odds_117 : decode cX9_odds 117 = .ok (.lload_n 3, 1) := by decide +kernel
theorem dX9_odds_118 : decode cX9_odds 118 = .ok (.l2i, 1) := by decide +kernel
theorem dX9_odds_119 : decode cX9_odds 119 = .ok (.ireturn, 1) := by decide +kernel
theorem dX9_nearOnes_0 : decode cX9_nearOnes 0 = .ok (.aload_n 0, 1) := by decide +kernel
theorem dX9_nearOnes_1 : decode cX9_nearOnes 1 = .ok (.getfield 54, 3) := by decide +kernel
theorem dX9_nearOnes_4 : decode cX9_nearOnes 4 = .ok (.iload_n 1, 1) := by decide +kernel
theorem dX9_nearOnes_5 : decode cX9_nearOnes 5 = .ok (.invokevirtual 191, 3) := by decide +kernel
theorem dX9_nearOnes_8 : decode cX9_nearOnes 8 = .ok (.istore_n 3, 1) := by decide +kernel
theorem dX9_nearOnes_9 : decode cX9_nearOnes 9 = .ok (.iload_n 2, 1) := by decide +kernel
theorem dX9_nearOnes_10 : decode cX9_nearOnes 10 = .ok (.aload_n 0, 1) := by decide +kernel
theorem dX9_nearOnes_11 : decode cX9_nearOnes 11 = .ok (.getfield 47, 3) := by decide +kernel
theorem dX9_nearOnes_14 : decode cX9_nearOnes 14 = .ok (.invokestatic 211, 3) := by decide +kernel
theorem dX9_nearOnes_17 : decode cX9_nearOnes 17 = .ok (.istore 4, 2) := by decide +kernel
theorem dX9_nearOnes_19 : decode cX9_nearOnes 19 = .ok (.iload_n 3, 1) := by decide +kernel
theorem dX9_nearOnes_20 : decode cX9_nearOnes 20 = .ok (.iconst (-1), 1) := by decide +kernel
theorem dX9_nearOnes_21 : decode cX9_nearOnes 21 = .ok (.if_icmp .eq 8, 3) := by decide +kernel
theorem dX9_nearOnes_24 : decode cX9_nearOnes 24 = .ok (.iload 4, 2) := by decide +kernel
theorem dX9_nearOnes_26 : decode cX9_nearOnes 26 = .ok (.ifCond .gt 5, 3) := by decide +kernel
theorem dX9_nearOnes_29 : decode cX9_nearOnes 29 = .ok (.iconst 0, 1) := by decide +kernel
theorem dX9_nearOnes_30 : decode cX9_nearOnes 30 = .ok (.ireturn, 1) := by decide +kernel
theorem dX9_nearOnes_31 : decode cX9_nearOnes 31 = .ok (.aload_n 0, 1) := by decide +kernel
theorem dX9_nearOnes_32 : decode cX9_nearOnes 32 = .ok (.getfield 54, 3) := by decide +kernel
theorem dX9_nearOnes_35 : decode cX9_nearOnes 35 = .ok (.iload_n 1, 1) := by decide +kernel
theorem dX9_nearOnes_36 : decode cX9_nearOnes 36 = .ok (.invokevirtual 224, 3) := by decide +kernel
theorem dX9_nearOnes_39 : decode cX9_nearOnes 39 = .ok (.istore 5, 2) := by decide +kernel
theorem dX9_nearOnes_41 : decode cX9_nearOnes 41 = .ok (.iload 5, 2) := by decide +kernel
theorem dX9_nearOnes_43 : decode cX9_nearOnes 43 = .ok (.iload 5, 2) := by decide +kernel
theorem dX9_nearOnes_45 : decode cX9_nearOnes 45 = .ok (.iload 4, 2) := by decide +kernel
theorem dX9_nearOnes_47 : decode cX9_nearOnes 47 = .ok (.irem, 1) := by decide +kernel
theorem dX9_nearOnes_48 : decode cX9_nearOnes 48 = .ok (.isub, 1) := by decide +kernel
theorem dX9_nearOnes_49 : decode cX9_nearOnes 49 = .ok (.istore 6, 2) := by decide +kernel
theorem dX9_nearOnes_51 : decode cX9_nearOnes 51 = .ok (.iconst 0, 1) := by decide +kernel
theorem dX9_nearOnes_52 : decode cX9_nearOnes 52 = .ok (.istore 7, 2) := by decide +kernel
theorem dX9_nearOnes_54 : decode cX9_nearOnes 54 = .ok (.iconst 0, 1) := by decide +kernel
theorem dX9_nearOnes_55 : decode cX9_nearOnes 55 = .ok (.istore 8, 2) := by decide +kernel
theorem dX9_nearOnes_57 : decode cX9_nearOnes 57 = .ok (.iload 8, 2) := by decide +kernel
theorem dX9_nearOnes_59 : decode cX9_nearOnes 59 = .ok (.iload 4, 2) := by decide +kernel
theorem dX9_nearOnes_61 : decode cX9_nearOnes 61 = .ok (.if_icmp .ge 37, 3) := by decide +kernel
theorem dX9_nearOnes_64 : decode cX9_nearOnes 64 = .ok (.aload_n 0, 1) := by decide +kernel
theorem dX9_nearOnes_65 : decode cX9_nearOnes 65 = .ok (.iload 6, 2) := by decide +kernel
theorem dX9_nearOnes_67 : decode cX9_nearOnes 67 = .ok (.iload 8, 2) := by decide +kernel
theorem dX9_nearOnes_69 : decode cX9_nearOnes 69 = .ok (.iadd, 1) := by decide +kernel
theorem dX9_nearOnes_70 : decode cX9_nearOnes 70 = .ok (.iload_n 2, 1) := by decide +kernel
theorem dX9_nearOnes_71 : decode cX9_nearOnes 71 = .ok (.aload_n 0, 1) := by decide +kernel
theorem dX9_nearOnes_72 : decode cX9_nearOnes 72 = .ok (.getfield 54, 3) := by decide +kernel
theorem dX9_nearOnes_75 : decode cX9_nearOnes 75 = .ok (.getfield 151, 3) := by decide +kernel
theorem dX9_nearOnes_78 : decode cX9_nearOnes 78 = .ok (.iload_n 1, 1) := by decide +kernel
theorem dX9_nearOnes_79 : decode cX9_nearOnes 79 = .ok (.iaload, 1) := by decide +kernel
theorem dX9_nearOnes_80 : decode cX9_nearOnes 80 = .ok (.iload_n 3, 1) := by decide +kernel
theorem dX9_nearOnes_81 : decode cX9_nearOnes 81 = .ok (.iconst 4, 1) := by decide +kernel
theorem dX9_nearOnes_82 : decode cX9_nearOnes 82 = .ok (.idiv, 1) := by decide +kernel
theorem dX9_nearOnes_83 : decode cX9_nearOnes 83 = .ok (.invokevirtual 227, 3) := by decide +kernel
theorem dX9_nearOnes_86 : decode cX9_nearOnes 86 = .ok (.ifCond .eq 6, 3) := by decide +kernel
theorem dX9_nearOnes_89 : decode cX9_nearOnes 89 = .ok (.iinc 7 1, 3) := by decide +kernel
theorem dX9_nearOnes_92 : decode cX9_nearOnes 92 = .ok (.iinc 8 1, 3) := by decide +kernel
theorem dX9_nearOnes_95 : decode cX9_nearOnes 95 = .ok (.goto (-38), 3) := by decide +kernel
theorem dX9_nearOnes_98 : decode cX9_nearOnes 98 = .ok (.iload 7, 2) := by decide +kernel
theorem dX9_nearOnes_100 : decode cX9_nearOnes 100 = .ok (.ireturn, 1) := by decide +kernel
theorem dX9_spreadRow_0 : decode cX9_spreadRow 0 = .ok (.lload_n 3, 1) := by decide +kernel
theorem dX9_spreadRow_1 : decode cX9_spreadRow 1 = .ok (.lconst 0, 1) := by decide +kernel
theorem dX9_spreadRow_2 : decode cX9_spreadRow 2 = .ok (.lcmp, 1) := by decide +kernel
theorem dX9_spreadRow_3 : decode cX9_spreadRow 3 = .ok (.ifCond .gt 4, 3) := by decide +kernel
theorem dX9_spreadRow_6 : decode cX9_spreadRow 6 = .ok (.return_, 1) := by decide +kernel
theorem dX9_spreadRow_7 : decode cX9_spreadRow 7 = .ok (.aload_n 0, 1) := by decide +kernel
theorem dX9_spreadRow_8 : decode cX9_spreadRow 8 = .ok (.getfield 71, 3) := by decide +kernel
theorem dX9_spreadRow_11 : decode cX9_spreadRow 11 = .ok (.arraylength, 1) := by decide +kernel
theorem dX9_spreadRow_12 : decode cX9_spreadRow 12 = .ok (.iconst 1, 1) := by decide +kernel
theorem dX9_spreadRow_13 : decode cX9_spreadRow 13 = .ok (.isub, 1) := by decide +kernel
theorem dX9_spreadRow_14 : decode cX9_spreadRow 14 = .ok (.istore 5, 2) := by decide +kernel
theorem dX9_spreadRow_16 : decode cX9_spreadRow 16 = .ok (.iload 5, 2) := by decide +kernel
theorem dX9_spreadRow_18 : decode cX9_spreadRow 18 = .ok (.ifCond .lt 56, 3) := by decide +kernel
theorem dX9_spreadRow_21 : decode cX9_spreadRow 21 = .ok (.iload 5, 2) := by decide +kernel
theorem dX9_spreadRow_23 : decode cX9_spreadRow 23 = .ok (.ifCond .le 19, 3) := by decide +kernel
theorem dX9_spreadRow_26 : decode cX9_spreadRow 26 = .ok (.aload_n 0, 1) := by decide +kernel
theorem dX9_spreadRow_27 : decode cX9_spreadRow 27 = .ok (.getfield 71, 3) := by decide +kernel
theorem dX9_spreadRow_30 : decode cX9_spreadRow 30 = .ok (.iload 5, 2) := by decide +kernel
theorem dX9_spreadRow_32 : decode cX9_spreadRow 32 = .ok (.iconst 1, 1) := by decide +kernel
theorem dX9_spreadRow_33 : decode cX9_spreadRow 33 = .ok (.isub, 1) := by decide +kernel
theorem dX9_spreadRow_34 : decode cX9_spreadRow 34 = .ok (.laload, 1) := by decide +kernel
theorem dX9_spreadRow_35 : decode cX9_spreadRow 35 = .ok (.lload_n 1, 1) := by decide +kernel
theorem dX9_spreadRow_36 : decode cX9_spreadRow 36 = .ok (.lmul, 1) := by decide +kernel
theorem dX9_spreadRow_37 : decode cX9_spreadRow 37 = .ok (.lload_n 3, 1) := by decide +kernel
theorem dX9_spreadRow_38 : decode cX9_spreadRow 38 = .ok (.ldiv, 1) := by decide +kernel
theorem dX9_spreadRow_39 : decode cX9_spreadRow 39 = .ok (.goto 4, 3) := by decide +kernel
theorem dX9_spreadRow_42 : decode cX9_spreadRow 42 = .ok (.lconst 0, 1) := by decide +kernel
theorem dX9_spreadRow_43 : decode cX9_spreadRow 43 = .ok (.lstore 6, 2) := by decide +kernel
theorem dX9_spreadRow_45 : decode cX9_spreadRow 45 = .ok (.aload_n 0, 1) := by decide +kernel
theorem dX9_spreadRow_46 : decode cX9_spreadRow 46 = .ok (.getfield 71, 3) := by decide +kernel
theorem dX9_spreadRow_49 : decode cX9_spreadRow 49 = .ok (.iload 5, 2) := by decide +kernel
theorem dX9_spreadRow_51 : decode cX9_spreadRow 51 = .ok (.aload_n 0, 1) := by decide +kernel
theorem dX9_spreadRow_52 : decode cX9_spreadRow 52 = .ok (.getfield 71, 3) := by decide +kernel
theorem dX9_spreadRow_55 : decode cX9_spreadRow 55 = .ok (.iload 5, 2) := by decide +kernel
theorem dX9_spreadRow_57 : decode cX9_spreadRow 57 = .ok (.laload, 1) := by decide +kernel
theorem dX9_spreadRow_58 : decode cX9_spreadRow 58 = .ok (.lload_n 3, 1) := by decide +kernel
theorem dX9_spreadRow_59 : decode cX9_spreadRow 59 = .ok (.lload_n 1, 1) := by decide +kernel
theorem dX9_spreadRow_60 : decode cX9_spreadRow 60 = .ok (.lsub, 1) := by decide +kernel
theorem dX9_spreadRow_61 : decode cX9_spreadRow 61 = .ok (.lmul, 1) := by decide +kernel
theorem dX9_spreadRow_62 : decode cX9_spreadRow 62 = .ok (.lload_n 3, 1) := by decide +kernel
theorem dX9_spreadRow_63 : decode cX9_spreadRow 63 = .ok (.ldiv, 1) := by decide +kernel
theorem dX9_spreadRow_64 : decode cX9_spreadRow 64 = .ok (.lload 6, 2) := by decide +kernel
theorem dX9_spreadRow_66 : decode cX9_spreadRow 66 = .ok (.ladd, 1) := by decide +kernel
theorem dX9_spreadRow_67 : decode cX9_spreadRow 67 = .ok (.lastore, 1) := by decide +kernel
theorem dX9_spreadRow_68 : decode cX9_spreadRow 68 = .ok (.iinc 5 (-1), 3) := by decide +kernel
theorem dX9_spreadRow_71 : decode cX9_spreadRow 71 = .ok (.goto (-55), 3) := by decide +kernel
theorem dX9_spreadRow_74 : decode cX9_spreadRow 74 = .ok (.return_, 1) := by decide +kernel
theorem dX9_chosen_0 : decode cX9_chosen 0 = .ok (.iload_n 1, 1) := by decide +kernel
theorem dX9_chosen_1 : decode cX9_chosen 1 = .ok (.invokestatic 208, 3) := by decide +kernel
theorem dX9_chosen_4 : decode cX9_chosen 4 = .ok (.ifCond .eq 12, 3) := by decide +kernel
theorem dX9_chosen_7 : decode cX9_chosen 7 = .ok (.iload_n 2, 1) := by decide +kernel
theorem dX9_chosen_8 : decode cX9_chosen 8 = .ok (.iconst 0, 1) := by decide +kernel
theorem dX9_chosen_9 : decode cX9_chosen 9 = .ok (.iconst 1, 1) := by decide +kernel
theorem dX9_chosen_10 : decode cX9_chosen 10 = .ok (.invokestatic 154, 3) := by decide +kernel
theorem dX9_chosen_13 : decode cX9_chosen 13 = .ok (.ifCond .eq 5, 3) := by decide +kernel
theorem dX9_chosen_16 : decode cX9_chosen 16 = .ok (.iconst (-1), 1) := by decide +kernel
theorem dX9_chosen_17 : decode cX9_chosen 17 = .ok (.ireturn, 1) := by decide +kernel
theorem dX9_chosen_18 : decode cX9_chosen 18 = .ok (.iload_n 1, 1) := by decide +kernel
theorem dX9_chosen_19 : decode cX9_chosen 19 = .ok (.aload_n 0, 1) := by decide +kernel
theorem dX9_chosen_20 : decode cX9_chosen 20 = .ok (.getfield 47, 3) := by decide +kernel
theorem dX9_chosen_23 : decode cX9_chosen 23 = .ok (.invokestatic 211, 3) := by decide +kernel
theorem dX9_chosen_26 : decode cX9_chosen 26 = .ok (.istore_n 3, 1) := by decide +kernel
theorem dX9_chosen_27 : decode cX9_chosen 27 = .ok (.iconst 0, 1) := by decide +kernel
theorem dX9_chosen_28 : decode cX9_chosen 28 = .ok (.istore 4, 2) := by decide +kernel
theorem dX9_chosen_30 : decode cX9_chosen 30 = .ok (.aload_n 0, 1) := by decide +kernel
theorem dX9_chosen_31 : decode cX9_chosen 31 = .ok (.getfield 64, 3) := by decide +kernel
theorem dX9_chosen_34 : decode cX9_chosen 34 = .ok (.iconst 0, 1) := by decide +kernel
theorem dX9_chosen_35 : decode cX9_chosen 35 = .ok (.putfield 251, 3) := by decide +kernel
theorem dX9_chosen_38 : decode cX9_chosen 38 = .ok (.iconst 0, 1) := by decide +kernel
theorem dX9_chosen_39 : decode cX9_chosen 39 = .ok (.istore 5, 2) := by decide +kernel
theorem dX9_chosen_41 : decode cX9_chosen 41 = .ok (.iload 5, 2) := by decide +kernel
theorem dX9_chosen_43 : decode cX9_chosen 43 = .ok (.bipush 8, 2) := by decide +kernel
theorem dX9_chosen_45 : decode cX9_chosen 45 = .ok (.if_icmp .ge 84, 3) := by decide +kernel
theorem dX9_chosen_48 : decode cX9_chosen 48 = .ok (.aload_n 0, 1) := by decide +kernel
theorem dX9_chosen_49 : decode cX9_chosen 49 = .ok (.getfield 54, 3) := by decide +kernel
theorem dX9_chosen_52 : decode cX9_chosen 52 = .ok (.iload 5, 2) := by decide +kernel
theorem dX9_chosen_54 : decode cX9_chosen 54 = .ok (.aload_n 0, 1) := by decide +kernel
theorem dX9_chosen_55 : decode cX9_chosen 55 = .ok (.getfield 27, 3) := by decide +kernel
theorem dX9_chosen_58 : decode cX9_chosen 58 = .ok (.getfield 197, 3) := by decide +kernel
theorem dX9_chosen_61 : decode cX9_chosen 61 = .ok (.iload_n 3, 1) := by decide +kernel
theorem dX9_chosen_62 : decode cX9_chosen 62 = .ok (.invokevirtual 272, 3) := by decide +kernel
theorem dX9_chosen_65 : decode cX9_chosen 65 = .ok (.istore 6, 2) := by decide +kernel
theorem dX9_chosen_67 : decode cX9_chosen 67 = .ok (.aload_n 0, 1) := by decide +kernel
theorem dX9_chosen_68 : decode cX9_chosen 68 = .ok (.getfield 54, 3) := by decide +kernel
theorem dX9_chosen_71 : decode cX9_chosen 71 = .ok (.iload 5, 2) := by decide +kernel
theorem dX9_chosen_73 : decode cX9_chosen 73 = .ok (.iload 6, 2) := by decide +kernel
theorem dX9_chosen_75 : decode cX9_chosen 75 = .ok (.invokevirtual 176, 3) := by decide +kernel
theorem dX9_chosen_78 : decode cX9_chosen 78 = .ok (.istore 7, 2) := by decide +kernel
theorem dX9_chosen_80 : decode cX9_chosen 80 = .ok (.iload 7, 2) := by decide +kernel
theorem dX9_chosen_82 : decode cX9_chosen 82 = .ok (.iconst (-1), 1) := by decide +kernel
theorem dX9_chosen_83 : decode cX9_chosen 83 = .ok (.if_icmp .ne 6, 3) := by decide +kernel
theorem dX9_chosen_86 : decode cX9_chosen 86 = .ok (.goto 37, 3) := by decide +kernel
theorem dX9_chosen_89 : decode cX9_chosen 89 = .ok (.aload_n 0, 1) := by decide +kernel
theorem dX9_chosen_90 : decode cX9_chosen 90 = .ok (.getfield 64, 3) := by decide +kernel
theorem dX9_chosen_93 : decode cX9_chosen 93 = .ok (.aload_n 0, 1) := by decide +kernel
theorem dX9_chosen_94 : decode cX9_chosen 94 = .ok (.getfield 54, 3) := by decide +kernel
theorem dX9_chosen_97 : decode cX9_chosen 97 = .ok (.getfield 179, 3) := by decide +kernel
theorem dX9_chosen_100 : decode cX9_chosen 100 = .ok (.iload 7, 2) := by decide +kernel
theorem dX9_chosen_102 : decode cX9_chosen 102 = .ok (.iaload, 1) := by decide +kernel
theorem dX9_chosen_103 : decode cX9_chosen 103 = .ok (.invokevirtual 252, 3) := by decide +kernel
theorem dX9_chosen_106 : decode cX9_chosen 106 = .ok (.iload 6, 2) := by decide +kernel
theorem dX9_chosen_108 : decode cX9_chosen 108 = .ok (.aload_n 0, 1) := by decide +kernel
theorem dX9_chosen_109 : decode cX9_chosen 109 = .ok (.getfield 54, 3) := by decide +kernel
theorem dX9_chosen_112 : decode cX9_chosen 112 = .ok (.iload 5, 2) := by decide +kernel
theorem dX9_chosen_114 : decode cX9_chosen 114 = .ok (.invokevirtual 191, 3) := by decide +kernel
theorem dX9_chosen_117 : decode cX9_chosen 117 = .ok (.if_icmp .eq 6, 3) := by decide +kernel
theorem dX9_chosen_120 : decode cX9_chosen 120 = .ok (.iinc 4 1, 3) := by decide +kernel
theorem dX9_chosen_123 : decode cX9_chosen 123 = .ok (.iinc 5 1, 3) := by decide +kernel
theorem dX9_chosen_126 : decode cX9_chosen 126 = .ok (.goto (-85), 3) := by decide +kernel
theorem dX9_chosen_129 : decode cX9_chosen 129 = .ok (.iload_n 2, 1) := by decide +kernel
theorem dX9_chosen_130 : decode cX9_chosen 130 = .ok (.ifCond .ne 14, 3) := by decide +kernel
theorem dX9_chosen_133 : decode cX9_chosen 133 = .ok (.aload_n 0, 1) := by decide +kernel
theorem dX9_chosen_134 : decode cX9_chosen 134 = .ok (.getfield 64, 3) := by decide +kernel
theorem dX9_chosen_137 : decode cX9_chosen 137 = .ok (.iload_n 3, 1) := by decide +kernel
theorem dX9_chosen_138 : decode cX9_chosen 138 = .ok (.invokevirtual 248, 3) := by decide +kernel
theorem dX9_chosen_141 : decode cX9_chosen 141 = .ok (.goto 5, 3) := by decide +kernel
theorem dX9_chosen_144 : decode cX9_chosen 144 = .ok (.iload 4, 2) := by decide +kernel
theorem dX9_chosen_146 : decode cX9_chosen 146 = .ok (.ireturn, 1) := by decide +kernel
theorem dX9_sort_0 : decode cX9_sort 0 = .ok (.iload_n 1, 1) := by decide +kernel
theorem dX9_sort_1 : decode cX9_sort 1 = .ok (.iconst 0, 1) := by decide +kernel
theorem dX9_sort_2 : decode cX9_sort 2 = .ok (.iconst 2, 1) := by decide +kernel
theorem dX9_sort_3 : decode cX9_sort 3 = .ok (.invokestatic 154, 3) := by decide +kernel
theorem dX9_sort_6 : decode cX9_sort 6 = .ok (.ifCond .ne 19, 3) := by decide +kernel
theorem dX9_sort_9 : decode cX9_sort 9 = .ok (.iload_n 2, 1) := by decide +kernel
theorem dX9_sort_10 : decode cX9_sort 10 = .ok (.invokestatic 208, 3) := by decide +kernel
theorem dX9_sort_13 : decode cX9_sort 13 = .ok (.ifCond .eq 12, 3) := by decide +kernel
theorem dX9_sort_16 : decode cX9_sort 16 = .ok (.iload_n 3, 1) := by decide +kernel
theorem dX9_sort_17 : decode cX9_sort 17 = .ok (.iconst 0, 1) := by decide +kernel
theorem dX9_sort_18 : decode cX9_sort 18 = .ok (.iconst 1, 1) := by decide +kernel
theorem dX9_sort_19 : decode cX9_sort 19 = .ok (.invokestatic 154, 3) := by decide +kernel
theorem dX9_sort_22 : decode cX9_sort 22 = .ok (.ifCond .eq 5, 3) := by decide +kernel
theorem dX9_sort_25 : decode cX9_sort 25 = .ok (.iconst (-1), 1) := by decide +kernel
theorem dX9_sort_26 : decode cX9_sort 26 = .ok (.ireturn, 1) := by decide +kernel
theorem dX9_sort_27 : decode cX9_sort 27 = .ok (.aload_n 0, 1) := by decide +kernel
theorem dX9_sort_28 : decode cX9_sort 28 = .ok (.iconst (-1), 1) := by decide +kernel
theorem dX9_sort_29 : decode cX9_sort 29 = .ok (.iload_n 1, 1) := by decide +kernel
theorem dX9_sort_30 : decode cX9_sort 30 = .ok (.invokevirtual 244, 3) := by decide +kernel
theorem dX9_sort_33 : decode cX9_sort 33 = .ok (.iload_n 3, 1) := by decide +kernel
theorem dX9_sort_34 : decode cX9_sort 34 = .ok (.ifCond .ne 21, 3) := by decide +kernel
theorem dX9_sort_37 : decode cX9_sort 37 = .ok (.aload_n 0, 1) := by decide +kernel
theorem dX9_sort_38 : decode cX9_sort 38 = .ok (.getfield 64, 3) := by decide +kernel
theorem dX9_sort_41 : decode cX9_sort 41 = .ok (.iload_n 2, 1) := by decide +kernel
theorem dX9_sort_42 : decode cX9_sort 42 = .ok (.aload_n 0, 1) := by decide +kernel
theorem dX9_sort_43 : decode cX9_sort 43 = .ok (.getfield 47, 3) := by decide +kernel
theorem dX9_sort_46 : decode cX9_sort 46 = .ok (.invokestatic 211, 3) := by decide +kernel
theorem dX9_sort_49 : decode cX9_sort 49 = .ok (.invokevirtual 248, 3) := by decide +kernel
theorem dX9_sort_52 : decode cX9_sort 52 = .ok (.goto 10, 3) := by decide +kernel
theorem dX9_sort_55 : decode cX9_sort 55 = .ok (.aload_n 0, 1) := by decide +kernel
theorem dX9_sort_56 : decode cX9_sort 56 = .ok (.getfield 64, 3) := by decide +kernel
theorem dX9_sort_59 : decode cX9_sort 59 = .ok (.getfield 251, 3) := by decide +kernel
theorem dX9_sort_62 : decode cX9_sort 62 = .ok (.ireturn, 1) := by decide +kernel
theorem dX9_hump_0 : decode cX9_hump 0 = .ok (.iload_n 1, 1) := by decide +kernel
theorem dX9_hump_1 : decode cX9_hump 1 = .ok (.invokestatic 208, 3) := by decide +kernel
theorem dX9_hump_4 : decode cX9_hump 4 = .ok (.ifCond .eq 12, 3) := by decide +kernel
theorem dX9_hump_7 : decode cX9_hump 7 = .ok (.iload_n 2, 1) := by decide +kernel
theorem dX9_hump_8 : decode cX9_hump 8 = .ok (.iconst 0, 1) := by decide +kernel
theorem dX9_hump_9 : decode cX9_hump 9 = .ok (.iconst 5, 1) := by decide +kernel
theorem dX9_hump_10 : decode cX9_hump 10 = .ok (.invokestatic 154, 3) := by decide +kernel
theorem dX9_hump_13 : decode cX9_hump 13 = .ok (.ifCond .eq 5, 3) := by decide +kernel
theorem dX9_hump_16 : decode cX9_hump 16 = .ok (.iconst (-1), 1) := by decide +kernel
theorem dX9_hump_17 : decode cX9_hump 17 = .ok (.ireturn, 1) := by decide +kernel
theorem dX9_hump_18 : decode cX9_hump 18 = .ok (.aload_n 0, 1) := by decide +kernel
theorem dX9_hump_19 : decode cX9_hump 19 = .ok (.iconst (-1), 1) := by decide +kernel
theorem dX9_hump_20 : decode cX9_hump 20 = .ok (.iconst (-1), 1) := by decide +kernel
theorem dX9_hump_21 : decode cX9_hump 21 = .ok (.invokevirtual 244, 3) := by decide +kernel
theorem dX9_hump_24 : decode cX9_hump 24 = .ok (.iconst 0, 1) := by decide +kernel
theorem dX9_hump_25 : decode cX9_hump 25 = .ok (.istore_n 3, 1) := by decide +kernel
theorem dX9_hump_26 : decode cX9_hump 26 = .ok (.iconst 0, 1) := by decide +kernel
theorem dX9_hump_27 : decode cX9_hump 27 = .ok (.istore 4, 2) := by decide +kernel
theorem dX9_hump_29 : decode cX9_hump 29 = .ok (.iload 4, 2) := by decide +kernel
theorem dX9_hump_31 : decode cX9_hump 31 = .ok (.aload_n 0, 1) := by decide +kernel
theorem dX9_hump_32 : decode cX9_hump 32 = .ok (.getfield 64, 3) := by decide +kernel
theorem dX9_hump_35 : decode cX9_hump 35 = .ok (.getfield 251, 3) := by decide +kernel
theorem dX9_hump_38 : decode cX9_hump 38 = .ok (.if_icmp .ge 33, 3) := by decide +kernel
theorem dX9_hump_41 : decode cX9_hump 41 = .ok (.aload_n 0, 1) := by decide +kernel
theorem dX9_hump_42 : decode cX9_hump 42 = .ok (.getfield 64, 3) := by decide +kernel
theorem dX9_hump_45 : decode cX9_hump 45 = .ok (.iload 4, 2) := by decide +kernel
theorem dX9_hump_47 : decode cX9_hump 47 = .ok (.iload_n 1, 1) := by decide +kernel
theorem dX9_hump_48 : decode cX9_hump 48 = .ok (.aload_n 0, 1) := by decide +kernel
theorem dX9_hump_49 : decode cX9_hump 49 = .ok (.getfield 47, 3) := by decide +kernel
theorem dX9_hump_52 : decode cX9_hump 52 = .ok (.invokestatic 211, 3) := by decide +kernel
theorem dX9_hump_55 : decode cX9_hump 55 = .ok (.invokevirtual 276, 3) := by decide +kernel
theorem dX9_hump_58 : decode cX9_hump 58 = .ok (.iload_n 2, 1) := by decide +kernel
theorem dX9_hump_59 : decode cX9_hump 59 = .ok (.if_icmp .ne 6, 3) := by decide +kernel
theorem dX9_hump_62 : decode cX9_hump 62 = .ok (.iinc 3 1, 3) := by decide +kernel
theorem dX9_hump_65 : decode cX9_hump 65 = .ok (.iinc 4 1, 3) := by decide +kernel
theorem dX9_hump_68 : decode cX9_hump 68 = .ok (.goto (-39), 3) := by decide +kernel
theorem dX9_hump_71 : decode cX9_hump 71 = .ok (.iload_n 3, 1) := by decide +kernel
theorem dX9_hump_72 : decode cX9_hump 72 = .ok (.ireturn, 1) := by decide +kernel
theorem dX9_wander_0 : decode cX9_wander 0 = .ok (.iload_n 1, 1) := by decide +kernel
theorem dX9_wander_1 : decode cX9_wander 1 = .ok (.invokestatic 208, 3) := by decide +kernel
theorem dX9_wander_4 : decode cX9_wander 4 = .ok (.ifCond .eq 23, 3) := by decide +kernel
theorem dX9_wander_7 : decode cX9_wander 7 = .ok (.iload_n 2, 1) := by decide +kernel
theorem dX9_wander_8 : decode cX9_wander 8 = .ok (.iconst (-1), 1) := by decide +kernel
theorem dX9_wander_9 : decode cX9_wander 9 = .ok (.aload_n 0, 1) := by decide +kernel
theorem dX9_wander_10 : decode cX9_wander 10 = .ok (.getfield 27, 3) := by decide +kernel
theorem dX9_wander_13 : decode cX9_wander 13 = .ok (.getfield 98, 3) := by decide +kernel
theorem dX9_wander_16 : decode cX9_wander 16 = .ok (.getfield 279, 3) := by decide +kernel
theorem dX9_wander_19 : decode cX9_wander 19 = .ok (.iconst 1, 1) := by decide +kernel
theorem dX9_wander_20 : decode cX9_wander 20 = .ok (.isub, 1) := by decide +kernel
theorem dX9_wander_21 : decode cX9_wander 21 = .ok (.invokestatic 154, 3) := by decide +kernel
theorem dX9_wander_24 : decode cX9_wander 24 = .ok (.ifCond .eq 6, 3) := by decide +kernel
theorem dX9_wander_27 : decode cX9_wander 27 = .ok (.bipush (-2), 2) := by decide +kernel
theorem dX9_wander_29 : decode cX9_wander 29 = .ok (.ireturn, 1) := by decide +kernel
theorem dX9_wander_30 : decode cX9_wander 30 = .ok (.aload_n 0, 1) := by decide +kernel
theorem dX9_wander_31 : decode cX9_wander 31 = .ok (.iload_n 2, 1) := by decide +kernel
theorem dX9_wander_32 : decode cX9_wander 32 = .ok (.iconst (-1), 1) := by decide +kernel
theorem dX9_wander_33 : decode cX9_wander 33 = .ok (.invokevirtual 244, 3) := by decide +kernel
theorem dX9_wander_36 : decode cX9_wander 36 = .ok (.iload_n 1, 1) := by decide +kernel
theorem dX9_wander_37 : decode cX9_wander 37 = .ok (.aload_n 0, 1) := by decide +kernel
theorem dX9_wander_38 : decode cX9_wander 38 = .ok (.getfield 47, 3) := by decide +kernel
theorem dX9_wander_41 : decode cX9_wander 41 = .ok (.invokestatic 211, 3) := by decide +kernel
theorem dX9_wander_44 : decode cX9_wander 44 = .ok (.istore_n 3, 1) := by decide +kernel
theorem dX9_wander_45 : decode cX9_wander 45 = .ok (.iconst 0, 1) := by decide +kernel
theorem dX9_wander_46 : decode cX9_wander 46 = .ok (.istore 4, 2) := by decide +kernel
theorem dX9_wander_48 : decode cX9_wander 48 = .ok (.iconst 0, 1) := by decide +kernel
theorem dX9_wander_49 : decode cX9_wander 49 = .ok (.istore 5, 2) := by decide +kernel
theorem dX9_wander_51 : decode cX9_wander 51 = .ok (.iload 5, 2) := by decide +kernel
theorem dX9_wander_53 : decode cX9_wander 53 = .ok (.aload_n 0, 1) := by decide +kernel
theorem dX9_wander_54 : decode cX9_wander 54 = .ok (.getfield 64, 3) := by decide +kernel
theorem dX9_wander_57 : decode cX9_wander 57 = .ok (.getfield 251, 3) := by decide +kernel
theorem dX9_wander_60 : decode cX9_wander 60 = .ok (.if_icmp .ge 79, 3) := by decide +kernel
theorem dX9_wander_63 : decode cX9_wander 63 = .ok (.aload_n 0, 1) := by decide +kernel
theorem dX9_wander_64 : decode cX9_wander 64 = .ok (.getfield 64, 3) := by decide +kernel
theorem dX9_wander_67 : decode cX9_wander 67 = .ok (.getfield 280, 3) := by decide +kernel
theorem dX9_wander_70 : decode cX9_wander 70 = .ok (.iload 5, 2) := by decide +kernel
theorem dX9_wander_72 : decode cX9_wander 72 = .ok (.iaload, 1) := by decide +kernel
theorem dX9_wander_73 : decode cX9_wander 73 = .ok (.iload_n 3, 1) := by decide +kernel
theorem dX9_wander_74 : decode cX9_wander 74 = .ok (.invokestatic 218, 3) := by decide +kernel
theorem dX9_wander_77 : decode cX9_wander 77 = .ok (.istore 6, 2) := by decide +kernel
theorem dX9_wander_79 : decode cX9_wander 79 = .ok (.iload 6, 2) := by decide +kernel
theorem dX9_wander_81 : decode cX9_wander 81 = .ok (.ifCond .gt 6, 3) := by decide +kernel
theorem dX9_wander_84 : decode cX9_wander 84 = .ok (.goto 49, 3) := by decide +kernel
theorem dX9_wander_87 : decode cX9_wander 87 = .ok (.aload_n 0, 1) := by decide +kernel
theorem dX9_wander_88 : decode cX9_wander 88 = .ok (.getfield 64, 3) := by decide +kernel
theorem dX9_wander_91 : decode cX9_wander 91 = .ok (.getfield 280, 3) := by decide +kernel
theorem dX9_wander_94 : decode cX9_wander 94 = .ok (.iload 5, 2) := by decide +kernel
theorem dX9_wander_96 : decode cX9_wander 96 = .ok (.iaload, 1) := by decide +kernel
theorem dX9_wander_97 : decode cX9_wander 97 = .ok (.iload_n 3, 1) := by decide +kernel
theorem dX9_wander_98 : decode cX9_wander 98 = .ok (.invokestatic 215, 3) := by decide +kernel
theorem dX9_wander_101 : decode cX9_wander 101 = .ok (.aload_n 0, 1) := by decide +kernel
theorem dX9_wander_102 : decode cX9_wander 102 = .ok (.getfield 47, 3) := by decide +kernel
theorem dX9_wander_105 : decode cX9_wander 105 = .ok (.ifCond .eq 7, 3) := by decide +kernel
theorem dX9_wander_108 : decode cX9_wander 108 = .ok (.iconst 2, 1) := by decide +kernel
theorem dX9_wander_109 : decode cX9_wander 109 = .ok (.goto 4, 3) := by decide +kernel
theorem dX9_wander_112 : decode cX9_wander 112 = .ok (.iconst 1, 1) := by decide +kernel
theorem dX9_wander_113 : decode cX9_wander 113 = .ok (.imul, 1) := by decide +kernel
theorem dX9_wander_114 : decode cX9_wander 114 = .ok (.istore 7, 2) := by decide +kernel
theorem dX9_wander_116 : decode cX9_wander 116 = .ok (.iload 4, 2) := by decide +kernel
theorem dX9_wander_118 : decode cX9_wander 118 = .ok (.iload 7, 2) := by decide +kernel
theorem dX9_wander_120 : decode cX9_wander 120 = .ok (.iload 6, 2) := by decide +kernel
theorem dX9_wander_122 : decode cX9_wander 122 = .ok (.iadd, 1) := by decide +kernel
theorem dX9_wander_123 : decode cX9_wander 123 = .ok (.iconst 1, 1) := by decide +kernel
theorem dX9_wander_124 : decode cX9_wander 124 = .ok (.isub, 1) := by decide +kernel
theorem dX9_wander_125 : decode cX9_wander 125 = .ok (.iload 6, 2) := by decide +kernel
theorem dX9_wander_127 : decode cX9_wander 127 = .ok (.idiv, 1) := by decide +kernel
theorem dX9_wander_128 : decode cX9_wander 128 = .ok (.invokestatic 281, 3) := by decide +kernel
theorem dX9_wander_131 : decode cX9_wander 131 = .ok (.istore 4, 2) := by decide +kernel
theorem dX9_wander_133 : decode cX9_wander 133 = .ok (.iinc 5 1, 3) := by decide +kernel
theorem dX9_wander_136 : decode cX9_wander 136 = .ok (.goto (-85), 3) := by decide +kernel
theorem dX9_wander_139 : decode cX9_wander 139 = .ok (.iload 4, 2) := by decide +kernel
theorem dX9_wander_141 : decode cX9_wander 141 = .ok (.ireturn, 1) := by decide +kernel
theorem dX9_unit_0 : decode cX9_unit 0 = .ok (.iload_n 1, 1) := by decide +kernel
theorem dX9_unit_1 : decode cX9_unit 1 = .ok (.iload_n 2, 1) := by decide +kernel
theorem dX9_unit_2 : decode cX9_unit 2 = .ok (.iload_n 3, 1) := by decide +kernel
theorem dX9_unit_3 : decode cX9_unit 3 = .ok (.invokestatic 286, 3) := by decide +kernel
theorem dX9_unit_6 : decode cX9_unit 6 = .ok (.istore 5, 2) := by decide +kernel
theorem dX9_unit_8 : decode cX9_unit 8 = .ok (.iload 5, 2) := by decide +kernel
theorem dX9_unit_10 : decode cX9_unit 10 = .ok (.ifCond .eq 21, 3) := by decide +kernel
theorem dX9_unit_13 : decode cX9_unit 13 = .ok (.iload 5, 2) := by decide +kernel
theorem dX9_unit_15 : decode cX9_unit 15 = .ok (.sipush 1000, 3) := by decide +kernel
theorem dX9_unit_18 : decode cX9_unit 18 = .ok (.if_icmp .gt 13, 3) := by decide +kernel
theorem dX9_unit_21 : decode cX9_unit 21 = .ok (.iload 4, 2) := by decide +kernel
theorem dX9_unit_23 : decode cX9_unit 23 = .ok (.iconst 0, 1) := by decide +kernel
theorem dX9_unit_24 : decode cX9_unit 24 = .ok (.iconst 2, 1) := by decide +kernel
theorem dX9_unit_25 : decode cX9_unit 25 = .ok (.invokestatic 154, 3) := by decide +kernel
theorem dX9_unit_28 : decode cX9_unit 28 = .ok (.ifCond .eq 5, 3) := by decide +kernel
theorem dX9_unit_31 : decode cX9_unit 31 = .ok (.iconst (-1), 1) := by decide +kernel
theorem dX9_unit_32 : decode cX9_unit 32 = .ok (.ireturn, 1) := by decide +kernel
theorem dX9_unit_33 : decode cX9_unit 33 = .ok (.iload 4, 2) := by decide +kernel
theorem dX9_unit_35 : decode cX9_unit 35 = .ok (.iconst 2, 1) := by decide +kernel
theorem dX9_unit_36 : decode cX9_unit 36 = .ok (.if_icmp .ne 6, 3) := by decide +kernel
theorem dX9_unit_39 : decode cX9_unit 39 = .ok (.iload 5, 2) := by decide +kernel
theorem dX9_unit_41 : decode cX9_unit 41 = .ok (.ireturn, 1) := by decide +kernel
theorem dX9_unit_42 : decode cX9_unit 42 = .ok (.aload_n 0, 1) := by decide +kernel
theorem dX9_unit_43 : decode cX9_unit 43 = .ok (.iconst (-1), 1) := by decide +kernel
theorem dX9_unit_44 : decode cX9_unit 44 = .ok (.iconst (-1), 1) := by decide +kernel
theorem dX9_unit_45 : decode cX9_unit 45 = .ok (.invokevirtual 244, 3) := by decide +kernel
theorem dX9_unit_48 : decode cX9_unit 48 = .ok (.aload_n 0, 1) := by decide +kernel
theorem dX9_unit_49 : decode cX9_unit 49 = .ok (.getfield 64, 3) := by decide +kernel
theorem dX9_unit_52 : decode cX9_unit 52 = .ok (.iload_n 1, 1) := by decide +kernel
theorem dX9_unit_53 : decode cX9_unit 53 = .ok (.iload_n 2, 1) := by decide +kernel
theorem dX9_unit_54 : decode cX9_unit 54 = .ok (.iload_n 3, 1) := by decide +kernel
theorem dX9_unit_55 : decode cX9_unit 55 = .ok (.aload_n 0, 1) := by decide +kernel
theorem dX9_unit_56 : decode cX9_unit 56 = .ok (.getfield 47, 3) := by decide +kernel
theorem dX9_unit_59 : decode cX9_unit 59 = .ok (.invokevirtual 289, 3) := by decide +kernel
theorem dX9_unit_62 : decode cX9_unit 62 = .ok (.istore 6, 2) := by decide +kernel
theorem dX9_unit_64 : decode cX9_unit 64 = .ok (.iload 4, 2) := by decide +kernel
theorem dX9_unit_66 : decode cX9_unit 66 = .ok (.ifCond .ne 8, 3) := by decide +kernel
theorem dX9_unit_69 : decode cX9_unit 69 = .ok (.iload 6, 2) := by decide +kernel
theorem dX9_unit_71 : decode cX9_unit 71 = .ok (.goto 19, 3) := by decide +kernel
theorem dX9_unit_74 : decode cX9_unit 74 = .ok (.aload_n 0, 1) := by decide +kernel
theorem dX9_unit_75 : decode cX9_unit 75 = .ok (.getfield 64, 3) := by decide +kernel
theorem dX9_unit_78 : decode cX9_unit 78 = .ok (.iload 6, 2) := by decide +kernel
theorem dX9_unit_80 : decode cX9_unit 80 = .ok (.aload_n 0, 1) := by decide +kernel
theorem dX9_unit_81 : decode cX9_unit 81 = .ok (.getfield 47, 3) := by decide +kernel
theorem dX9_unit_84 : decode cX9_unit 84 = .ok (.invokestatic 211, 3) := by decide +kernel
theorem dX9_unit_87 : decode cX9_unit 87 = .ok (.invokevirtual 248, 3) := by decide +kernel
theorem dX9_unit_90 : decode cX9_unit 90 = .ok (.ireturn, 1) := by decide +kernel
theorem dX9_any_0 : decode cX9_any 0 = .ok (.iload_n 1, 1) := by decide +kernel
theorem dX9_any_1 : decode cX9_any 1 = .ok (.iload_n 2, 1) := by decide +kernel
theorem dX9_any_2 : decode cX9_any 2 = .ok (.iload_n 3, 1) := by decide +kernel
theorem dX9_any_3 : decode cX9_any 3 = .ok (.invokestatic 286, 3) := by decide +kernel
theorem dX9_any_6 : decode cX9_any 6 = .ok (.istore 7, 2) := by decide +kernel
theorem dX9_any_8 : decode cX9_any 8 = .ok (.iload 7, 2) := by decide +kernel
theorem dX9_any_10 : decode cX9_any 10 = .ok (.ifCond .eq 38, 3) := by decide +kernel
theorem dX9_any_13 : decode cX9_any 13 = .ok (.iload 7, 2) := by decide +kernel
theorem dX9_any_15 : decode cX9_any 15 = .ok (.bipush 100, 2) := by decide +kernel
theorem dX9_any_17 : decode cX9_any 17 = .ok (.if_icmp .gt 31, 3) := by decide +kernel
theorem dX9_any_20 : decode cX9_any 20 = .ok (.iload 4, 2) := by decide +kernel
theorem dX9_any_22 : decode cX9_any 22 = .ok (.iconst 0, 1) := by decide +kernel
theorem dX9_any_23 : decode cX9_any 23 = .ok (.sipush 9999, 3) := by decide +kernel
theorem dX9_any_26 : decode cX9_any 26 = .ok (.invokestatic 154, 3) := by decide +kernel
theorem dX9_any_29 : decode cX9_any 29 = .ok (.ifCond .ne 19, 3) := by decide +kernel
theorem dX9_any_32 : decode cX9_any 32 = .ok (.iload 5, 2) := by decide +kernel
theorem dX9_any_34 : decode cX9_any 34 = .ok (.ifCond .lt 14, 3) := by decide +kernel
theorem dX9_any_37 : decode cX9_any 37 = .ok (.iload 6, 2) := by decide +kernel
theorem dX9_any_39 : decode cX9_any 39 = .ok (.iconst 1, 1) := by decide +kernel
theorem dX9_any_40 : decode cX9_any 40 = .ok (.bipush 50, 2) := by decide +kernel
theorem dX9_any_42 : decode cX9_any 42 = .ok (.invokestatic 154, 3) := by decide +kernel
theorem dX9_any_45 : decode cX9_any 45 = .ok (.ifCond .eq 5, 3) := by decide +kernel
theorem dX9_any_48 : decode cX9_any 48 = .ok (.iconst (-1), 1) := by decide +kernel
theorem dX9_any_49 : decode cX9_any 49 = .ok (.ireturn, 1) := by decide +kernel
theorem dX9_any_50 : decode cX9_any 50 = .ok (.aload_n 0, 1) := by decide +kernel
theorem dX9_any_51 : decode cX9_any 51 = .ok (.iconst (-1), 1) := by decide +kernel
theorem dX9_any_52 : decode cX9_any 52 = .ok (.iconst (-1), 1) := by decide +kernel
theorem dX9_any_53 : decode cX9_any 53 = .ok (.invokevirtual 244, 3) := by decide +kernel
theorem dX9_any_56 : decode cX9_any 56 = .ok (.aload_n 0, 1) := by decide +kernel
theorem dX9_any_57 : decode cX9_any 57 = .ok (.getfield 64, 3) := by decide +kernel
theorem dX9_any_60 : decode cX9_any 60 = .ok (.iload_n 1, 1) := by decide +kernel
theorem dX9_any_61 : decode cX9_any 61 = .ok (.iload_n 2, 1) := by decide +kernel
theorem dX9_any_62 : decode cX9_any 62 = .ok (.iload_n 3, 1) := by decide +kernel
theorem dX9_any_63 : decode cX9_any 63 = .ok (.aload_n 0, 1) := by decide +kernel
theorem dX9_any_64 : decode cX9_any 64 = .ok (.getfield 47, 3) := by decide +kernel
theorem dX9_any_67 : decode cX9_any 67 = .ok (.invokevirtual 293, 3) := by decide +kernel
theorem dX9_any_70 : decode cX9_any 70 = .ok (.istore 8, 2) := by decide +kernel
theorem dX9_any_72 : decode cX9_any 72 = .ok (.iload 5, 2) := by decide +kernel
theorem dX9_any_74 : decode cX9_any 74 = .ok (.i2l, 1) := by decide +kernel
theorem dX9_any_75 : decode cX9_any 75 = .ok (.lstore 9, 2) := by decide +kernel
theorem dX9_any_77 : decode cX9_any 77 = .ok (.iconst 0, 1) := by decide +kernel
theorem dX9_any_78 : decode cX9_any 78 = .ok (.istore 11, 2) := by decide +kernel
theorem dX9_any_80 : decode cX9_any 80 = .ok (.iconst 0, 1) := by decide +kernel
theorem dX9_any_81 : decode cX9_any 81 = .ok (.istore 12, 2) := by decide +kernel
theorem dX9_any_83 : decode cX9_any 83 = .ok (.iload 12, 2) := by decide +kernel
theorem dX9_any_85 : decode cX9_any 85 = .ok (.iload 6, 2) := by decide +kernel
theorem dX9_any_87 : decode cX9_any 87 = .ok (.if_icmp .ge 119, 3) := by decide +kernel
theorem dX9_any_90 : decode cX9_any 90 = .ok (.aload_n 0, 1) := by decide +kernel
theorem dX9_any_91 : decode cX9_any 91 = .ok (.getfield 68, 3) := by decide +kernel
theorem dX9_any_94 : decode cX9_any 94 = .ok (.iconst 0, 1) := by decide +kernel
theorem dX9_any_95 : decode cX9_any 95 = .ok (.putfield 251, 3) := by decide +kernel
theorem dX9_any_98 : decode cX9_any 98 = .ok (.iconst 0, 1) := by decide +kernel
theorem dX9_any_99 : decode cX9_any 99 = .ok (.istore 13, 2) := by decide +kernel
theorem dX9_any_101 : decode cX9_any 101 = .ok (.iload 13, 2) := by decide +kernel
theorem dX9_any_103 : decode cX9_any 103 = .ok (.aload_n 0, 1) := by decide +kernel
theorem dX9_any_104 : decode cX9_any 104 = .ok (.getfield 64, 3) := by decide +kernel
theorem dX9_any_107 : decode cX9_any 107 = .ok (.getfield 251, 3) := by decide +kernel
theorem dX9_any_110 : decode cX9_any 110 = .ok (.if_icmp .ge 68, 3) := by decide +kernel
theorem dX9_any_113 : decode cX9_any 113 = .ok (.lload 9, 2) := by decide +kernel
theorem dX9_any_115 : decode cX9_any 115 = .ok (.ldc2_w 296, 3) := by decide +kernel
theorem dX9_any_118 : decode cX9_any 118 = .ok (.lmul, 1) := by decide +kernel
theorem dX9_any_119 : decode cX9_any 119 = .ok (.ldc2_w 298, 3) := by decide +kernel
theorem dX9_any_122 : decode cX9_any 122 = .ok (.ladd, 1) := by decide +kernel
theorem dX9_any_123 : decode cX9_any 123 = .ok (.ldc2_w 300, 3) := by decide +kernel
theorem dX9_any_126 : decode cX9_any 126 = .ok (.land, 1) := by decide +kernel
theorem dX9_any_127 : decode cX9_any 127 = .ok (.lstore 9, 2) := by decide +kernel
theorem dX9_any_129 : decode cX9_any 129 = .ok (.aload_n 0, 1) := by decide +kernel
theorem dX9_any_130 : decode cX9_any 130 = .ok (.getfield 64, 3) := by decide +kernel
theorem dX9_any_133 : decode cX9_any 133 = .ok (.getfield 280, 3) := by decide +kernel
theorem dX9_any_136 : decode cX9_any 136 = .ok (.iload 13, 2) := by decide +kernel
theorem dX9_any_138 : decode cX9_any 138 = .ok (.iaload, 1) := by decide +kernel
theorem dX9_any_139 : decode cX9_any 139 = .ok (.lload 9, 2) := by decide +kernel
theorem dX9_any_141 : decode cX9_any 141 = .ok (.ldc2_w 302, 3) := by decide +kernel
theorem dX9_any_144 : decode cX9_any 144 = .ok (.ldiv, 1) := by decide +kernel
theorem dX9_any_145 : decode cX9_any 145 = .ok (.l2i, 1) := by decide +kernel
theorem dX9_any_146 : decode cX9_any 146 = .ok (.iconst 2, 1) := by decide +kernel
theorem dX9_any_147 : decode cX9_any 147 = .ok (.iload 4, 2) := by decide +kernel
theorem dX9_any_149 : decode cX9_any 149 = .ok (.imul, 1) := by decide +kernel
theorem dX9_any_150 : decode cX9_any 150 = .ok (.iconst 1, 1) := by decide +kernel
theorem dX9_any_151 : decode cX9_any 151 = .ok (.iadd, 1) := by decide +kernel
theorem dX9_any_152 : decode cX9_any 152 = .ok (.irem, 1) := by decide +kernel
theorem dX9_any_153 : decode cX9_any 153 = .ok (.iadd, 1) := by decide +kernel
theorem dX9_any_154 : decode cX9_any 154 = .ok (.iload 4, 2) := by decide +kernel
theorem dX9_any_156 : decode cX9_any 156 = .ok (.isub, 1) := by decide +kernel
theorem dX9_any_157 : decode cX9_any 157 = .ok (.istore 14, 2) := by decide +kernel
theorem dX9_any_159 : decode cX9_any 159 = .ok (.aload_n 0, 1) := by decide +kernel
theorem dX9_any_160 : decode cX9_any 160 = .ok (.getfield 68, 3) := by decide +kernel
theorem dX9_any_163 : decode cX9_any 163 = .ok (.iload 14, 2) := by decide +kernel
theorem dX9_any_165 : decode cX9_any 165 = .ok (.iconst 0, 1) := by decide +kernel
theorem dX9_any_166 : decode cX9_any 166 = .ok (.invokestatic 281, 3) := by decide +kernel
theorem dX9_any_169 : decode cX9_any 169 = .ok (.invokevirtual 252, 3) := by decide +kernel
theorem dX9_any_172 : decode cX9_any 172 = .ok (.iinc 13 1, 3) := by decide +kernel
theorem dX9_any_175 : decode cX9_any 175 = .ok (.goto (-74), 3) := by decide +kernel
theorem dX9_any_178 : decode cX9_any 178 = .ok (.aload_n 0, 1) := by decide +kernel
theorem dX9_any_179 : decode cX9_any 179 = .ok (.getfield 68, 3) := by decide +kernel
theorem dX9_any_182 : decode cX9_any 182 = .ok (.iload_n 1, 1) := by decide +kernel
theorem dX9_any_183 : decode cX9_any 183 = .ok (.iload_n 2, 1) := by decide +kernel
theorem dX9_any_184 : decode cX9_any 184 = .ok (.iload_n 3, 1) := by decide +kernel
theorem dX9_any_185 : decode cX9_any 185 = .ok (.aload_n 0, 1) := by decide +kernel
theorem dX9_any_186 : decode cX9_any 186 = .ok (.getfield 47, 3) := by decide +kernel
theorem dX9_any_189 : decode cX9_any 189 = .ok (.invokevirtual 293, 3) := by decide +kernel
theorem dX9_any_192 : decode cX9_any 192 = .ok (.iload 8, 2) := by decide +kernel
theorem dX9_any_194 : decode cX9_any 194 = .ok (.if_icmp .gt 6, 3) := by decide +kernel
theorem dX9_any_197 : decode cX9_any 197 = .ok (.iinc 11 1, 3) := by decide +kernel
theorem dX9_any_200 : decode cX9_any 200 = .ok (.iinc 12 1, 3) := by decide +kernel
theorem dX9_any_203 : decode cX9_any 203 = .ok (.goto (-120), 3) := by decide +kernel
theorem dX9_any_206 : decode cX9_any 206 = .ok (.iload 11, 2) := by decide +kernel
theorem dX9_any_208 : decode cX9_any 208 = .ok (.ireturn, 1) := by decide +kernel
theorem dX9_land_0 : decode cX9_land 0 = .ok (.iload_n 2, 1) := by decide +kernel
theorem dX9_land_1 : decode cX9_land 1 = .ok (.iload_n 3, 1) := by decide +kernel
theorem dX9_land_2 : decode cX9_land 2 = .ok (.iload 4, 2) := by decide +kernel
theorem dX9_land_4 : decode cX9_land 4 = .ok (.invokestatic 286, 3) := by decide +kernel
theorem dX9_land_7 : decode cX9_land 7 = .ok (.istore 5, 2) := by decide +kernel
theorem dX9_land_9 : decode cX9_land 9 = .ok (.iload 5, 2) := by decide +kernel
theorem dX9_land_11 : decode cX9_land 11 = .ok (.ifCond .eq 31, 3) := by decide +kernel
theorem dX9_land_14 : decode cX9_land 14 = .ok (.iload 5, 2) := by decide +kernel
theorem dX9_land_16 : decode cX9_land 16 = .ok (.sipush 1000, 3) := by decide +kernel
theorem dX9_land_19 : decode cX9_land 19 = .ok (.if_icmp .gt 23, 3) := by decide +kernel
theorem dX9_land_22 : decode cX9_land 22 = .ok (.iload_n 1, 1) := by decide +kernel
theorem dX9_land_23 : decode cX9_land 23 = .ok (.iconst 0, 1) := by decide +kernel
theorem dX9_land_24 : decode cX9_land 24 = .ok (.aload_n 0, 1) := by decide +kernel
theorem dX9_land_25 : decode cX9_land 25 = .ok (.getfield 27, 3) := by decide +kernel
theorem dX9_land_28 : decode cX9_land 28 = .ok (.getfield 98, 3) := by decide +kernel
theorem dX9_land_31 : decode cX9_land 31 = .ok (.getfield 279, 3) := by decide +kernel
theorem dX9_land_34 : decode cX9_land 34 = .ok (.iconst 1, 1) := by decide +kernel
theorem dX9_land_35 : decode cX9_land 35 = .ok (.isub, 1) := by decide +kernel
theorem dX9_land_36 : decode cX9_land 36 = .ok (.invokestatic 154, 3) := by decide +kernel
theorem dX9_land_39 : decode cX9_land 39 = .ok (.ifCond .eq 5, 3) := by decide +kernel
theorem dX9_land_42 : decode cX9_land 42 = .ok (.iconst (-1), 1) := by decide +kernel
theorem dX9_land_43 : decode cX9_land 43 = .ok (.ireturn, 1) := by decide +kernel
theorem dX9_land_44 : decode cX9_land 44 = .ok (.aload_n 0, 1) := by decide +kernel
theorem dX9_land_45 : decode cX9_land 45 = .ok (.iload_n 1, 1) := by decide +kernel
theorem dX9_land_46 : decode cX9_land 46 = .ok (.iconst (-1), 1) := by decide +kernel
theorem dX9_land_47 : decode cX9_land 47 = .ok (.invokevirtual 244, 3) := by decide +kernel
theorem dX9_land_50 : decode cX9_land 50 = .ok (.aload_n 0, 1) := by decide +kernel
theorem dX9_land_51 : decode cX9_land 51 = .ok (.getfield 64, 3) := by decide +kernel
theorem dX9_land_54 : decode cX9_land 54 = .ok (.getfield 251, 3) := by decide +kernel
theorem dX9_land_57 : decode cX9_land 57 = .ok (.ifCond .ne 7, 3) := by decide +kernel
theorem dX9_land_60 : decode cX9_land 60 = .ok (.iconst (-1), 1) := by decide +kernel
theorem dX9_land_61 : decode cX9_land 61 = .ok (.goto 18, 3) := by decide +kernel
theorem dX9_land_64 : decode cX9_land 64 = .ok (.aload_n 0, 1) := by decide +kernel
theorem dX9_land_65 : decode cX9_land 65 = .ok (.getfield 64, 3) := by decide +kernel
theorem dX9_land_68 : decode cX9_land 68 = .ok (.iload_n 2, 1) := by decide +kernel
theorem dX9_land_69 : decode cX9_land 69 = .ok (.iload_n 3, 1) := by decide +kernel
theorem dX9_land_70 : decode cX9_land 70 = .ok (.iload 4, 2) := by decide +kernel
theorem dX9_land_72 : decode cX9_land 72 = .ok (.aload_n 0, 1) := by decide +kernel
theorem dX9_land_73 : decode cX9_land 73 = .ok (.getfield 47, 3) := by decide +kernel
theorem dX9_land_76 : decode cX9_land 76 = .ok (.invokevirtual 289, 3) := by decide +kernel
theorem dX9_land_79 : decode cX9_land 79 = .ok (.ireturn, 1) := by decide +kernel
theorem dX9_apart_0 : decode cX9_apart 0 = .ok (.iload_n 1, 1) := by decide +kernel
theorem dX9_apart_1 : decode cX9_apart 1 = .ok (.iload_n 2, 1) := by decide +kernel
theorem dX9_apart_2 : decode cX9_apart 2 = .ok (.iload_n 3, 1) := by decide +kernel
theorem dX9_apart_3 : decode cX9_apart 3 = .ok (.invokestatic 286, 3) := by decide +kernel
theorem dX9_apart_6 : decode cX9_apart 6 = .ok (.istore 4, 2) := by decide +kernel
theorem dX9_apart_8 : decode cX9_apart 8 = .ok (.iload 4, 2) := by decide +kernel
theorem dX9_apart_10 : decode cX9_apart 10 = .ok (.ifCond .eq 11, 3) := by decide +kernel
theorem dX9_apart_13 : decode cX9_apart 13 = .ok (.iload 4, 2) := by decide +kernel
theorem dX9_apart_15 : decode cX9_apart 15 = .ok (.sipush 1000, 3) := by decide +kernel
theorem dX9_apart_18 : decode cX9_apart 18 = .ok (.if_icmp .le 5, 3) := by decide +kernel
theorem dX9_apart_21 : decode cX9_apart 21 = .ok (.iconst (-1), 1) := by decide +kernel
theorem dX9_apart_22 : decode cX9_apart 22 = .ok (.ireturn, 1) := by decide +kernel
theorem dX9_apart_23 : decode cX9_apart 23 = .ok (.ldc_w 304, 3) := by decide +kernel
theorem dX9_apart_26 : decode cX9_apart 26 = .ok (.istore 5, 2) := by decide +kernel
theorem dX9_apart_28 : decode cX9_apart 28 = .ok (.iconst (-1), 1) := by decide +kernel
theorem dX9_apart_29 : decode cX9_apart 29 = .ok (.istore 6, 2) := by decide +kernel
theorem dX9_apart_31 : decode cX9_apart 31 = .ok (.iconst 0, 1) := by decide +kernel
theorem dX9_apart_32 : decode cX9_apart 32 = .ok (.istore 7, 2) := by decide +kernel
theorem dX9_apart_34 : decode cX9_apart 34 = .ok (.iload 7, 2) := by decide +kernel
theorem dX9_apart_36 : decode cX9_apart 36 = .ok (.aload_n 0, 1) := by decide +kernel
theorem dX9_apart_37 : decode cX9_apart 37 = .ok (.getfield 27, 3) := by decide +kernel
theorem dX9_apart_40 : decode cX9_apart 40 = .ok (.getfield 98, 3) := by decide +kernel
theorem dX9_apart_43 : decode cX9_apart 43 = .ok (.getfield 279, 3) := by decide +kernel
theorem dX9_apart_46 : decode cX9_apart 46 = .ok (.if_icmp .ge 60, 3) := by decide +kernel
theorem dX9_apart_49 : decode cX9_apart 49 = .ok (.aload_n 0, 1) := by decide +kernel
theorem dX9_apart_50 : decode cX9_apart 50 = .ok (.iload 7, 2) := by decide +kernel
theorem dX9_apart_52 : decode cX9_apart 52 = .ok (.iconst (-1), 1) := by decide +kernel
theorem dX9_apart_53 : decode cX9_apart 53 = .ok (.invokevirtual 244, 3) := by decide +kernel
theorem dX9_apart_56 : decode cX9_apart 56 = .ok (.aload_n 0, 1) := by decide +kernel
theorem dX9_apart_57 : decode cX9_apart 57 = .ok (.getfield 64, 3) := by decide +kernel
theorem dX9_apart_60 : decode cX9_apart 60 = .ok (.getfield 251, 3) := by decide +kernel
theorem dX9_apart_63 : decode cX9_apart 63 = .ok (.ifCond .le 37, 3) := by decide +kernel
theorem dX9_apart_66 : decode cX9_apart 66 = .ok (.aload_n 0, 1) := by decide +kernel
theorem dX9_apart_67 : decode cX9_apart 67 = .ok (.getfield 64, 3) := by decide +kernel
theorem dX9_apart_70 : decode cX9_apart 70 = .ok (.iload_n 1, 1) := by decide +kernel
theorem dX9_apart_71 : decode cX9_apart 71 = .ok (.iload_n 2, 1) := by decide +kernel
theorem dX9_apart_72 : decode cX9_apart 72 = .ok (.iload_n 3, 1) := by decide +kernel
theorem dX9_apart_73 : decode cX9_apart 73 = .ok (.aload_n 0, 1) := by decide +kernel
theorem dX9_apart_74 : decode cX9_apart 74 = .ok (.getfield 47, 3) := by decide +kernel
theorem dX9_apart_77 : decode cX9_apart 77 = .ok (.invokevirtual 289, 3) := by decide +kernel
theorem dX9_apart_80 : decode cX9_apart 80 = .ok (.istore 8, 2) := by decide +kernel
theorem dX9_apart_82 : decode cX9_apart 82 = .ok (.iload 5, 2) := by decide +kernel
theorem dX9_apart_84 : decode cX9_apart 84 = .ok (.iload 8, 2) := by decide +kernel
theorem dX9_apart_86 : decode cX9_apart 86 = .ok (.invokestatic 305, 3) := by decide +kernel
theorem dX9_apart_89 : decode cX9_apart 89 = .ok (.istore 5, 2) := by decide +kernel
theorem dX9_apart_91 : decode cX9_apart 91 = .ok (.iload 6, 2) := by decide +kernel
theorem dX9_apart_93 : decode cX9_apart 93 = .ok (.iload 8, 2) := by decide +kernel
theorem dX9_apart_95 : decode cX9_apart 95 = .ok (.invokestatic 281, 3) := by decide +kernel
theorem dX9_apart_98 : decode cX9_apart 98 = .ok (.istore 6, 2) := by decide +kernel
theorem dX9_apart_100 : decode cX9_apart 100 = .ok (.iinc 7 1, 3) := by decide +kernel
theorem dX9_apart_103 : decode cX9_apart 103 = .ok (.goto (-69), 3) := by decide +kernel
theorem dX9_apart_106 : decode cX9_apart 106 = .ok (.iload 6, 2) := by decide +kernel
theorem dX9_apart_108 : decode cX9_apart 108 = .ok (.iconst (-1), 1) := by decide +kernel
theorem dX9_apart_109 : decode cX9_apart 109 = .ok (.if_icmp .ne 7, 3) := by decide +kernel
theorem dX9_apart_112 : decode cX9_apart 112 = .ok (.iconst (-1), 1) := by decide +kernel
theorem dX9_apart_113 : decode cX9_apart 113 = .ok (.goto 8, 3) := by decide +kernel
theorem dX9_apart_116 : decode cX9_apart 116 = .ok (.iload 6, 2) := by decide +kernel
theorem dX9_apart_118 : decode cX9_apart 118 = .ok (.iload 5, 2) := by decide +kernel
theorem dX9_apart_120 : decode cX9_apart 120 = .ok (.isub, 1) := by decide +kernel
theorem dX9_apart_121 : decode cX9_apart 121 = .ok (.ireturn, 1) := by decide +kernel
theorem dX9_ahead_0 : decode cX9_ahead 0 = .ok (.iload_n 2, 1) := by decide +kernel
theorem dX9_ahead_1 : decode cX9_ahead 1 = .ok (.iload_n 3, 1) := by decide +kernel
theorem dX9_ahead_2 : decode cX9_ahead 2 = .ok (.iload 4, 2) := by decide +kernel
theorem dX9_ahead_4 : decode cX9_ahead 4 = .ok (.invokestatic 286, 3) := by decide +kernel
theorem dX9_ahead_7 : decode cX9_ahead 7 = .ok (.istore 6, 2) := by decide +kernel
theorem dX9_ahead_9 : decode cX9_ahead 9 = .ok (.iload 6, 2) := by decide +kernel
theorem dX9_ahead_11 : decode cX9_ahead 11 = .ok (.ifCond .eq 36, 3) := by decide +kernel
theorem dX9_ahead_14 : decode cX9_ahead 14 = .ok (.iload 6, 2) := by decide +kernel
theorem dX9_ahead_16 : decode cX9_ahead 16 = .ok (.sipush 1000, 3) := by decide +kernel
theorem dX9_ahead_19 : decode cX9_ahead 19 = .ok (.if_icmp .gt 28, 3) := by decide +kernel
theorem dX9_ahead_22 : decode cX9_ahead 22 = .ok (.iload_n 1, 1) := by decide +kernel
theorem dX9_ahead_23 : decode cX9_ahead 23 = .ok (.iconst 0, 1) := by decide +kernel
theorem dX9_ahead_24 : decode cX9_ahead 24 = .ok (.aload_n 0, 1) := by decide +kernel
theorem dX9_ahead_25 : decode cX9_ahead 25 = .ok (.getfield 37, 3) := by decide +kernel
theorem dX9_ahead_28 : decode cX9_ahead 28 = .ok (.getfield 83, 3) := by decide +kernel
theorem dX9_ahead_31 : decode cX9_ahead 31 = .ok (.invokestatic 154, 3) := by decide +kernel
theorem dX9_ahead_34 : decode cX9_ahead 34 = .ok (.ifCond .ne 13, 3) := by decide +kernel
theorem dX9_ahead_37 : decode cX9_ahead 37 = .ok (.iload 5, 2) := by decide +kernel
theorem dX9_ahead_39 : decode cX9_ahead 39 = .ok (.iconst 0, 1) := by decide +kernel
theorem dX9_ahead_40 : decode cX9_ahead 40 = .ok (.iconst 2, 1) := by decide +kernel
theorem dX9_ahead_41 : decode cX9_ahead 41 = .ok (.invokestatic 154, 3) := by decide +kernel
theorem dX9_ahead_44 : decode cX9_ahead 44 = .ok (.ifCond .eq 5, 3) := by decide +kernel
theorem dX9_ahead_47 : decode cX9_ahead 47 = .ok (.iconst (-1), 1) := by decide +kernel
theorem dX9_ahead_48 : decode cX9_ahead 48 = .ok (.ireturn, 1) := by decide +kernel
theorem dX9_ahead_49 : decode cX9_ahead 49 = .ok (.aload_n 0, 1) := by decide +kernel
theorem dX9_ahead_50 : decode cX9_ahead 50 = .ok (.getfield 58, 3) := by decide +kernel
theorem dX9_ahead_53 : decode cX9_ahead 53 = .ok (.aload_n 0, 1) := by decide +kernel
theorem dX9_ahead_54 : decode cX9_ahead 54 = .ok (.getfield 27, 3) := by decide +kernel
theorem dX9_ahead_57 : decode cX9_ahead 57 = .ok (.aload_n 0, 1) := by decide +kernel
theorem dX9_ahead_58 : decode cX9_ahead 58 = .ok (.getfield 37, 3) := by decide +kernel
theorem dX9_ahead_61 : decode cX9_ahead 61 = .ok (.iload_n 1, 1) := by decide +kernel
theorem dX9_ahead_62 : decode cX9_ahead 62 = .ok (.aload_n 0, 1) := by decide +kernel
theorem dX9_ahead_63 : decode cX9_ahead 63 = .ok (.getfield 44, 3) := by decide +kernel
theorem dX9_ahead_66 : decode cX9_ahead 66 = .ok (.invokevirtual 169, 3) := by decide +kernel
theorem dX9_ahead_69 : decode cX9_ahead 69 = .ok (.aload_n 0, 1) := by decide +kernel
theorem dX9_ahead_70 : decode cX9_ahead 70 = .ok (.getfield 64, 3) := by decide +kernel
theorem dX9_ahead_73 : decode cX9_ahead 73 = .ok (.iconst 0, 1) := by decide +kernel
theorem dX9_ahead_74 : decode cX9_ahead 74 = .ok (.putfield 251, 3) := by decide +kernel
theorem dX9_ahead_77 : decode cX9_ahead 77 = .ok (.iconst 0, 1) := by decide +kernel
theorem dX9_ahead_78 : decode cX9_ahead 78 = .ok (.istore 7, 2) := by decide +kernel
theorem dX9_ahead_80 : decode cX9_ahead 80 = .ok (.iload 7, 2) := by decide +kernel
theorem dX9_ahead_82 : decode cX9_ahead 82 = .ok (.bipush 8, 2) := by decide +kernel
theorem dX9_ahead_84 : decode cX9_ahead 84 = .ok (.if_icmp .ge 34, 3) := by decide +kernel
theorem dX9_ahead_87 : decode cX9_ahead 87 = .ok (.aload_n 0, 1) := by decide +kernel
theorem dX9_ahead_88 : decode cX9_ahead 88 = .ok (.getfield 58, 3) := by decide +kernel
theorem dX9_ahead_91 : decode cX9_ahead 91 = .ok (.iload 7, 2) := by decide +kernel
theorem dX9_ahead_93 : decode cX9_ahead 93 = .ok (.invokevirtual 194, 3) := by decide +kernel
theorem dX9_ahead_96 : decode cX9_ahead 96 = .ok (.ifCond .eq 16, 3) := by decide +kernel
theorem dX9_ahead_99 : decode cX9_ahead 99 = .ok (.aload_n 0, 1) := by decide +kernel
theorem dX9_ahead_100 : decode cX9_ahead 100 = .ok (.getfield 64, 3) := by decide +kernel
theorem dX9_ahead_103 : decode cX9_ahead 103 = .ok (.aload_n 0, 1) := by decide +kernel
theorem dX9_ahead_104 : decode cX9_ahead 104 = .ok (.iload 7, 2) := by decide +kernel
theorem dX9_ahead_106 : decode cX9_ahead 106 = .ok (.invokevirtual 308, 3) := by decide +kernel
theorem dX9_ahead_109 : decode cX9_ahead 109 = .ok (.invokevirtual 252, 3) := by decide +kernel
theorem dX9_ahead_112 : decode cX9_ahead 112 = .ok (.iinc 7 1, 3) := by decide +kernel
theorem dX9_ahead_115 : decode cX9_ahead 115 = .ok (.goto (-35), 3) := by decide +kernel
theorem dX9_ahead_118 : decode cX9_ahead 118 = .ok (.aload_n 0, 1) := by decide +kernel
theorem dX9_ahead_119 : decode cX9_ahead 119 = .ok (.getfield 64, 3) := by decide +kernel
theorem dX9_ahead_122 : decode cX9_ahead 122 = .ok (.iload_n 2, 1) := by decide +kernel
theorem dX9_ahead_123 : decode cX9_ahead 123 = .ok (.iload_n 3, 1) := by decide +kernel
theorem dX9_ahead_124 : decode cX9_ahead 124 = .ok (.iload 4, 2) := by decide +kernel
theorem dX9_ahead_126 : decode cX9_ahead 126 = .ok (.aload_n 0, 1) := by decide +kernel
theorem dX9_ahead_127 : decode cX9_ahead 127 = .ok (.getfield 47, 3) := by decide +kernel
theorem dX9_ahead_130 : decode cX9_ahead 130 = .ok (.invokevirtual 289, 3) := by decide +kernel
theorem dX9_ahead_133 : decode cX9_ahead 133 = .ok (.istore 7, 2) := by decide +kernel
theorem dX9_ahead_135 : decode cX9_ahead 135 = .ok (.iload 5, 2) := by decide +kernel
theorem dX9_ahead_137 : decode cX9_ahead 137 = .ok (.ifCond .ne 8, 3) := by decide +kernel
theorem dX9_ahead_140 : decode cX9_ahead 140 = .ok (.iload 7, 2) := by decide +kernel
theorem dX9_ahead_142 : decode cX9_ahead 142 = .ok (.goto 20, 3) := by decide +kernel
theorem dX9_ahead_145 : decode cX9_ahead 145 = .ok (.aload_n 0, 1) := by decide +kernel
theorem dX9_ahead_146 : decode cX9_ahead 146 = .ok (.iload 7, 2) := by decide +kernel
theorem dX9_ahead_148 : decode cX9_ahead 148 = .ok (.iload 5, 2) := by decide +kernel
theorem dX9_ahead_150 : decode cX9_ahead 150 = .ok (.iconst 1, 1) := by decide +kernel
theorem dX9_ahead_151 : decode cX9_ahead 151 = .ok (.if_icmp .ne 7, 3) := by decide +kernel
theorem dX9_ahead_154 : decode cX9_ahead 154 = .ok (.iconst 1, 1) := by decide +kernel
theorem dX9_ahead_155 : decode cX9_ahead 155 = .ok (.goto 4, 3) := by decide +kernel
theorem dX9_ahead_158 : decode cX9_ahead 158 = .ok (.iconst 0, 1) := by decide +kernel
theorem dX9_ahead_159 : decode cX9_ahead 159 = .ok (.invokevirtual 311, 3) := by decide +kernel
theorem dX9_ahead_162 : decode cX9_ahead 162 = .ok (.ireturn, 1) := by decide +kernel
theorem dX9_sizeThen_0 : decode cX9_sizeThen 0 = .ok (.aload_n 0, 1) := by decide +kernel
theorem dX9_sizeThen_1 : decode cX9_sizeThen 1 = .ok (.getfield 58, 3) := by decide +kernel
theorem dX9_sizeThen_4 : decode cX9_sizeThen 4 = .ok (.aload_n 0, 1) := by decide +kernel
theorem dX9_sizeThen_5 : decode cX9_sizeThen 5 = .ok (.getfield 54, 3) := by decide +kernel
theorem dX9_sizeThen_8 : decode cX9_sizeThen 8 = .ok (.iload_n 1, 1) := by decide +kernel
theorem dX9_sizeThen_9 : decode cX9_sizeThen 9 = .ok (.invokevirtual 314, 3) := by decide +kernel
theorem dX9_sizeThen_12 : decode cX9_sizeThen 12 = .ok (.ifCond .eq 14, 3) := by decide +kernel
theorem dX9_sizeThen_15 : decode cX9_sizeThen 15 = .ok (.aload_n 0, 1) := by decide +kernel
theorem dX9_sizeThen_16 : decode cX9_sizeThen 16 = .ok (.getfield 54, 3) := by decide +kernel
theorem dX9_sizeThen_19 : decode cX9_sizeThen 19 = .ok (.iload_n 1, 1) := by decide +kernel
theorem dX9_sizeThen_20 : decode cX9_sizeThen 20 = .ok (.invokevirtual 224, 3) := by decide +kernel
theorem dX9_sizeThen_23 : decode cX9_sizeThen 23 = .ok (.goto 11, 3) := by decide +kernel
theorem dX9_sizeThen_26 : decode cX9_sizeThen 26 = .ok (.aload_n 0, 1) := by decide +kernel
theorem dX9_sizeThen_27 : decode cX9_sizeThen 27 = .ok (.getfield 58, 3) := by decide +kernel
theorem dX9_sizeThen_30 : decode cX9_sizeThen 30 = .ok (.iload_n 1, 1) := by decide +kernel
theorem dX9_sizeThen_31 : decode cX9_sizeThen 31 = .ok (.invokevirtual 224, 3) := by decide +kernel
theorem dX9_sizeThen_34 : decode cX9_sizeThen 34 = .ok (.ireturn, 1) := by decide +kernel
theorem dX9_countTapedSince_0 : decode cX9_countTapedSince 0 = .ok (.iconst 0, 1) := by decide +kernel
theorem dX9_countTapedSince_1 : decode cX9_countTapedSince 1 = .ok (.istore_n 3, 1) := by decide +kernel
theorem dX9_countTapedSince_2 : decode cX9_countTapedSince 2 = .ok (.iconst 0, 1) := by decide +kernel
theorem dX9_countTapedSince_3 : decode cX9_countTapedSince 3 = .ok (.istore 4, 2) := by decide +kernel
theorem dX9_countTapedSince_5 : decode cX9_countTapedSince 5 = .ok (.iload 4, 2) := by decide +kernel
theorem dX9_countTapedSince_7 : decode cX9_countTapedSince 7 = .ok (.bipush 8, 2) := by decide +kernel
theorem dX9_countTapedSince_9 : decode cX9_countTapedSince 9 = .ok (.if_icmp .ge 59, 3) := by decide +kernel
theorem dX9_countTapedSince_12 : decode cX9_countTapedSince 12 = .ok (.aload_n 0, 1) := by decide +kernel
theorem dX9_countTapedSince_13 : decode cX9_countTapedSince 13 = .ok (.getfield 54, 3) := by decide +kernel
theorem dX9_countTapedSince_16 : decode cX9_countTapedSince 16 = .ok (.iload 4, 2) := by decide +kernel
theorem dX9_countTapedSince_18 : decode cX9_countTapedSince 18 = .ok (.invokevirtual 194, 3) := by decide +kernel
theorem dX9_countTapedSince_21 : decode cX9_countTapedSince 21 = .ok (.ifCond .eq 41, 3) := by decide +kernel
theorem dX9_countTapedSince_24 : decode cX9_countTapedSince 24 = .ok (.aload_n 0, 1) := by decide +kernel
theorem dX9_countTapedSince_25 : decode cX9_countTapedSince 25 = .ok (.iload 4, 2) := by decide +kernel
theorem dX9_countTapedSince_27 : decode cX9_countTapedSince 27 = .ok (.invokevirtual 308, 3) := by decide +kernel
theorem dX9_countTapedSince_30 : decode cX9_countTapedSince 30 = .ok (.aload_n 0, 1) := by decide +kernel
theorem dX9_countTapedSince_31 : decode cX9_countTapedSince 31 = .ok (.getfield 54, 3) := by decide +kernel
theorem dX9_countTapedSince_34 : decode cX9_countTapedSince 34 = .ok (.iload 4, 2) := by decide +kernel
theorem dX9_countTapedSince_36 : decode cX9_countTapedSince 36 = .ok (.invokevirtual 224, 3) := by decide +kernel
theorem dX9_countTapedSince_39 : decode cX9_countTapedSince 39 = .ok (.if_icmp .ne 6, 3) := by decide +kernel
theorem dX9_countTapedSince_42 : decode cX9_countTapedSince 42 = .ok (.goto 20, 3) := by decide +kernel
theorem dX9_countTapedSince_45 : decode cX9_countTapedSince 45 = .ok (.iload_n 2, 1) := by decide +kernel
theorem dX9_countTapedSince_46 : decode cX9_countTapedSince 46 = .ok (.ifCond .eq 13, 3) := by decide +kernel
theorem dX9_countTapedSince_49 : decode cX9_countTapedSince 49 = .ok (.aload_n 0, 1) := by decide +kernel
theorem dX9_countTapedSince_50 : decode cX9_countTapedSince 50 = .ok (.iload 4, 2) := by decide +kernel
theorem dX9_countTapedSince_52 : decode cX9_countTapedSince 52 = .ok (.iload_n 1, 1) := by decide +kernel
theorem dX9_countTapedSince_53 : decode cX9_countTapedSince 53 = .ok (.invokevirtual 221, 3) := by decide +kernel
theorem dX9_countTapedSince_56 : decode cX9_countTapedSince 56 = .ok (.ifCond .eq 6, 3) := by decide +kernel
theorem dX9_countTapedSince_59 : decode cX9_countTapedSince 59 = .ok (.iinc 3 1, 3) := by decide +kernel
theorem dX9_countTapedSince_62 : decode cX9_countTapedSince 62 = .ok (.iinc 4 1, 3) := by decide +kernel
theorem dX9_countTapedSince_65 : decode cX9_countTapedSince 65 = .ok (.goto (-60), 3) := by decide +kernel
theorem dX9_countTapedSince_68 : decode cX9_countTapedSince 68 = .ok (.iload_n 3, 1) := by decide +kernel
theorem dX9_countTapedSince_69 : decode cX9_countTapedSince 69 = .ok (.ireturn, 1) := by decide +kernel
theorem dX9_tells_0 : decode cX9_tells 0 = .ok (.iload_n 1, 1) := by decide +kernel
theorem dX9_tells_1 : decode cX9_tells 1 = .ok (.iconst 0, 1) := by decide +kernel
theorem dX9_tells_2 : decode cX9_tells 2 = .ok (.aload_n 0, 1) := by decide +kernel
theorem dX9_tells_3 : decode cX9_tells 3 = .ok (.getfield 27, 3) := by decide +kernel
theorem dX9_tells_6 : decode cX9_tells 6 = .ok (.getfield 111, 3) := by decide +kernel
theorem dX9_tells_9 : decode cX9_tells 9 = .ok (.getfield 279, 3) := by decide +kernel
theorem dX9_tells_12 : decode cX9_tells 12 = .ok (.iconst 1, 1) := by decide +kernel
theorem dX9_tells_13 : decode cX9_tells 13 = .ok (.isub, 1) := by decide +kernel
theorem dX9_tells_14 : decode cX9_tells 14 = .ok (.invokestatic 154, 3) := by decide +kernel
theorem dX9_tells_17 : decode cX9_tells 17 = .ok (.ifCond .ne 19, 3) := by decide +kernel
theorem dX9_tells_20 : decode cX9_tells 20 = .ok (.iload_n 2, 1) := by decide +kernel
theorem dX9_tells_21 : decode cX9_tells 21 = .ok (.invokestatic 208, 3) := by decide +kernel
theorem dX9_tells_24 : decode cX9_tells 24 = .ok (.ifCond .eq 12, 3) := by decide +kernel
theorem dX9_tells_27 : decode cX9_tells 27 = .ok (.iload_n 3, 1) := by decide +kernel
theorem dX9_tells_28 : decode cX9_tells 28 = .ok (.iconst 0, 1) := by decide +kernel
theorem dX9_tells_29 : decode cX9_tells 29 = .ok (.iconst 1, 1) := by decide +kernel
theorem dX9_tells_30 : decode cX9_tells 30 = .ok (.invokestatic 154, 3) := by decide +kernel
theorem dX9_tells_33 : decode cX9_tells 33 = .ok (.ifCond .eq 7, 3) := by decide +kernel
theorem dX9_tells_36 : decode cX9_tells 36 = .ok (.ldc2_w 318, 3) := by decide +kernel
theorem dX9_tells_39 : decode cX9_tells 39 = .ok (.lreturn, 1) := by decide +kernel
theorem dX9_tells_40 : decode cX9_tells 40 = .ok (.aload_n 0, 1) := by decide +kernel
theorem dX9_tells_41 : decode cX9_tells 41 = .ok (.iconst (-1), 1) := by decide +kernel
theorem dX9_tells_42 : decode cX9_tells 42 = .ok (.iconst (-1), 1) := by decide +kernel
theorem dX9_tells_43 : decode cX9_tells 43 = .ok (.invokevirtual 244, 3) := by decide +kernel
theorem dX9_tells_46 : decode cX9_tells 46 = .ok (.iload_n 2, 1) := by decide +kernel
theorem dX9_tells_47 : decode cX9_tells 47 = .ok (.aload_n 0, 1) := by decide +kernel
theorem dX9_tells_48 : decode cX9_tells 48 = .ok (.getfield 47, 3) := by decide +kernel
theorem dX9_tells_51 : decode cX9_tells 51 = .ok (.invokestatic 211, 3) := by decide +kernel
theorem dX9_tells_54 : decode cX9_tells 54 = .ok (.istore 4, 2) := by decide +kernel
theorem dX9_tells_56 : decode cX9_tells 56 = .ok (.aload_n 0, 1) := by decide +kernel
theorem dX9_tells_57 : decode cX9_tells 57 = .ok (.getfield 27, 3) := by decide +kernel
theorem dX9_tells_60 : decode cX9_tells 60 = .ok (.iload_n 1, 1) := by decide +kernel
theorem dX9_tells_61 : decode cX9_tells 61 = .ok (.aload_n 0, 1) := by decide +kernel
theorem dX9_tells_62 : decode cX9_tells 62 = .ok (.getfield 64, 3) := by decide +kernel
theorem dX9_tells_65 : decode cX9_tells 65 = .ok (.iload 4, 2) := by decide +kernel
theorem dX9_tells_67 : decode cX9_tells 67 = .ok (.invokevirtual 320, 3) := by decide +kernel
theorem dX9_tells_70 : decode cX9_tells 70 = .ok (.lstore 5, 2) := by decide +kernel
theorem dX9_tells_72 : decode cX9_tells 72 = .ok (.lconst 0, 1) := by decide +kernel
theorem dX9_tells_73 : decode cX9_tells 73 = .ok (.lstore 7, 2) := by decide +kernel
theorem dX9_tells_75 : decode cX9_tells 75 = .ok (.iconst 0, 1) := by decide +kernel
theorem dX9_tells_76 : decode cX9_tells 76 = .ok (.istore 9, 2) := by decide +kernel
theorem dX9_tells_78 : decode cX9_tells 78 = .ok (.iload 9, 2) := by decide +kernel
theorem dX9_tells_80 : decode cX9_tells 80 = .ok (.aload_n 0, 1) := by decide +kernel
theorem dX9_tells_81 : decode cX9_tells 81 = .ok (.getfield 27, 3) := by decide +kernel
theorem dX9_tells_84 : decode cX9_tells 84 = .ok (.getfield 111, 3) := by decide +kernel
theorem dX9_tells_87 : decode cX9_tells 87 = .ok (.getfield 279, 3) := by decide +kernel
theorem dX9_tells_90 : decode cX9_tells 90 = .ok (.if_icmp .ge 29, 3) := by decide +kernel
theorem dX9_tells_93 : decode cX9_tells 93 = .ok (.lload 7, 2) := by decide +kernel
theorem dX9_tells_95 : decode cX9_tells 95 = .ok (.aload_n 0, 1) := by decide +kernel
theorem dX9_tells_96 : decode cX9_tells 96 = .ok (.getfield 27, 3) := by decide +kernel
theorem dX9_tells_99 : decode cX9_tells 99 = .ok (.iload 9, 2) := by decide +kernel
theorem dX9_tells_101 : decode cX9_tells 101 = .ok (.aload_n 0, 1) := by decide +kernel
theorem dX9_tells_102 : decode cX9_tells 102 = .ok (.getfield 64, 3) := by decide +kernel
theorem dX9_tells_105 : decode cX9_tells 105 = .ok (.iload 4, 2) := by decide +kernel
theorem dX9_tells_107 : decode cX9_tells 107 = .ok (.invokevirtual 320, 3) := by decide +kernel
theorem dX9_tells_110 : decode cX9_tells 110 = .ok (.ladd, 1) := by decide +kernel
theorem dX9_tells_111 : decode cX9_tells 111 = .ok (.lstore 7, 2) := by decide +kernel
theorem dX9_tells_113 : decode cX9_tells 113 = .ok (.iinc 9 1, 3) := by decide +kernel
theorem dX9_tells_116 : decode cX9_tells 116 = .ok (.goto (-38), 3) := by decide +kernel
theorem dX9_tells_119 : decode cX9_tells 119 = .ok (.lload 5, 2) := by decide +kernel
theorem dX9_tells_121 : decode cX9_tells 121 = .ok (.lload 7, 2) := by decide +kernel
theorem dX9_tells_123 : decode cX9_tells 123 = .ok (.iload_n 3, 1) := by decide +kernel
theorem dX9_tells_124 : decode cX9_tells 124 = .ok (.ifCond .ne 7, 3) := by decide +kernel
theorem dX9_tells_127 : decode cX9_tells 127 = .ok (.iconst 1, 1) := by decide +kernel
theorem dX9_tells_128 : decode cX9_tells 128 = .ok (.goto 4, 3) := by decide +kernel
theorem dX9_tells_131 : decode cX9_tells 131 = .ok (.iconst 0, 1) := by decide +kernel
theorem dX9_tells_132 : decode cX9_tells 132 = .ok (.invokestatic 324, 3) := by decide +kernel
theorem dX9_tells_135 : decode cX9_tells 135 = .ok (.lreturn, 1) := by decide +kernel
theorem dX9_blind_0 : decode cX9_blind 0 = .ok (.iload_n 1, 1) := by decide +kernel
theorem dX9_blind_1 : decode cX9_blind 1 = .ok (.invokestatic 208, 3) := by decide +kernel
theorem dX9_blind_4 : decode cX9_blind 4 = .ok (.ifCond .eq 12, 3) := by decide +kernel
theorem dX9_blind_7 : decode cX9_blind 7 = .ok (.iload_n 2, 1) := by decide +kernel
theorem dX9_blind_8 : decode cX9_blind 8 = .ok (.iconst 0, 1) := by decide +kernel
theorem dX9_blind_9 : decode cX9_blind 9 = .ok (.iconst 3, 1) := by decide +kernel
theorem dX9_blind_10 : decode cX9_blind 10 = .ok (.invokestatic 154, 3) := by decide +kernel
theorem dX9_blind_13 : decode cX9_blind 13 = .ok (.ifCond .eq 5, 3) := by decide +kernel
theorem dX9_blind_16 : decode cX9_blind 16 = .ok (.iconst (-1), 1) := by decide +kernel
theorem dX9_blind_17 : decode cX9_blind 17 = .ok (.ireturn, 1) := by decide +kernel
theorem dX9_blind_18 : decode cX9_blind 18 = .ok (.iload_n 1, 1) := by decide +kernel
theorem dX9_blind_19 : decode cX9_blind 19 = .ok (.aload_n 0, 1) := by decide +kernel
theorem dX9_blind_20 : decode cX9_blind 20 = .ok (.getfield 47, 3) := by decide +kernel
theorem dX9_blind_23 : decode cX9_blind 23 = .ok (.invokestatic 211, 3) := by decide +kernel
theorem dX9_blind_26 : decode cX9_blind 26 = .ok (.istore_n 3, 1) := by decide +kernel
theorem dX9_blind_27 : decode cX9_blind 27 = .ok (.iload_n 2, 1) := by decide +kernel
theorem dX9_blind_28 : decode cX9_blind 28 = .ok (.iconst 2, 1) := by decide +kernel
theorem dX9_blind_29 : decode cX9_blind 29 = .ok (.if_icmp .ge 7, 3) := by decide +kernel
theorem dX9_blind_32 : decode cX9_blind 32 = .ok (.iconst 1, 1) := by decide +kernel
theorem dX9_blind_33 : decode cX9_blind 33 = .ok (.goto 4, 3) := by decide +kernel
theorem dX9_blind_36 : decode cX9_blind 36 = .ok (.iconst 0, 1) := by decide +kernel
theorem dX9_blind_37 : decode cX9_blind 37 = .ok (.istore 4, 2) := by decide +kernel
theorem dX9_blind_39 : decode cX9_blind 39 = .ok (.iconst 0, 1) := by decide +kernel
theorem dX9_blind_40 : decode cX9_blind 40 = .ok (.istore 5, 2) := by decide +kernel
theorem dX9_blind_42 : decode cX9_blind 42 = .ok (.iconst 0, 1) := by decide +kernel
theorem dX9_blind_43 : decode cX9_blind 43 = .ok (.istore 6, 2) := by decide +kernel
theorem dX9_blind_45 : decode cX9_blind 45 = .ok (.iconst 0, 1) := by decide +kernel
theorem dX9_blind_46 : decode cX9_blind 46 = .ok (.istore 7, 2) := by decide +kernel
theorem dX9_blind_48 : decode cX9_blind 48 = .ok (.iload 7, 2) := by decide +kernel
theorem dX9_blind_50 : decode cX9_blind 50 = .ok (.aload_n 0, 1) := by decide +kernel
theorem dX9_blind_51 : decode cX9_blind 51 = .ok (.getfield 27, 3) := by decide +kernel
theorem dX9_blind_54 : decode cX9_blind 54 = .ok (.getfield 328, 3) := by decide +kernel
theorem dX9_blind_57 : decode cX9_blind 57 = .ok (.if_icmp .ge 46, 3) := by decide +kernel
theorem dX9_blind_60 : decode cX9_blind 60 = .ok (.aload_n 0, 1) := by decide +kernel
theorem dX9_blind_61 : decode cX9_blind 61 = .ok (.getfield 27, 3) := by decide +kernel
theorem dX9_blind_64 : decode cX9_blind 64 = .ok (.iload 7, 2) := by decide +kernel
theorem dX9_blind_66 : decode cX9_blind 66 = .ok (.iconst 3, 1) := by decide +kernel
theorem dX9_blind_67 : decode cX9_blind 67 = .ok (.invokevirtual 331, 3) := by decide +kernel
theorem dX9_blind_70 : decode cX9_blind 70 = .ok (.iload 4, 2) := by decide +kernel
theorem dX9_blind_72 : decode cX9_blind 72 = .ok (.if_icmp .ne 25, 3) := by decide +kernel
theorem dX9_blind_75 : decode cX9_blind 75 = .ok (.iload 5, 2) := by decide +kernel
theorem dX9_blind_77 : decode cX9_blind 77 = .ok (.aload_n 0, 1) := by decide +kernel
theorem dX9_blind_78 : decode cX9_blind 78 = .ok (.getfield 27, 3) := by decide +kernel
theorem dX9_blind_81 : decode cX9_blind 81 = .ok (.iload 7, 2) := by decide +kernel
theorem dX9_blind_83 : decode cX9_blind 83 = .ok (.iconst 2, 1) := by decide +kernel
theorem dX9_blind_84 : decode cX9_blind 84 = .ok (.invokevirtual 331, 3) := by decide +kernel
theorem dX9_blind_87 : decode cX9_blind 87 = .ok (.iload_n 3, 1) := by decide +kernel
theorem dX9_blind_88 : decode cX9_blind 88 = .ok (.invokestatic 215, 3) := by decide +kernel
theorem dX9_blind_91 : decode cX9_blind 91 = .ok (.iadd, 1) := by decide +kernel
theorem dX9_blind_92 : decode cX9_blind 92 = .ok (.istore 5, 2) := by decide +kernel
theorem dX9_blind_94 : decode cX9_blind 94 = .ok (.iinc 6 1, 3) := by decide +kernel
theorem dX9_blind_97 : decode cX9_blind 97 = .ok (.iinc 7 1, 3) := by decide +kernel
theorem dX9_blind_100 : decode cX9_blind 100 = .ok (.goto (-52), 3) := by decide +kernel
theorem dX9_blind_103 : decode cX9_blind 103 = .ok (.iload_n 2, 1) := by decide +kernel
theorem dX9_blind_104 : decode cX9_blind 104 = .ok (.iconst 2, 1) := by decide +kernel
theorem dX9_blind_105 : decode cX9_blind 105 = .ok (.irem, 1) := by decide +kernel
theorem dX9_blind_106 : decode cX9_blind 106 = .ok (.ifCond .ne 8, 3) := by decide +kernel
theorem dX9_blind_109 : decode cX9_blind 109 = .ok (.iload 5, 2) := by decide +kernel
theorem dX9_blind_111 : decode cX9_blind 111 = .ok (.goto 5, 3) := by decide +kernel
theorem dX9_blind_114 : decode cX9_blind 114 = .ok (.iload 6, 2) := by decide +kernel
theorem dX9_blind_116 : decode cX9_blind 116 = .ok (.ireturn, 1) := by decide +kernel
theorem dX9_lean_0 : decode cX9_lean 0 = .ok (.iload_n 1, 1) := by decide +kernel
theorem dX9_lean_1 : decode cX9_lean 1 = .ok (.iconst 0, 1) := by decide +kernel
theorem dX9_lean_2 : decode cX9_lean 2 = .ok (.aload_n 0, 1) := by decide +kernel
theorem dX9_lean_3 : decode cX9_lean 3 = .ok (.getfield 27, 3) := by decide +kernel
theorem dX9_lean_6 : decode cX9_lean 6 = .ok (.getfield 114, 3) := by decide +kernel
theorem dX9_lean_9 : decode cX9_lean 9 = .ok (.getfield 279, 3) := by decide +kernel
theorem dX9_lean_12 : decode cX9_lean 12 = .ok (.iconst 1, 1) := by decide +kernel
theorem dX9_lean_13 : decode cX9_lean 13 = .ok (.isub, 1) := by decide +kernel
theorem dX9_lean_14 : decode cX9_lean 14 = .ok (.invokestatic 154, 3) := by decide +kernel
theorem dX9_lean_17 : decode cX9_lean 17 = .ok (.ifCond .ne 12, 3) := by decide +kernel
theorem dX9_lean_20 : decode cX9_lean 20 = .ok (.iload_n 2, 1) := by decide +kernel
theorem dX9_lean_21 : decode cX9_lean 21 = .ok (.iconst 0, 1) := by decide +kernel
theorem dX9_lean_22 : decode cX9_lean 22 = .ok (.iconst 1, 1) := by decide +kernel
theorem dX9_lean_23 : decode cX9_lean 23 = .ok (.invokestatic 154, 3) := by decide +kernel
theorem dX9_lean_26 : decode cX9_lean 26 = .ok (.ifCond .eq 6, 3) := by decide +kernel
theorem dX9_lean_29 : decode cX9_lean 29 = .ok (.ldc 175, 2) := by decide +kernel
theorem dX9_lean_31 : decode cX9_lean 31 = .ok (.ireturn, 1) := by decide +kernel
theorem dX9_lean_32 : decode cX9_lean 32 = .ok (.lconst 0, 1) := by decide +kernel
theorem dX9_lean_33 : decode cX9_lean 33 = .ok (.lstore_n 3, 1) := by decide +kernel
theorem dX9_lean_34 : decode cX9_lean 34 = .ok (.lconst 0, 1) := by decide +kernel
theorem dX9_lean_35 : decode cX9_lean 35 = .ok (.lstore 5, 2) := by decide +kernel
theorem dX9_lean_37 : decode cX9_lean 37 = .ok (.iconst 0, 1) := by decide +kernel
theorem dX9_lean_38 : decode cX9_lean 38 = .ok (.istore 7, 2) := by decide +kernel
theorem dX9_lean_40 : decode cX9_lean 40 = .ok (.iload 7, 2) := by decide +kernel
theorem dX9_lean_42 : decode cX9_lean 42 = .ok (.aload_n 0, 1) := by decide +kernel
theorem dX9_lean_43 : decode cX9_lean 43 = .ok (.getfield 27, 3) := by decide +kernel
theorem dX9_lean_46 : decode cX9_lean 46 = .ok (.getfield 328, 3) := by decide +kernel
theorem dX9_lean_49 : decode cX9_lean 49 = .ok (.if_icmp .ge 71, 3) := by decide +kernel
theorem dX9_lean_52 : decode cX9_lean 52 = .ok (.aload_n 0, 1) := by decide +kernel
theorem dX9_lean_53 : decode cX9_lean 53 = .ok (.getfield 54, 3) := by decide +kernel
theorem dX9_lean_56 : decode cX9_lean 56 = .ok (.aload_n 0, 1) := by decide +kernel
theorem dX9_lean_57 : decode cX9_lean 57 = .ok (.getfield 27, 3) := by decide +kernel
theorem dX9_lean_60 : decode cX9_lean 60 = .ok (.iload 7, 2) := by decide +kernel
theorem dX9_lean_62 : decode cX9_lean 62 = .ok (.iconst 1, 1) := by decide +kernel
theorem dX9_lean_63 : decode cX9_lean 63 = .ok (.invokevirtual 331, 3) := by decide +kernel
theorem dX9_lean_66 : decode cX9_lean 66 = .ok (.invokevirtual 224, 3) := by decide +kernel
theorem dX9_lean_69 : decode cX9_lean 69 = .ok (.istore 8, 2) := by decide +kernel
theorem dX9_lean_71 : decode cX9_lean 71 = .ok (.aload_n 0, 1) := by decide +kernel
theorem dX9_lean_72 : decode cX9_lean 72 = .ok (.getfield 27, 3) := by decide +kernel
theorem dX9_lean_75 : decode cX9_lean 75 = .ok (.iload 7, 2) := by decide +kernel
theorem dX9_lean_77 : decode cX9_lean 77 = .ok (.iconst 0, 1) := by decide +kernel
theorem dX9_lean_78 : decode cX9_lean 78 = .ok (.invokevirtual 331, 3) := by decide +kernel
theorem dX9_lean_81 : decode cX9_lean 81 = .ok (.iload_n 1, 1) := by decide +kernel
theorem dX9_lean_82 : decode cX9_lean 82 = .ok (.if_icmp .ne 32, 3) := by decide +kernel
theorem dX9_lean_85 : decode cX9_lean 85 = .ok (.iload 8, 2) := by decide +kernel
theorem dX9_lean_87 : decode cX9_lean 87 = .ok (.iconst (-1), 1) := by decide +kernel
theorem dX9_lean_88 : decode cX9_lean 88 = .ok (.if_icmp .eq 26, 3) := by decide +kernel
theorem dX9_lean_91 : decode cX9_lean 91 = .ok (.lload_n 3, 1) := by decide +kernel
theorem dX9_lean_92 : decode cX9_lean 92 = .ok (.aload_n 0, 1) := by decide +kernel
theorem dX9_lean_93 : decode cX9_lean 93 = .ok (.getfield 27, 3) := by decide +kernel
theorem dX9_lean_96 : decode cX9_lean 96 = .ok (.iload 7, 2) := by decide +kernel
theorem dX9_lean_98 : decode cX9_lean 98 = .ok (.iconst 2, 1) := by decide +kernel
theorem dX9_lean_99 : decode cX9_lean 99 = .ok (.invokevirtual 331, 3) := by decide +kernel
theorem dX9_lean_102 : decode cX9_lean 102 = .ok (.iload 8, 2) := by decide +kernel
theorem dX9_lean_104 : decode cX9_lean 104 = .ok (.isub, 1) := by decide +kernel
theorem dX9_lean_105 : decode cX9_lean 105 = .ok (.i2l, 1) := by decide +kernel
theorem dX9_lean_106 : decode cX9_lean 106 = .ok (.ladd, 1) := by decide +kernel
theorem dX9_lean_107 : decode cX9_lean 107 = .ok (.lstore_n 3, 1) := by decide +kernel
theorem dX9_lean_108 : decode cX9_lean 108 = .ok (.lload 5, 2) := by decide +kernel
theorem dX9_lean_110 : decode cX9_lean 110 = .ok (.lconst 1, 1) := by decide +kernel
theorem dX9_lean_111 : decode cX9_lean 111 = .ok (.ladd, 1) := by decide +kernel
theorem dX9_lean_112 : decode cX9_lean 112 = .ok (.lstore 5, 2) := by decide +kernel
theorem dX9_lean_114 : decode cX9_lean 114 = .ok (.iinc 7 1, 3) := by decide +kernel
theorem dX9_lean_117 : decode cX9_lean 117 = .ok (.goto (-77), 3) := by decide +kernel
theorem dX9_lean_120 : decode cX9_lean 120 = .ok (.lload_n 3, 1) := by decide +kernel
theorem dX9_lean_121 : decode cX9_lean 121 = .ok (.lload 5, 2) := by decide +kernel
theorem dX9_lean_123 : decode cX9_lean 123 = .ok (.iload_n 2, 1) := by decide +kernel
theorem dX9_lean_124 : decode cX9_lean 124 = .ok (.ifCond .ne 7, 3) := by decide +kernel
theorem dX9_lean_127 : decode cX9_lean 127 = .ok (.iconst 1, 1) := by decide +kernel
theorem dX9_lean_128 : decode cX9_lean 128 = .ok (.goto 4, 3) := by decide +kernel
theorem dX9_lean_131 : decode cX9_lean 131 = .ok (.iconst 0, 1) := by decide +kernel
theorem dX9_lean_132 : decode cX9_lean 132 = .ok (.invokestatic 324, 3) := by decide +kernel
theorem dX9_lean_135 : decode cX9_lean 135 = .ok (.l2i, 1) := by decide +kernel
theorem dX9_lean_136 : decode cX9_lean 136 = .ok (.ireturn, 1) := by decide +kernel
theorem dX9_count_0 : decode cX9_count 0 = .ok (.iload_n 1, 1) := by decide +kernel
theorem dX9_count_1 : decode cX9_count 1 = .ok (.tableswitch 197 0 13 #[71, 82, 93, 104, 112, 123, 131, 136, 147, 155, 163, 171, 176, 189], 71) := by decide +kernel
theorem dX9_count_72 : decode cX9_count 72 = .ok (.aload_n 0, 1) := by decide +kernel
theorem dX9_count_73 : decode cX9_count 73 = .ok (.getfield 27, 3) := by decide +kernel
theorem dX9_count_76 : decode cX9_count 76 = .ok (.getfield 98, 3) := by decide +kernel
theorem dX9_count_79 : decode cX9_count 79 = .ok (.getfield 279, 3) := by decide +kernel
theorem dX9_count_82 : decode cX9_count 82 = .ok (.ireturn, 1) := by decide +kernel
theorem dX9_count_83 : decode cX9_count 83 = .ok (.aload_n 0, 1) := by decide +kernel
theorem dX9_count_84 : decode cX9_count 84 = .ok (.getfield 27, 3) := by decide +kernel
theorem dX9_count_87 : decode cX9_count 87 = .ok (.getfield 108, 3) := by decide +kernel
theorem dX9_count_90 : decode cX9_count 90 = .ok (.getfield 279, 3) := by decide +kernel
theorem dX9_count_93 : decode cX9_count 93 = .ok (.ireturn, 1) := by decide +kernel
theorem dX9_count_94 : decode cX9_count 94 = .ok (.aload_n 0, 1) := by decide +kernel
theorem dX9_count_95 : decode cX9_count 95 = .ok (.getfield 27, 3) := by decide +kernel
theorem dX9_count_98 : decode cX9_count 98 = .ok (.getfield 111, 3) := by decide +kernel
theorem dX9_count_101 : decode cX9_count 101 = .ok (.getfield 279, 3) := by decide +kernel
theorem dX9_count_104 : decode cX9_count 104 = .ok (.ireturn, 1) := by decide +kernel
theorem dX9_count_105 : decode cX9_count 105 = .ok (.aload_n 0, 1) := by decide +kernel
theorem dX9_count_106 : decode cX9_count 106 = .ok (.getfield 27, 3) := by decide +kernel
theorem dX9_count_109 : decode cX9_count 109 = .ok (.getfield 328, 3) := by decide +kernel
theorem dX9_count_112 : decode cX9_count 112 = .ok (.ireturn, 1) := by decide +kernel
theorem dX9_count_113 : decode cX9_count 113 = .ok (.aload_n 0, 1) := by decide +kernel
theorem dX9_count_114 : decode cX9_count 114 = .ok (.getfield 27, 3) := by decide +kernel
theorem dX9_count_117 : decode cX9_count 117 = .ok (.getfield 114, 3) := by decide +kernel
theorem dX9_count_120 : decode cX9_count 120 = .ok (.getfield 279, 3) := by decide +kernel
theorem dX9_count_123 : decode cX9_count 123 = .ok (.ireturn, 1) := by decide +kernel
theorem dX9_count_124 : decode cX9_count 124 = .ok (.aload_n 0, 1) := by decide +kernel
theorem dX9_count_125 : decode cX9_count 125 = .ok (.getfield 37, 3) := by decide +kernel
theorem dX9_count_128 : decode cX9_count 128 = .ok (.getfield 83, 3) := by decide +kernel
theorem dX9_count_131 : decode cX9_count 131 = .ok (.ireturn, 1) := by decide +kernel
theorem dX9_count_132 : decode cX9_count 132 = .ok (.aload_n 0, 1) := by decide +kernel
theorem dX9_count_133 : decode cX9_count 133 = .ok (.invokevirtual 165, 3) := by decide +kernel
theorem dX9_count_136 : decode cX9_count 136 = .ok (.ireturn, 1) := by decide +kernel
theorem dX9_count_137 : decode cX9_count 137 = .ok (.aload_n 0, 1) := by decide +kernel
theorem dX9_count_138 : decode cX9_count 138 = .ok (.getfield 27, 3) := by decide +kernel
theorem dX9_count_141 : decode cX9_count 141 = .ok (.getfield 234, 3) := by decide +kernel
theorem dX9_count_144 : decode cX9_count 144 = .ok (.getfield 334, 3) := by decide +kernel
theorem dX9_count_147 : decode cX9_count 147 = .ok (.ireturn, 1) := by decide +kernel
theorem dX9_count_148 : decode cX9_count 148 = .ok (.aload_n 0, 1) := by decide +kernel
theorem dX9_count_149 : decode cX9_count 149 = .ok (.getfield 27, 3) := by decide +kernel
theorem dX9_count_152 : decode cX9_count 152 = .ok (.getfield 337, 3) := by decide +kernel
theorem dX9_count_155 : decode cX9_count 155 = .ok (.ireturn, 1) := by decide +kernel
theorem dX9_count_156 : decode cX9_count 156 = .ok (.aload_n 0, 1) := by decide +kernel
theorem dX9_count_157 : decode cX9_count 157 = .ok (.getfield 27, 3) := by decide +kernel
theorem dX9_count_160 : decode cX9_count 160 = .ok (.getfield 340, 3) := by decide +kernel
theorem dX9_count_163 : decode cX9_count 163 = .ok (.ireturn, 1) := by decide +kernel
theorem dX9_count_164 : decode cX9_count 164 = .ok (.aload_n 0, 1) := by decide +kernel
theorem dX9_count_165 : decode cX9_count 165 = .ok (.getfield 27, 3) := by decide +kernel
theorem dX9_count_168 : decode cX9_count 168 = .ok (.getfield 197, 3) := by decide +kernel
theorem dX9_count_171 : decode cX9_count 171 = .ok (.ireturn, 1) := by decide +kernel
theorem dX9_count_172 : decode cX9_count 172 = .ok (.aload_n 0, 1) := by decide +kernel
theorem dX9_count_173 : decode cX9_count 173 = .ok (.getfield 44, 3) := by decide +kernel
theorem dX9_count_176 : decode cX9_count 176 = .ok (.ireturn, 1) := by decide +kernel
theorem dX9_count_177 : decode cX9_count 177 = .ok (.aload_n 0, 1) := by decide +kernel
theorem dX9_count_178 : decode cX9_count 178 = .ok (.getfield 47, 3) := by decide +kernel
theorem dX9_count_181 : decode cX9_count 181 = .ok (.ifCond .eq 7, 3) := by decide +kernel
theorem dX9_count_184 : decode cX9_count 184 = .ok (.iconst 1, 1) := by decide +kernel
theorem dX9_count_185 : decode cX9_count 185 = .ok (.goto 4, 3) := by decide +kernel
theorem dX9_count_188 : decode cX9_count 188 = .ok (.iconst 0, 1) := by decide +kernel
theorem dX9_count_189 : decode cX9_count 189 = .ok (.ireturn, 1) := by decide +kernel
theorem dX9_count_190 : decode cX9_count 190 = .ok (.aload_n 0, 1) := by decide +kernel
theorem dX9_count_191 : decode cX9_count 191 = .ok (.getfield 54, 3) := by decide +kernel
theorem dX9_count_194 : decode cX9_count 194 = .ok (.invokevirtual 254, 3) := by decide +kernel
theorem dX9_count_197 : decode cX9_count 197 = .ok (.ireturn, 1) := by decide +kernel
theorem dX9_count_198 : decode cX9_count 198 = .ok (.iconst (-1), 1) := by decide +kernel
theorem dX9_count_199 : decode cX9_count 199 = .ok (.ireturn, 1) := by decide +kernel
theorem dX9_isBeyond_0 : decode cX9_isBeyond 0 = .ok (.iload_n 0, 1) := by decide +kernel
theorem dX9_isBeyond_1 : decode cX9_isBeyond 1 = .ok (.iload_n 1, 1) := by decide +kernel
theorem dX9_isBeyond_2 : decode cX9_isBeyond 2 = .ok (.if_icmp .lt 8, 3) := by decide +kernel
theorem dX9_isBeyond_5 : decode cX9_isBeyond 5 = .ok (.iload_n 0, 1) := by decide +kernel
theorem dX9_isBeyond_6 : decode cX9_isBeyond 6 = .ok (.iload_n 2, 1) := by decide +kernel
theorem dX9_isBeyond_7 : decode cX9_isBeyond 7 = .ok (.if_icmp .le 7, 3) := by decide +kernel
theorem dX9_isBeyond_10 : decode cX9_isBeyond 10 = .ok (.iconst 1, 1) := by decide +kernel
theorem dX9_isBeyond_11 : decode cX9_isBeyond 11 = .ok (.goto 4, 3) := by decide +kernel
theorem dX9_isBeyond_14 : decode cX9_isBeyond 14 = .ok (.iconst 0, 1) := by decide +kernel
theorem dX9_isBeyond_15 : decode cX9_isBeyond 15 = .ok (.ireturn, 1) := by decide +kernel
theorem dX9_isUnit_0 : decode cX9_isUnit 0 = .ok (.iload_n 0, 1) := by decide +kernel
theorem dX9_isUnit_1 : decode cX9_isUnit 1 = .ok (.bipush 100, 2) := by decide +kernel
theorem dX9_isUnit_3 : decode cX9_isUnit 3 = .ok (.if_icmp .lt 14, 3) := by decide +kernel
theorem dX9_isUnit_6 : decode cX9_isUnit 6 = .ok (.iload_n 0, 1) := by decide +kernel
theorem dX9_isUnit_7 : decode cX9_isUnit 7 = .ok (.sipush 9999, 3) := by decide +kernel
theorem dX9_isUnit_10 : decode cX9_isUnit 10 = .ok (.if_icmp .gt 7, 3) := by decide +kernel
theorem dX9_isUnit_13 : decode cX9_isUnit 13 = .ok (.iconst 1, 1) := by decide +kernel
theorem dX9_isUnit_14 : decode cX9_isUnit 14 = .ok (.goto 4, 3) := by decide +kernel
theorem dX9_isUnit_17 : decode cX9_isUnit 17 = .ok (.iconst 0, 1) := by decide +kernel
theorem dX9_isUnit_18 : decode cX9_isUnit 18 = .ok (.ireturn, 1) := by decide +kernel
theorem dX9_unitsOf_0 : decode cX9_unitsOf 0 = .ok (.iload_n 0, 1) := by decide +kernel
theorem dX9_unitsOf_1 : decode cX9_unitsOf 1 = .ok (.invokestatic 208, 3) := by decide +kernel
theorem dX9_unitsOf_4 : decode cX9_unitsOf 4 = .ok (.ifCond .eq 27, 3) := by decide +kernel
theorem dX9_unitsOf_7 : decode cX9_unitsOf 7 = .ok (.iload_n 1, 1) := by decide +kernel
theorem dX9_unitsOf_8 : decode cX9_unitsOf 8 = .ok (.invokestatic 208, 3) := by decide +kernel
theorem dX9_unitsOf_11 : decode cX9_unitsOf 11 = .ok (.ifCond .eq 20, 3) := by decide +kernel
theorem dX9_unitsOf_14 : decode cX9_unitsOf 14 = .ok (.iload_n 0, 1) := by decide +kernel
theorem dX9_unitsOf_15 : decode cX9_unitsOf 15 = .ok (.iload_n 1, 1) := by decide +kernel
theorem dX9_unitsOf_16 : decode cX9_unitsOf 16 = .ok (.if_icmp .gt 15, 3) := by decide +kernel
theorem dX9_unitsOf_19 : decode cX9_unitsOf 19 = .ok (.iload_n 2, 1) := by decide +kernel
theorem dX9_unitsOf_20 : decode cX9_unitsOf 20 = .ok (.iconst 1, 1) := by decide +kernel
theorem dX9_unitsOf_21 : decode cX9_unitsOf 21 = .ok (.if_icmp .lt 10, 3) := by decide +kernel
theorem dX9_unitsOf_24 : decode cX9_unitsOf 24 = .ok (.iload_n 2, 1) := by decide +kernel
theorem dX9_unitsOf_25 : decode cX9_unitsOf 25 = .ok (.sipush 9999, 3) := by decide +kernel
theorem dX9_unitsOf_28 : decode cX9_unitsOf 28 = .ok (.if_icmp .le 5, 3) := by decide +kernel
theorem dX9_unitsOf_31 : decode cX9_unitsOf 31 = .ok (.iconst 0, 1) := by decide +kernel
theorem dX9_unitsOf_32 : decode cX9_unitsOf 32 = .ok (.ireturn, 1) := by decide +kernel
theorem dX9_unitsOf_33 : decode cX9_unitsOf 33 = .ok (.iload_n 1, 1) := by decide +kernel
theorem dX9_unitsOf_34 : decode cX9_unitsOf 34 = .ok (.iload_n 0, 1) := by decide +kernel
theorem dX9_unitsOf_35 : decode cX9_unitsOf 35 = .ok (.isub, 1) := by decide +kernel
theorem dX9_unitsOf_36 : decode cX9_unitsOf 36 = .ok (.iload_n 2, 1) := by decide +kernel
theorem dX9_unitsOf_37 : decode cX9_unitsOf 37 = .ok (.idiv, 1) := by decide +kernel
theorem dX9_unitsOf_38 : decode cX9_unitsOf 38 = .ok (.iconst 1, 1) := by decide +kernel
theorem dX9_unitsOf_39 : decode cX9_unitsOf 39 = .ok (.iadd, 1) := by decide +kernel
theorem dX9_unitsOf_40 : decode cX9_unitsOf 40 = .ok (.ireturn, 1) := by decide +kernel
theorem dX9_placesOf_0 : decode cX9_placesOf 0 = .ok (.iload_n 1, 1) := by decide +kernel
theorem dX9_placesOf_1 : decode cX9_placesOf 1 = .ok (.ifCond .eq 9, 3) := by decide +kernel
theorem dX9_placesOf_4 : decode cX9_placesOf 4 = .ok (.iload_n 0, 1) := by decide +kernel
theorem dX9_placesOf_5 : decode cX9_placesOf 5 = .ok (.iconst 2, 1) := by decide +kernel
theorem dX9_placesOf_6 : decode cX9_placesOf 6 = .ok (.idiv, 1) := by decide +kernel
theorem dX9_placesOf_7 : decode cX9_placesOf 7 = .ok (.goto 4, 3) := by decide +kernel
theorem dX9_placesOf_10 : decode cX9_placesOf 10 = .ok (.iload_n 0, 1) := by decide +kernel
theorem dX9_placesOf_11 : decode cX9_placesOf 11 = .ok (.ireturn, 1) := by decide +kernel
theorem dX9_offBy_0 : decode cX9_offBy 0 = .ok (.iload_n 1, 1) := by decide +kernel
theorem dX9_offBy_1 : decode cX9_offBy 1 = .ok (.ifCond .gt 5, 3) := by decide +kernel
theorem dX9_offBy_4 : decode cX9_offBy 4 = .ok (.iconst 0, 1) := by decide +kernel
theorem dX9_offBy_5 : decode cX9_offBy 5 = .ok (.ireturn, 1) := by decide +kernel
theorem dX9_offBy_6 : decode cX9_offBy 6 = .ok (.iload_n 0, 1) := by decide +kernel
theorem dX9_offBy_7 : decode cX9_offBy 7 = .ok (.iload_n 1, 1) := by decide +kernel
theorem dX9_offBy_8 : decode cX9_offBy 8 = .ok (.irem, 1) := by decide +kernel
theorem dX9_offBy_9 : decode cX9_offBy 9 = .ok (.istore_n 2, 1) := by decide +kernel
theorem dX9_offBy_10 : decode cX9_offBy 10 = .ok (.iconst 2, 1) := by decide +kernel
theorem dX9_offBy_11 : decode cX9_offBy 11 = .ok (.iload_n 2, 1) := by decide +kernel
theorem dX9_offBy_12 : decode cX9_offBy 12 = .ok (.imul, 1) := by decide +kernel
theorem dX9_offBy_13 : decode cX9_offBy 13 = .ok (.iload_n 1, 1) := by decide +kernel
theorem dX9_offBy_14 : decode cX9_offBy 14 = .ok (.if_icmp .le 9, 3) := by decide +kernel
theorem dX9_offBy_17 : decode cX9_offBy 17 = .ok (.iload_n 1, 1) := by decide +kernel
theorem dX9_offBy_18 : decode cX9_offBy 18 = .ok (.iload_n 2, 1) := by decide +kernel
theorem dX9_offBy_19 : decode cX9_offBy 19 = .ok (.isub, 1) := by decide +kernel
theorem dX9_offBy_20 : decode cX9_offBy 20 = .ok (.goto 4, 3) := by decide +kernel
theorem dX9_offBy_23 : decode cX9_offBy 23 = .ok (.iload_n 2, 1) := by decide +kernel
theorem dX9_offBy_24 : decode cX9_offBy 24 = .ok (.ireturn, 1) := by decide +kernel
theorem dX9_timesBy_0 : decode cX9_timesBy 0 = .ok (.iload_n 1, 1) := by decide +kernel
theorem dX9_timesBy_1 : decode cX9_timesBy 1 = .ok (.ifCond .gt 5, 3) := by decide +kernel
theorem dX9_timesBy_4 : decode cX9_timesBy 4 = .ok (.iconst 0, 1) := by decide +kernel
theorem dX9_timesBy_5 : decode cX9_timesBy 5 = .ok (.ireturn, 1) := by decide +kernel
theorem dX9_timesBy_6 : decode cX9_timesBy 6 = .ok (.iload_n 0, 1) := by decide +kernel
theorem dX9_timesBy_7 : decode cX9_timesBy 7 = .ok (.iload_n 1, 1) := by decide +kernel
theorem dX9_timesBy_8 : decode cX9_timesBy 8 = .ok (.irem, 1) := by decide +kernel
theorem dX9_timesBy_9 : decode cX9_timesBy 9 = .ok (.istore_n 2, 1) := by decide +kernel
theorem dX9_timesBy_10 : decode cX9_timesBy 10 = .ok (.iconst 2, 1) := by decide +kernel
theorem dX9_timesBy_11 : decode cX9_timesBy 11 = .ok (.iload_n 2, 1) := by decide +kernel
theorem dX9_timesBy_12 : decode cX9_timesBy 12 = .ok (.imul, 1) := by decide +kernel
theorem dX9_timesBy_13 : decode cX9_timesBy 13 = .ok (.iload_n 1, 1) := by decide +kernel
theorem dX9_timesBy_14 : decode cX9_timesBy 14 = .ok (.if_icmp .le 11, 3) := by decide +kernel
theorem dX9_timesBy_17 : decode cX9_timesBy 17 = .ok (.iload_n 0, 1) := by decide +kernel
theorem dX9_timesBy_18 : decode cX9_timesBy 18 = .ok (.iload_n 1, 1) := by decide +kernel
theorem dX9_timesBy_19 : decode cX9_timesBy 19 = .ok (.idiv, 1) := by decide +kernel
theorem dX9_timesBy_20 : decode cX9_timesBy 20 = .ok (.iconst 1, 1) := by decide +kernel
theorem dX9_timesBy_21 : decode cX9_timesBy 21 = .ok (.iadd, 1) := by decide +kernel
theorem dX9_timesBy_22 : decode cX9_timesBy 22 = .ok (.goto 6, 3) := by decide +kernel
theorem dX9_timesBy_25 : decode cX9_timesBy 25 = .ok (.iload_n 0, 1) := by decide +kernel
theorem dX9_timesBy_26 : decode cX9_timesBy 26 = .ok (.iload_n 1, 1) := by decide +kernel
theorem dX9_timesBy_27 : decode cX9_timesBy 27 = .ok (.idiv, 1) := by decide +kernel
theorem dX9_timesBy_28 : decode cX9_timesBy 28 = .ok (.ireturn, 1) := by decide +kernel
theorem dX9_isShape_0 : decode cX9_isShape 0 = .ok (.iload_n 0, 1) := by decide +kernel
theorem dX9_isShape_1 : decode cX9_isShape 1 = .ok (.ifCond .eq 14, 3) := by decide +kernel
theorem dX9_isShape_4 : decode cX9_isShape 4 = .ok (.iload_n 0, 1) := by decide +kernel
theorem dX9_isShape_5 : decode cX9_isShape 5 = .ok (.iconst 4, 1) := by decide +kernel
theorem dX9_isShape_6 : decode cX9_isShape 6 = .ok (.if_icmp .lt 13, 3) := by decide +kernel
theorem dX9_isShape_9 : decode cX9_isShape 9 = .ok (.iload_n 0, 1) := by decide +kernel
theorem dX9_isShape_10 : decode cX9_isShape 10 = .ok (.bipush 12, 2) := by decide +kernel
theorem dX9_isShape_12 : decode cX9_isShape 12 = .ok (.if_icmp .ge 7, 3) := by decide +kernel
theorem dX9_isShape_15 : decode cX9_isShape 15 = .ok (.iconst 1, 1) := by decide +kernel
theorem dX9_isShape_16 : decode cX9_isShape 16 = .ok (.goto 4, 3) := by decide +kernel
theorem dX9_isShape_19 : decode cX9_isShape 19 = .ok (.iconst 0, 1) := by decide +kernel
theorem dX9_isShape_20 : decode cX9_isShape 20 = .ok (.ireturn, 1) := by decide +kernel
theorem dX9_stoneAt_0 : decode cX9_stoneAt 0 = .ok (.iload_n 0, 1) := by decide +kernel
theorem dX9_stoneAt_1 : decode cX9_stoneAt 1 = .ok (.bipush 10, 2) := by decide +kernel
theorem dX9_stoneAt_3 : decode cX9_stoneAt 3 = .ok (.imul, 1) := by decide +kernel
theorem dX9_stoneAt_4 : decode cX9_stoneAt 4 = .ok (.iload_n 1, 1) := by decide +kernel
theorem dX9_stoneAt_5 : decode cX9_stoneAt 5 = .ok (.iadd, 1) := by decide +kernel
theorem dX9_stoneAt_6 : decode cX9_stoneAt 6 = .ok (.bipush 6, 2) := by decide +kernel
theorem dX9_stoneAt_8 : decode cX9_stoneAt 8 = .ok (.imul, 1) := by decide +kernel
theorem dX9_stoneAt_9 : decode cX9_stoneAt 9 = .ok (.ireturn, 1) := by decide +kernel
theorem dX9_inLeastTerms_0 : decode cX9_inLeastTerms 0 = .ok (.lload_n 2, 1) := by decide +kernel
theorem dX9_inLeastTerms_1 : decode cX9_inLeastTerms 1 = .ok (.lconst 0, 1) := by decide +kernel
theorem dX9_inLeastTerms_2 : decode cX9_inLeastTerms 2 = .ok (.lcmp, 1) := by decide +kernel
theorem dX9_inLeastTerms_3 : decode cX9_inLeastTerms 3 = .ok (.ifCond .ne 5, 3) := by decide +kernel
theorem dX9_inLeastTerms_6 : decode cX9_inLeastTerms 6 = .ok (.lconst 0, 1) := by decide +kernel
theorem dX9_inLeastTerms_7 : decode cX9_inLeastTerms 7 = .ok (.lreturn, 1) := by decide +kernel
theorem dX9_inLeastTerms_8 : decode cX9_inLeastTerms 8 = .ok (.lload_n 0, 1) := by decide +kernel
theorem dX9_inLeastTerms_9 : decode cX9_inLeastTerms 9 = .ok (.invokestatic 343, 3) := by decide +kernel
theorem dX9_inLeastTerms_12 : decode cX9_inLeastTerms 12 = .ok (.lstore 5, 2) := by decide +kernel
theorem dX9_inLeastTerms_14 : decode cX9_inLeastTerms 14 = .ok (.lload_n 2, 1) := by decide +kernel
theorem dX9_inLeastTerms_15 : decode cX9_inLeastTerms 15 = .ok (.invokestatic 343, 3) := by decide +kernel
theorem dX9_inLeastTerms_18 : decode cX9_inLeastTerms 18 = .ok (.lstore 7, 2) := by decide +kernel
theorem dX9_inLeastTerms_20 : decode cX9_inLeastTerms 20 = .ok (.iconst 0, 1) := by decide +kernel
theorem dX9_inLeastTerms_21 : decode cX9_inLeastTerms 21 = .ok (.istore 9, 2) := by decide +kernel
theorem dX9_inLeastTerms_23 : decode cX9_inLeastTerms 23 = .ok (.iload 9, 2) := by decide +kernel
theorem dX9_inLeastTerms_25 : decode cX9_inLeastTerms 25 = .ok (.sipush 200, 3) := by decide +kernel
theorem dX9_inLeastTerms_28 : decode cX9_inLeastTerms 28 = .ok (.if_icmp .ge 31, 3) := by decide +kernel
theorem dX9_inLeastTerms_31 : decode cX9_inLeastTerms 31 = .ok (.lload 7, 2) := by decide +kernel
theorem dX9_inLeastTerms_33 : decode cX9_inLeastTerms 33 = .ok (.lconst 0, 1) := by decide +kernel
theorem dX9_inLeastTerms_34 : decode cX9_inLeastTerms 34 = .ok (.lcmp, 1) := by decide +kernel
theorem dX9_inLeastTerms_35 : decode cX9_inLeastTerms 35 = .ok (.ifCond .eq 24, 3) := by decide +kernel
theorem dX9_inLeastTerms_38 : decode cX9_inLeastTerms 38 = .ok (.lload 5, 2) := by decide +kernel
theorem dX9_inLeastTerms_40 : decode cX9_inLeastTerms 40 = .ok (.lload 7, 2) := by decide +kernel
theorem dX9_inLeastTerms_42 : decode cX9_inLeastTerms 42 = .ok (.lrem, 1) := by decide +kernel
theorem dX9_inLeastTerms_43 : decode cX9_inLeastTerms 43 = .ok (.lstore 10, 2) := by decide +kernel
theorem dX9_inLeastTerms_45 : decode cX9_inLeastTerms 45 = .ok (.lload 7, 2) := by decide +kernel
theorem dX9_inLeastTerms_47 : decode cX9_inLeastTerms 47 = .ok (.lstore 5, 2) := by decide +kernel
theorem dX9_inLeastTerms_49 : decode cX9_inLeastTerms 49 = .ok (.lload 10, 2) := by decide +kernel
theorem dX9_inLeastTerms_51 : decode cX9_inLeastTerms 51 = .ok (.lstore 7, 2) := by decide +kernel
theorem dX9_inLeastTerms_53 : decode cX9_inLeastTerms 53 = .ok (.iinc 9 1, 3) := by decide +kernel
theorem dX9_inLeastTerms_56 : decode cX9_inLeastTerms 56 = .ok (.goto (-33), 3) := by decide +kernel
theorem dX9_inLeastTerms_59 : decode cX9_inLeastTerms 59 = .ok (.iload 4, 2) := by decide +kernel
theorem dX9_inLeastTerms_61 : decode cX9_inLeastTerms 61 = .ok (.ifCond .eq 7, 3) := by decide +kernel
theorem dX9_inLeastTerms_64 : decode cX9_inLeastTerms 64 = .ok (.lload_n 0, 1) := by decide +kernel
theorem dX9_inLeastTerms_65 : decode cX9_inLeastTerms 65 = .ok (.goto 4, 3) := by decide +kernel
theorem dX9_inLeastTerms_68 : decode cX9_inLeastTerms 68 = .ok (.lload_n 2, 1) := by decide +kernel
theorem dX9_inLeastTerms_69 : decode cX9_inLeastTerms 69 = .ok (.lstore 9, 2) := by decide +kernel
theorem dX9_inLeastTerms_71 : decode cX9_inLeastTerms 71 = .ok (.lload 5, 2) := by decide +kernel
theorem dX9_inLeastTerms_73 : decode cX9_inLeastTerms 73 = .ok (.lconst 0, 1) := by decide +kernel
theorem dX9_inLeastTerms_74 : decode cX9_inLeastTerms 74 = .ok (.lcmp, 1) := by decide +kernel
theorem dX9_inLeastTerms_75 : decode cX9_inLeastTerms 75 = .ok (.ifCond .ne 8, 3) := by decide +kernel
theorem dX9_inLeastTerms_78 : decode cX9_inLeastTerms 78 = .ok (.lload 9, 2) := by decide +kernel
theorem dX9_inLeastTerms_80 : decode cX9_inLeastTerms 80 = .ok (.goto 8, 3) := by decide +kernel
theorem dX9_inLeastTerms_83 : decode cX9_inLeastTerms 83 = .ok (.lload 9, 2) := by decide +kernel
theorem dX9_inLeastTerms_85 : decode cX9_inLeastTerms 85 = .ok (.lload 5, 2) := by decide +kernel
theorem dX9_inLeastTerms_87 : decode cX9_inLeastTerms 87 = .ok (.ldiv, 1) := by decide +kernel
theorem dX9_inLeastTerms_88 : decode cX9_inLeastTerms 88 = .ok (.lreturn, 1) := by decide +kernel
theorem dX9_rootOf_0 : decode cX9_rootOf 0 = .ok (.lload_n 0, 1) := by decide +kernel
theorem dX9_rootOf_1 : decode cX9_rootOf 1 = .ok (.lconst 0, 1) := by decide +kernel
theorem dX9_rootOf_2 : decode cX9_rootOf 2 = .ok (.lcmp, 1) := by decide +kernel
theorem dX9_rootOf_3 : decode cX9_rootOf 3 = .ok (.ifCond .gt 5, 3) := by decide +kernel
theorem dX9_rootOf_6 : decode cX9_rootOf 6 = .ok (.lconst 0, 1) := by decide +kernel
theorem dX9_rootOf_7 : decode cX9_rootOf 7 = .ok (.lreturn, 1) := by decide +kernel
theorem dX9_rootOf_8 : decode cX9_rootOf 8 = .ok (.lload_n 2, 1) := by decide +kernel
theorem dX9_rootOf_9 : decode cX9_rootOf 9 = .ok (.lconst 0, 1) := by decide +kernel
theorem dX9_rootOf_10 : decode cX9_rootOf 10 = .ok (.lcmp, 1) := by decide +kernel
theorem dX9_rootOf_11 : decode cX9_rootOf 11 = .ok (.ifCond .le 7, 3) := by decide +kernel
theorem dX9_rootOf_14 : decode cX9_rootOf 14 = .ok (.lload_n 2, 1) := by decide +kernel
theorem dX9_rootOf_15 : decode cX9_rootOf 15 = .ok (.goto 4, 3) := by decide +kernel
theorem dX9_rootOf_18 : decode cX9_rootOf 18 = .ok (.lconst 1, 1) := by decide +kernel
theorem dX9_rootOf_19 : decode cX9_rootOf 19 = .ok (.lstore 4, 2) := by decide +kernel
theorem dX9_rootOf_21 : decode cX9_rootOf 21 = .ok (.lload 4, 2) := by decide +kernel
theorem dX9_rootOf_23 : decode cX9_rootOf 23 = .ok (.lload_n 0, 1) := by decide +kernel
theorem dX9_rootOf_24 : decode cX9_rootOf 24 = .ok (.lload 4, 2) := by decide +kernel
theorem dX9_rootOf_26 : decode cX9_rootOf 26 = .ok (.ldiv, 1) := by decide +kernel
theorem dX9_rootOf_27 : decode cX9_rootOf 27 = .ok (.ladd, 1) := by decide +kernel
theorem dX9_rootOf_28 : decode cX9_rootOf 28 = .ok (.ldc2_w 347, 3) := by decide +kernel
theorem dX9_rootOf_31 : decode cX9_rootOf 31 = .ok (.ldiv, 1) := by decide +kernel
theorem dX9_rootOf_32 : decode cX9_rootOf 32 = .ok (.lstore 4, 2) := by decide +kernel
theorem dX9_rootOf_34 : decode cX9_rootOf 34 = .ok (.iconst 0, 1) := by decide +kernel
theorem dX9_rootOf_35 : decode cX9_rootOf 35 = .ok (.istore 6, 2) := by decide +kernel
theorem dX9_rootOf_37 : decode cX9_rootOf 37 = .ok (.iload 6, 2) := by decide +kernel
theorem dX9_rootOf_39 : decode cX9_rootOf 39 = .ok (.sipush 200, 3) := by decide +kernel
theorem dX9_rootOf_42 : decode cX9_rootOf 42 = .ok (.if_icmp .ge 44, 3) := by decide +kernel
theorem dX9_rootOf_45 : decode cX9_rootOf 45 = .ok (.lload 4, 2) := by decide +kernel
theorem dX9_rootOf_47 : decode cX9_rootOf 47 = .ok (.lconst 0, 1) := by decide +kernel
theorem dX9_rootOf_48 : decode cX9_rootOf 48 = .ok (.lcmp, 1) := by decide +kernel
theorem dX9_rootOf_49 : decode cX9_rootOf 49 = .ok (.ifCond .le 37, 3) := by decide +kernel
theorem dX9_rootOf_52 : decode cX9_rootOf 52 = .ok (.lload 4, 2) := by decide +kernel
theorem dX9_rootOf_54 : decode cX9_rootOf 54 = .ok (.lload_n 0, 1) := by decide +kernel
theorem dX9_rootOf_55 : decode cX9_rootOf 55 = .ok (.lload 4, 2) := by decide +kernel
theorem dX9_rootOf_57 : decode cX9_rootOf 57 = .ok (.ldiv, 1) := by decide +kernel
theorem dX9_rootOf_58 : decode cX9_rootOf 58 = .ok (.ladd, 1) := by decide +kernel
theorem dX9_rootOf_59 : decode cX9_rootOf 59 = .ok (.ldc2_w 347, 3) := by decide +kernel
theorem dX9_rootOf_62 : decode cX9_rootOf 62 = .ok (.ldiv, 1) := by decide +kernel
theorem dX9_rootOf_63 : decode cX9_rootOf 63 = .ok (.lstore 7, 2) := by decide +kernel
theorem dX9_rootOf_65 : decode cX9_rootOf 65 = .ok (.lload 7, 2) := by decide +kernel
theorem dX9_rootOf_67 : decode cX9_rootOf 67 = .ok (.lload 4, 2) := by decide +kernel
theorem dX9_rootOf_69 : decode cX9_rootOf 69 = .ok (.lcmp, 1) := by decide +kernel
theorem dX9_rootOf_70 : decode cX9_rootOf 70 = .ok (.ifCond .lt 6, 3) := by decide +kernel
theorem dX9_rootOf_73 : decode cX9_rootOf 73 = .ok (.lload 4, 2) := by decide +kernel
theorem dX9_rootOf_75 : decode cX9_rootOf 75 = .ok (.lreturn, 1) := by decide +kernel
theorem dX9_rootOf_76 : decode cX9_rootOf 76 = .ok (.lload 7, 2) := by decide +kernel
theorem dX9_rootOf_78 : decode cX9_rootOf 78 = .ok (.lstore 4, 2) := by decide +kernel
theorem dX9_rootOf_80 : decode cX9_rootOf 80 = .ok (.iinc 6 1, 3) := by decide +kernel
theorem dX9_rootOf_83 : decode cX9_rootOf 83 = .ok (.goto (-46), 3) := by decide +kernel
theorem dX9_rootOf_86 : decode cX9_rootOf 86 = .ok (.lload 4, 2) := by decide +kernel
theorem dX9_rootOf_88 : decode cX9_rootOf 88 = .ok (.lreturn, 1) := by decide +kernel
theorem dX10_init_0 : decode cX10_init 0 = .ok (.aload_n 0, 1) := by decide +kernel
theorem dX10_init_1 : decode cX10_init 1 = .ok (.invokespecial 3, 3) := by decide +kernel
theorem dX10_init_4 : decode cX10_init 4 = .ok (.aload_n 0, 1) := by decide +kernel
theorem dX10_init_5 : decode cX10_init 5 = .ok (.sipush 900, 3) := by decide +kernel
theorem dX10_init_8 : decode cX10_init 8 = .ok (.newarray .int, 2) := by decide +kernel
theorem dX10_init_10 : decode cX10_init 10 = .ok (.putfield 9, 3) := by decide +kernel
theorem dX10_init_13 : decode cX10_init 13 = .ok (.aload_n 0, 1) := by decide +kernel
theorem dX10_init_14 : decode cX10_init 14 = .ok (.bipush 8, 2) := by decide +kernel
theorem dX10_init_16 : decode cX10_init 16 = .ok (.newarray .int, 2) := by decide +kernel
theorem dX10_init_18 : decode cX10_init 18 = .ok (.putfield 15, 3) := by decide +kernel
theorem dX10_init_21 : decode cX10_init 21 = .ok (.aload_n 0, 1) := by decide +kernel
theorem dX10_init_22 : decode cX10_init 22 = .ok (.bipush 16, 2) := by decide +kernel
theorem dX10_init_24 : decode cX10_init 24 = .ok (.newarray .int, 2) := by decide +kernel
theorem dX10_init_26 : decode cX10_init 26 = .ok (.putfield 18, 3) := by decide +kernel
theorem dX10_init_29 : decode cX10_init 29 = .ok (.aload_n 0, 1) := by decide +kernel
theorem dX10_init_30 : decode cX10_init 30 = .ok (.bipush 16, 2) := by decide +kernel
theorem dX10_init_32 : decode cX10_init 32 = .ok (.newarray .int, 2) := by decide +kernel
theorem dX10_init_34 : decode cX10_init 34 = .ok (.putfield 21, 3) := by decide +kernel
theorem dX10_init_37 : decode cX10_init 37 = .ok (.aload_n 0, 1) := by decide +kernel
theorem dX10_init_38 : decode cX10_init 38 = .ok (.bipush 16, 2) := by decide +kernel
theorem dX10_init_40 : decode cX10_init 40 = .ok (.newarray .int, 2) := by decide +kernel
theorem dX10_init_42 : decode cX10_init 42 = .ok (.putfield 24, 3) := by decide +kernel
theorem dX10_init_45 : decode cX10_init 45 = .ok (.aload_n 0, 1) := by decide +kernel
theorem dX10_init_46 : decode cX10_init 46 = .ok (.sipush 160, 3) := by decide +kernel
theorem dX10_init_49 : decode cX10_init 49 = .ok (.newarray .int, 2) := by decide +kernel
theorem dX10_init_51 : decode cX10_init 51 = .ok (.putfield 27, 3) := by decide +kernel
theorem dX10_init_54 : decode cX10_init 54 = .ok (.aload_n 0, 1) := by decide +kernel
theorem dX10_init_55 : decode cX10_init 55 = .ok (.sipush 160, 3) := by decide +kernel
theorem dX10_init_58 : decode cX10_init 58 = .ok (.newarray .int, 2) := by decide +kernel
theorem dX10_init_60 : decode cX10_init 60 = .ok (.putfield 30, 3) := by decide +kernel
theorem dX10_init_63 : decode cX10_init 63 = .ok (.aload_n 0, 1) := by decide +kernel
theorem dX10_init_64 : decode cX10_init 64 = .ok (.sipush 160, 3) := by decide +kernel
theorem dX10_init_67 : decode cX10_init 67 = .ok (.newarray .int, 2) := by decide +kernel
theorem dX10_init_69 : decode cX10_init 69 = .ok (.putfield 33, 3) := by decide +kernel
theorem dX10_init_72 : decode cX10_init 72 = .ok (.aload_n 0, 1) := by decide +kernel
theorem dX10_init_73 : decode cX10_init 73 = .ok (.sipush 160, 3) := by decide +kernel
theorem dX10_init_76 : decode cX10_init 76 = .ok (.newarray .int, 2) := by decide +kernel
theorem dX10_init_78 : decode cX10_init 78 = .ok (.putfield 36, 3) := by decide +kernel
theorem dX10_init_81 : decode cX10_init 81 = .ok (.aload_n 0, 1) := by decide +kernel
theorem dX10_init_82 : decode cX10_init 82 = .ok (.sipush 160, 3) := by decide +kernel
theorem dX10_init_85 : decode cX10_init 85 = .ok (.newarray .boolean, 2) := by decide +kernel
theorem dX10_init_87 : decode cX10_init 87 = .ok (.putfield 39, 3) := by decide +kernel
theorem dX10_init_90 : decode cX10_init 90 = .ok (.aload_n 0, 1) := by decide +kernel
theorem dX10_init_91 : decode cX10_init 91 = .ok (.sipush 160, 3) := by decide +kernel
theorem dX10_init_94 : decode cX10_init 94 = .ok (.newarray .boolean, 2) := by decide +kernel
theorem dX10_init_96 : decode cX10_init 96 = .ok (.putfield 43, 3) := by decide +kernel
theorem dX10_init_99 : decode cX10_init 99 = .ok (.aload_n 0, 1) := by decide +kernel
theorem dX10_init_100 : decode cX10_init 100 = .ok (.bipush 10, 2) := by decide +kernel
theorem dX10_init_102 : decode cX10_init 102 = .ok (.newarray .int, 2) := by decide +kernel
theorem dX10_init_104 : decode cX10_init 104 = .ok (.putfield 46, 3) := by decide +kernel
theorem dX10_init_107 : decode cX10_init 107 = .ok (.aload_n 0, 1) := by decide +kernel
theorem dX10_init_108 : decode cX10_init 108 = .ok (.bipush 10, 2) := by decide +kernel
theorem dX10_init_110 : decode cX10_init 110 = .ok (.newarray .int, 2) := by decide +kernel
theorem dX10_init_112 : decode cX10_init 112 = .ok (.putfield 49, 3) := by decide +kernel
theorem dX10_init_115 : decode cX10_init 115 = .ok (.aload_n 0, 1) := by decide +kernel
theorem dX10_init_116 : decode cX10_init 116 = .ok (.bipush 60, 2) := by decide +kernel
theorem dX10_init_118 : decode cX10_init 118 = .ok (.newarray .int, 2) := by decide +kernel
theorem dX10_init_120 : decode cX10_init 120 = .ok (.putfield 52, 3) := by decide +kernel
theorem dX10_init_123 : decode cX10_init 123 = .ok (.aload_n 0, 1) := by decide +kernel
theorem dX10_init_124 : decode cX10_init 124 = .ok (.bipush 12, 2) := by decide +kernel
theorem dX10_init_126 : decode cX10_init 126 = .ok (.newarray .int, 2) := by decide +kernel
theorem dX10_init_128 : decode cX10_init 128 = .ok (.putfield 55, 3) := by decide +kernel
theorem dX10_init_131 : decode cX10_init 131 = .ok (.aload_n 0, 1) := by decide +kernel
theorem dX10_init_132 : decode cX10_init 132 = .ok (.bipush 40, 2) := by decide +kernel
theorem dX10_init_134 : decode cX10_init 134 = .ok (.newarray .int, 2) := by decide +kernel
theorem dX10_init_136 : decode cX10_init 136 = .ok (.putfield 58, 3) := by decide +kernel
theorem dX10_init_139 : decode cX10_init 139 = .ok (.aload_n 0, 1) := by decide +kernel
theorem dX10_init_140 : decode cX10_init 140 = .ok (.bipush 40, 2) := by decide +kernel
theorem dX10_init_142 : decode cX10_init 142 = .ok (.newarray .int, 2) := by decide +kernel
theorem dX10_init_144 : decode cX10_init 144 = .ok (.putfield 61, 3) := by decide +kernel
theorem dX10_init_147 : decode cX10_init 147 = .ok (.aload_n 0, 1) := by decide +kernel
theorem dX10_init_148 : decode cX10_init 148 = .ok (.bipush 40, 2) := by decide +kernel
theorem dX10_init_150 : decode cX10_init 150 = .ok (.newarray .int, 2) := by decide +kernel
theorem dX10_init_152 : decode cX10_init 152 = .ok (.putfield 64, 3) := by decide +kernel
theorem dX10_init_155 : decode cX10_init 155 = .ok (.aload_n 0, 1) := by decide +kernel
theorem dX10_init_156 : decode cX10_init 156 = .ok (.bipush 40, 2) := by decide +kernel
theorem dX10_init_158 : decode cX10_init 158 = .ok (.newarray .boolean, 2) := by decide +kernel
theorem dX10_init_160 : decode cX10_init 160 = .ok (.putfield 67, 3) := by decide +kernel
theorem dX10_init_163 : decode cX10_init 163 = .ok (.aload_n 0, 1) := by decide +kernel
theorem dX10_init_164 : decode cX10_init 164 = .ok (.sipush 128, 3) := by decide +kernel
theorem dX10_init_167 : decode cX10_init 167 = .ok (.newarray .int, 2) := by decide +kernel
theorem dX10_init_169 : decode cX10_init 169 = .ok (.putfield 70, 3) := by decide +kernel
theorem dX10_init_172 : decode cX10_init 172 = .ok (.aload_n 0, 1) := by decide +kernel
theorem dX10_init_173 : decode cX10_init 173 = .ok (.sipush 128, 3) := by decide +kernel
theorem dX10_init_176 : decode cX10_init 176 = .ok (.newarray .int, 2) := by decide +kernel
theorem dX10_init_178 : decode cX10_init 178 = .ok (.putfield 73, 3) := by decide +kernel
theorem dX10_init_181 : decode cX10_init 181 = .ok (.aload_n 0, 1) := by decide +kernel
theorem dX10_init_182 : decode cX10_init 182 = .ok (.iconst 4, 1) := by decide +kernel
theorem dX10_init_183 : decode cX10_init 183 = .ok (.putfield 76, 3) := by decide +kernel
theorem dX10_init_186 : decode cX10_init 186 = .ok (.aload_n 0, 1) := by decide +kernel
theorem dX10_init_187 : decode cX10_init 187 = .ok (.bipush 6, 2) := by decide +kernel
theorem dX10_init_189 : decode cX10_init 189 = .ok (.putfield 80, 3) := by decide +kernel
theorem dX10_init_192 : decode cX10_init 192 = .ok (.aload_n 0, 1) := by decide +kernel
theorem dX10_init_193 : decode cX10_init 193 = .ok (.sipush 300, 3) := by decide +kernel
theorem dX10_init_196 : decode cX10_init 196 = .ok (.putfield 83, 3) := by decide +kernel
theorem dX10_init_199 : decode cX10_init 199 = .ok (.aload_n 0, 1) := by decide +kernel
theorem dX10_init_200 : decode cX10_init 200 = .ok (.iconst (-1), 1) := by decide +kernel
theorem dX10_init_201 : decode cX10_init 201 = .ok (.putfield 86, 3) := by decide +kernel
theorem dX10_init_204 : decode cX10_init 204 = .ok (.aload_n 0, 1) := by decide +kernel
theorem dX10_init_205 : decode cX10_init 205 = .ok (.iconst (-1), 1) := by decide +kernel
theorem dX10_init_206 : decode cX10_init 206 = .ok (.putfield 89, 3) := by decide +kernel
theorem dX10_init_209 : decode cX10_init 209 = .ok (.aload_n 0, 1) := by decide +kernel
theorem dX10_init_210 : decode cX10_init 210 = .ok (.bipush 60, 2) := by decide +kernel
theorem dX10_init_212 : decode cX10_init 212 = .ok (.newarray .int, 2) := by decide +kernel
theorem dX10_init_214 : decode cX10_init 214 = .ok (.putfield 92, 3) := by decide +kernel
theorem dX10_init_217 : decode cX10_init 217 = .ok (.aload_n 0, 1) := by decide +kernel
theorem dX10_init_218 : decode cX10_init 218 = .ok (.bipush 60, 2) := by decide +kernel
theorem dX10_init_220 : decode cX10_init 220 = .ok (.newarray .int, 2) := by decide +kernel
theorem dX10_init_222 : decode cX10_init 222 = .ok (.putfield 95, 3) := by decide +kernel
theorem dX10_init_225 : decode cX10_init 225 = .ok (.aload_n 0, 1) := by decide +kernel
theorem dX10_init_226 : decode cX10_init 226 = .ok (.bipush 60, 2) := by decide +kernel
theorem dX10_init_228 : decode cX10_init 228 = .ok (.newarray .int, 2) := by decide +kernel
theorem dX10_init_230 : decode cX10_init 230 = .ok (.putfield 98, 3) := by decide +kernel
theorem dX10_init_233 : decode cX10_init 233 = .ok (.aload_n 0, 1) := by decide +kernel
theorem dX10_init_234 : decode cX10_init 234 = .ok (.bipush 60, 2) := by decide +kernel
theorem dX10_init_236 : decode cX10_init 236 = .ok (.newarray .int, 2) := by decide +kernel
theorem dX10_init_238 : decode cX10_init 238 = .ok (.putfield 101, 3) := by decide +kernel
theorem dX10_init_241 : decode cX10_init 241 = .ok (.aload_n 0, 1) := by decide +kernel
theorem dX10_init_242 : decode cX10_init 242 = .ok (.bipush 60, 2) := by decide +kernel
theorem dX10_init_244 : decode cX10_init 244 = .ok (.newarray .boolean, 2) := by decide +kernel
theorem dX10_init_246 : decode cX10_init 246 = .ok (.putfield 104, 3) := by decide +kernel
theorem dX10_init_249 : decode cX10_init 249 = .ok (.aload_n 0, 1) := by decide +kernel
theorem dX10_init_250 : decode cX10_init 250 = .ok (.bipush 80, 2) := by decide +kernel
theorem dX10_init_252 : decode cX10_init 252 = .ok (.newarray .int, 2) := by decide +kernel
theorem dX10_init_254 : decode cX10_init 254 = .ok (.putfield 107, 3) := by decide +kernel
theorem dX10_init_257 : decode cX10_init 257 = .ok (.aload_n 0, 1) := by decide +kernel
theorem dX10_init_258 : decode cX10_init 258 = .ok (.bipush 80, 2) := by decide +kernel
theorem dX10_init_260 : decode cX10_init 260 = .ok (.newarray .int, 2) := by decide +kernel
theorem dX10_init_262 : decode cX10_init 262 = .ok (.putfield 110, 3) := by decide +kernel
theorem dX10_init_265 : decode cX10_init 265 = .ok (.aload_n 0, 1) := by decide +kernel
theorem dX10_init_266 : decode cX10_init 266 = .ok (.bipush 80, 2) := by decide +kernel
theorem dX10_init_268 : decode cX10_init 268 = .ok (.newarray .boolean, 2) := by decide +kernel
theorem dX10_init_270 : decode cX10_init 270 = .ok (.putfield 113, 3) := by decide +kernel
theorem dX10_init_273 : decode cX10_init 273 = .ok (.aload_n 0, 1) := by decide +kernel
theorem dX10_init_274 : decode cX10_init 274 = .ok (.bipush 10, 2) := by decide +kernel
theorem dX10_init_276 : decode cX10_init 276 = .ok (.newarray .int, 2) := by decide +kernel
theorem dX10_init_278 : decode cX10_init 278 = .ok (.putfield 116, 3) := by decide +kernel
theorem dX10_init_281 : decode cX10_init 281 = .ok (.aload_n 0, 1) := by decide +kernel
theorem dX10_init_282 : decode cX10_init 282 = .ok (.bipush 10, 2) := by decide +kernel
theorem dX10_init_284 : decode cX10_init 284 = .ok (.newarray .int, 2) := by decide +kernel
theorem dX10_init_286 : decode cX10_init 286 = .ok (.putfield 119, 3) := by decide +kernel
theorem dX10_init_289 : decode cX10_init 289 = .ok (.aload_n 0, 1) := by decide +kernel
theorem dX10_init_290 : decode cX10_init 290 = .ok (.bipush 10, 2) := by decide +kernel
theorem dX10_init_292 : decode cX10_init 292 = .ok (.newarray .int, 2) := by decide +kernel
theorem dX10_init_294 : decode cX10_init 294 = .ok (.putfield 122, 3) := by decide +kernel
theorem dX10_init_297 : decode cX10_init 297 = .ok (.aload_n 0, 1) := by decide +kernel
theorem dX10_init_298 : decode cX10_init 298 = .ok (.bipush 96, 2) := by decide +kernel
theorem dX10_init_300 : decode cX10_init 300 = .ok (.newarray .int, 2) := by decide +kernel
theorem dX10_init_302 : decode cX10_init 302 = .ok (.putfield 125, 3) := by decide +kernel
theorem dX10_init_305 : decode cX10_init 305 = .ok (.aload_n 0, 1) := by decide +kernel
theorem dX10_init_306 : decode cX10_init 306 = .ok (.bipush 96, 2) := by decide +kernel
theorem dX10_init_308 : decode cX10_init 308 = .ok (.newarray .int, 2) := by decide +kernel
theorem dX10_init_310 : decode cX10_init 310 = .ok (.putfield 128, 3) := by decide +kernel
theorem dX10_init_313 : decode cX10_init 313 = .ok (.aload_n 0, 1) := by decide +kernel
theorem dX10_init_314 : decode cX10_init 314 = .ok (.bipush 8, 2) := by decide +kernel
theorem dX10_init_316 : decode cX10_init 316 = .ok (.newarray .int, 2) := by decide +kernel
theorem dX10_init_318 : decode cX10_init 318 = .ok (.putfield 131, 3) := by decide +kernel
theorem dX10_init_321 : decode cX10_init 321 = .ok (.aload_n 0, 1) := by decide +kernel
theorem dX10_init_322 : decode cX10_init 322 = .ok (.bipush 8, 2) := by decide +kernel
theorem dX10_init_324 : decode cX10_init 324 = .ok (.newarray .int, 2) := by decide +kernel
theorem dX10_init_326 : decode cX10_init 326 = .ok (.putfield 134, 3) := by decide +kernel
theorem dX10_init_329 : decode cX10_init 329 = .ok (.aload_n 0, 1) := by decide +kernel
theorem dX10_init_330 : decode cX10_init 330 = .ok (.bipush 64, 2) := by decide +kernel
theorem dX10_init_332 : decode cX10_init 332 = .ok (.newarray .long, 2) := by decide +kernel
theorem dX10_init_334 : decode cX10_init 334 = .ok (.putfield 137, 3) := by decide +kernel
theorem dX10_init_337 : decode cX10_init 337 = .ok (.aload_n 0, 1) := by decide +kernel
theorem dX10_init_338 : decode cX10_init 338 = .ok (.bipush 6, 2) := by decide +kernel
theorem dX10_init_340 : decode cX10_init 340 = .ok (.newarray .long, 2) := by decide +kernel
theorem dX10_init_342 : decode cX10_init 342 = .ok (.putfield 141, 3) := by decide +kernel
theorem dX10_init_345 : decode cX10_init 345 = .ok (.aload_n 0, 1) := by decide +kernel
theorem dX10_init_346 : decode cX10_init 346 = .ok (.bipush 8, 2) := by decide +kernel
theorem dX10_init_348 : decode cX10_init 348 = .ok (.newarray .int, 2) := by decide +kernel
theorem dX10_init_350 : decode cX10_init 350 = .ok (.putfield 144, 3) := by decide +kernel
theorem dX10_init_353 : decode cX10_init 353 = .ok (.aload_n 0, 1) := by decide +kernel
theorem dX10_init_354 : decode cX10_init 354 = .ok (.bipush 9, 2) := by decide +kernel
theorem dX10_init_356 : decode cX10_init 356 = .ok (.newarray .int, 2) := by decide +kernel
theorem dX10_init_358 : decode cX10_init 358 = .ok (.putfield 147, 3) := by decide +kernel
theorem dX10_init_361 : decode cX10_init 361 = .ok (.aload_n 0, 1) := by decide +kernel
theorem dX10_init_362 : decode cX10_init 362 = .ok (.bipush 8, 2) := by decide +kernel
theorem dX10_init_364 : decode cX10_init 364 = .ok (.newarray .int, 2) := by decide +kernel
theorem dX10_init_366 : decode cX10_init 366 = .ok (.putfield 150, 3) := by decide +kernel
theorem dX10_init_369 : decode cX10_init 369 = .ok (.return_, 1) := by decide +kernel
theorem dX10_thrown_0 : decode cX10_thrown 0 = .ok (.aload_n 0, 1) := by decide +kernel
theorem dX10_thrown_1 : decode cX10_thrown 1 = .ok (.getfield 153, 3) := by decide +kernel
theorem dX10_thrown_4 : decode cX10_thrown 4 = .ok (.ireturn, 1) := by decide +kernel
theorem dX10_feed_0 : decode cX10_feed 0 = .ok (.aload_n 0, 1) := by decide +kernel
theorem dX10_feed_1 : decode cX10_feed 1 = .ok (.iconst 0, 1) := by decide +kernel
theorem dX10_feed_2 : decode cX10_feed 2 = .ok (.putfield 153, 3) := by decide +kernel
theorem dX10_feed_5 : decode cX10_feed 5 = .ok (.aload_n 0, 1) := by decide +kernel
theorem dX10_feed_6 : decode cX10_feed 6 = .ok (.getfield 156, 3) := by decide +kernel
theorem dX10_feed_9 : decode cX10_feed 9 = .ok (.sipush 880, 3) := by decide +kernel
theorem dX10_feed_12 : decode cX10_feed 12 = .ok (.if_icmp .le 5, 3) := by decide +kernel
theorem dX10_feed_15 : decode cX10_feed 15 = .ok (.iconst (-1), 1) := by decide +kernel
theorem dX10_feed_16 : decode cX10_feed 16 = .ok (.ireturn, 1) := by decide +kernel
theorem dX10_feed_17 : decode cX10_feed 17 = .ok (.iconst 0, 1) := by decide +kernel
theorem dX10_feed_18 : decode cX10_feed 18 = .ok (.istore 6, 2) := by decide +kernel
theorem dX10_feed_20 : decode cX10_feed 20 = .ok (.iload 6, 2) := by decide +kernel
theorem dX10_feed_22 : decode cX10_feed 22 = .ok (.bipush 20, 2) := by decide +kernel
theorem dX10_feed_24 : decode cX10_feed 24 = .ok (.if_icmp .ge 86, 3) := by decide +kernel
theorem dX10_feed_27 : decode cX10_feed 27 = .ok (.iload 6, 2) := by decide +kernel
theorem dX10_feed_29 : decode cX10_feed 29 = .ok (.iconst 4, 1) := by decide +kernel
theorem dX10_feed_30 : decode cX10_feed 30 = .ok (.if_icmp .ge 7, 3) := by decide +kernel
theorem dX10_feed_33 : decode cX10_feed 33 = .ok (.iload_n 1, 1) := by decide +kernel
theorem dX10_feed_34 : decode cX10_feed 34 = .ok (.goto 39, 3) := by decide +kernel
theorem dX10_feed_37 : decode cX10_feed 37 = .ok (.iload 6, 2) := by decide +kernel
theorem dX10_feed_39 : decode cX10_feed 39 = .ok (.bipush 8, 2) := by decide +kernel
theorem dX10_feed_41 : decode cX10_feed 41 = .ok (.if_icmp .ge 7, 3) := by decide +kernel
theorem dX10_feed_44 : decode cX10_feed 44 = .ok (.iload_n 2, 1) := by decide +kernel
theorem dX10_feed_45 : decode cX10_feed 45 = .ok (.goto 28, 3) := by decide +kernel
theorem dX10_feed_48 : decode cX10_feed 48 = .ok (.iload 6, 2) := by decide +kernel
theorem dX10_feed_50 : decode cX10_feed 50 = .ok (.bipush 12, 2) := by decide +kernel
theorem dX10_feed_52 : decode cX10_feed 52 = .ok (.if_icmp .ge 7, 3) := by decide +kernel
theorem dX10_feed_55 : decode cX10_feed 55 = .ok (.iload_n 3, 1) := by decide +kernel
theorem dX10_feed_56 : decode cX10_feed 56 = .ok (.goto 17, 3) := by decide +kernel
theorem dX10_feed_59 : decode cX10_feed 59 = .ok (.iload 6, 2) := by decide +kernel
theorem dX10_feed_61 : decode cX10_feed 61 = .ok (.bipush 16, 2) := by decide +kernel
theorem dX10_feed_63 : decode cX10_feed 63 = .ok (.if_icmp .ge 8, 3) := by decide +kernel
theorem dX10_feed_66 : decode cX10_feed 66 = .ok (.iload 4, 2) := by decide +kernel
theorem dX10_feed_68 : decode cX10_feed 68 = .ok (.goto 5, 3) := by decide +kernel
theorem dX10_feed_71 : decode cX10_feed 71 = .ok (.iload 5, 2) := by decide +kernel
theorem dX10_feed_73 : decode cX10_feed 73 = .ok (.istore 7, 2) := by decide +kernel
theorem dX10_feed_75 : decode cX10_feed 75 = .ok (.aload_n 0, 1) := by decide +kernel
theorem dX10_feed_76 : decode cX10_feed 76 = .ok (.getfield 9, 3) := by decide +kernel
theorem dX10_feed_79 : decode cX10_feed 79 = .ok (.aload_n 0, 1) := by decide +kernel
theorem dX10_feed_80 : decode cX10_feed 80 = .ok (.getfield 156, 3) := by decide +kernel
theorem dX10_feed_83 : decode cX10_feed 83 = .ok (.iload 6, 2) := by decide +kernel
theorem dX10_feed_85 : decode cX10_feed 85 = .ok (.iadd, 1) := by decide +kernel
theorem dX10_feed_86 : decode cX10_feed 86 = .ok (.iload 7, 2) := by decide +kernel
theorem dX10_feed_88 : decode cX10_feed 88 = .ok (.bipush 24, 2) := by decide +kernel
theorem dX10_feed_90 : decode cX10_feed 90 = .ok (.bipush 8, 2) := by decide +kernel
theorem dX10_feed_92 : decode cX10_feed 92 = .ok (.iload 6, 2) := by decide +kernel
theorem dX10_feed_94 : decode cX10_feed 94 = .ok (.iconst 4, 1) := by decide +kernel
theorem dX10_feed_95 : decode cX10_feed 95 = .ok (.irem, 1) := by decide +kernel
theorem dX10_feed_96 : decode cX10_feed 96 = .ok (.imul, 1) := by decide +kernel
theorem dX10_feed_97 : decode cX10_feed 97 = .ok (.isub, 1) := by decide +kernel
theorem dX10_feed_98 : decode cX10_feed 98 = .ok (.ishr, 1) := by decide +kernel
theorem dX10_feed_99 : decode cX10_feed 99 = .ok (.sipush 255, 3) := by decide +kernel
theorem dX10_feed_102 : decode cX10_feed 102 = .ok (.iand, 1) := by decide +kernel
theorem dX10_feed_103 : decode cX10_feed 103 = .ok (.iastore, 1) := by decide +kernel
theorem dX10_feed_104 : decode cX10_feed 104 = .ok (.iinc 6 1, 3) := by decide +kernel
theorem dX10_feed_107 : decode cX10_feed 107 = .ok (.goto (-87), 3) := by decide +kernel
theorem dX10_feed_110 : decode cX10_feed 110 = .ok (.aload_n 0, 1) := by decide +kernel
theorem dX10_feed_111 : decode cX10_feed 111 = .ok (.dup, 1) := by decide +kernel
theorem dX10_feed_112 : decode cX10_feed 112 = .ok (.getfield 156, 3) := by decide +kernel
theorem dX10_feed_115 : decode cX10_feed 115 = .ok (.bipush 20, 2) := by decide +kernel
theorem dX10_feed_117 : decode cX10_feed 117 = .ok (.iadd, 1) := by decide +kernel
theorem dX10_feed_118 : decode cX10_feed 118 = .ok (.putfield 156, 3) := by decide +kernel
theorem dX10_feed_121 : decode cX10_feed 121 = .ok (.aload_n 0, 1) := by decide +kernel
theorem dX10_feed_122 : decode cX10_feed 122 = .ok (.getfield 156, 3) := by decide +kernel
theorem dX10_feed_125 : decode cX10_feed 125 = .ok (.ireturn, 1) := by decide +kernel
theorem dX10_here_0 : decode cX10_here 0 = .ok (.aload_n 0, 1) := by decide +kernel
theorem dX10_here_1 : decode cX10_here 1 = .ok (.getfield 159, 3) := by decide +kernel
theorem dX10_here_4 : decode cX10_here 4 = .ok (.aload_n 0, 1) := by decide +kernel
theorem dX10_here_5 : decode cX10_here 5 = .ok (.getfield 162, 3) := by decide +kernel
theorem dX10_here_8 : decode cX10_here 8 = .ok (.if_icmp .ge 15, 3) := by decide +kernel
theorem dX10_here_11 : decode cX10_here 11 = .ok (.aload_n 0, 1) := by decide +kernel
theorem dX10_here_12 : decode cX10_here 12 = .ok (.getfield 9, 3) := by decide +kernel
theorem dX10_here_15 : decode cX10_here 15 = .ok (.aload_n 0, 1) := by decide +kernel
theorem dX10_here_16 : decode cX10_here 16 = .ok (.getfield 159, 3) := by decide +kernel
theorem dX10_here_19 : decode cX10_here 19 = .ok (.iaload, 1) := by decide +kernel
theorem dX10_here_20 : decode cX10_here 20 = .ok (.goto 4, 3) := by decide +kernel
theorem dX10_here_23 : decode cX10_here 23 = .ok (.iconst (-1), 1) := by decide +kernel
theorem dX10_here_24 : decode cX10_here 24 = .ok (.ireturn, 1) := by decide +kernel
theorem dX10_isSmall_0 : decode cX10_isSmall 0 = .ok (.iload_n 0, 1) := by decide +kernel
theorem dX10_isSmall_1 : decode cX10_isSmall 1 = .ok (.bipush 97, 2) := by decide +kernel
theorem dX10_isSmall_3 : decode cX10_isSmall 3 = .ok (.if_icmp .lt 13, 3) := by decide +kernel
theorem dX10_isSmall_6 : decode cX10_isSmall 6 = .ok (.iload_n 0, 1) := by decide +kernel
theorem dX10_isSmall_7 : decode cX10_isSmall 7 = .ok (.bipush 122, 2) := by decide +kernel
theorem dX10_isSmall_9 : decode cX10_isSmall 9 = .ok (.if_icmp .gt 7, 3) := by decide +kernel
theorem dX10_isSmall_12 : decode cX10_isSmall 12 = .ok (.iconst 1, 1) := by decide +kernel
theorem dX10_isSmall_13 : decode cX10_isSmall 13 = .ok (.goto 4, 3) := by decide +kernel
theorem dX10_isSmall_16 : decode cX10_isSmall 16 = .ok (.iconst 0, 1) := by decide +kernel
theorem dX10_isSmall_17 : decode cX10_isSmall 17 = .ok (.ireturn, 1) := by decide +kernel
theorem dX10_isDigit_0 : decode cX10_isDigit 0 = .ok (.iload_n 0, 1) := by decide +kernel
theorem dX10_isDigit_1 : decode cX10_isDigit 1 = .ok (.bipush 48, 2) := by decide +kernel
theorem dX10_isDigit_3 : decode cX10_isDigit 3 = .ok (.if_icmp .lt 13, 3) := by decide +kernel
theorem dX10_isDigit_6 : decode cX10_isDigit 6 = .ok (.iload_n 0, 1) := by decide +kernel
theorem dX10_isDigit_7 : decode cX10_isDigit 7 = .ok (.bipush 57, 2) := by decide +kernel
theorem dX10_isDigit_9 : decode cX10_isDigit 9 = .ok (.if_icmp .gt 7, 3) := by decide +kernel
theorem dX10_isDigit_12 : decode cX10_isDigit 12 = .ok (.iconst 1, 1) := by decide +kernel
theorem dX10_isDigit_13 : decode cX10_isDigit 13 = .ok (.goto 4, 3) := by decide +kernel
theorem dX10_isDigit_16 : decode cX10_isDigit 16 = .ok (.iconst 0, 1) := by decide +kernel
theorem dX10_isDigit_17 : decode cX10_isDigit 17 = .ok (.ireturn, 1) := by decide +kernel
theorem dX10_token_0 : decode cX10_token 0 = .ok (.aload_n 0, 1) := by decide +kernel
theorem dX10_token_1 : decode cX10_token 1 = .ok (.invokevirtual 165, 3) := by decide +kernel
theorem dX10_token_4 : decode cX10_token 4 = .ok (.bipush 10, 2) := by decide +kernel
theorem dX10_token_6 : decode cX10_token 6 = .ok (.if_icmp .eq 12, 3) := by decide +kernel
theorem dX10_token_9 : decode cX10_token 9 = .ok (.aload_n 0, 1) := by decide +kernel
theorem dX10_token_10 : decode cX10_token 10 = .ok (.invokevirtual 165, 3) := by decide +kernel
theorem dX10_token_13 : decode cX10_token 13 = .ok (.bipush 32, 2) := by decide +kernel
theorem dX10_token_15 : decode cX10_token 15 = .ok (.if_icmp .ne 16, 3) := by decide +kernel
theorem dX10_token_18 : decode cX10_token 18 = .ok (.aload_n 0, 1) := by decide +kernel
theorem dX10_token_19 : decode cX10_token 19 = .ok (.dup, 1) := by decide +kernel
theorem dX10_token_20 : decode cX10_token 20 = .ok (.getfield 159, 3) := by decide +kernel
theorem dX10_token_23 : decode cX10_token 23 = .ok (.iconst 1, 1) := by decide +kernel
theorem dX10_token_24 : decode cX10_token 24 = .ok (.iadd, 1) := by decide +kernel
theorem dX10_token_25 : decode cX10_token 25 = .ok (.putfield 159, 3) := by decide +kernel
theorem dX10_token_28 : decode cX10_token 28 = .ok (.goto (-28), 3) := by decide +kernel
theorem dX10_token_31 : decode cX10_token 31 = .ok (.aload_n 0, 1) := by decide +kernel
theorem dX10_token_32 : decode cX10_token 32 = .ok (.aload_n 0, 1) := by decide +kernel
theorem dX10_token_33 : decode cX10_token 33 = .ok (.getfield 159, 3) := by decide +kernel
theorem dX10_token_36 : decode cX10_token 36 = .ok (.putfield 169, 3) := by decide +kernel
theorem dX10_token_39 : decode cX10_token 39 = .ok (.aload_n 0, 1) := by decide +kernel
theorem dX10_token_40 : decode cX10_token 40 = .ok (.invokevirtual 165, 3) := by decide +kernel
theorem dX10_token_43 : decode cX10_token 43 = .ok (.istore_n 1, 1) := by decide +kernel
theorem dX10_token_44 : decode cX10_token 44 = .ok (.iload_n 1, 1) := by decide +kernel
theorem dX10_token_45 : decode cX10_token 45 = .ok (.iconst (-1), 1) := by decide +kernel
theorem dX10_token_46 : decode cX10_token 46 = .ok (.if_icmp .ne 11, 3) := by decide +kernel
theorem dX10_token_49 : decode cX10_token 49 = .ok (.aload_n 0, 1) := by decide +kernel
theorem dX10_token_50 : decode cX10_token 50 = .ok (.iconst 4, 1) := by decide +kernel
theorem dX10_token_51 : decode cX10_token 51 = .ok (.putfield 172, 3) := by decide +kernel
theorem dX10_token_54 : decode cX10_token 54 = .ok (.goto 171, 3) := by decide +kernel
theorem dX10_token_57 : decode cX10_token 57 = .ok (.iload_n 1, 1) := by decide +kernel
theorem dX10_token_58 : decode cX10_token 58 = .ok (.invokestatic 175, 3) := by decide +kernel
theorem dX10_token_61 : decode cX10_token 61 = .ok (.ifCond .eq 84, 3) := by decide +kernel
theorem dX10_token_64 : decode cX10_token 64 = .ok (.aload_n 0, 1) := by decide +kernel
theorem dX10_token_65 : decode cX10_token 65 = .ok (.invokevirtual 165, 3) := by decide +kernel
theorem dX10_token_68 : decode cX10_token 68 = .ok (.invokestatic 175, 3) := by decide +kernel
theorem dX10_token_71 : decode cX10_token 71 = .ok (.ifCond .eq 16, 3) := by decide +kernel
theorem dX10_token_74 : decode cX10_token 74 = .ok (.aload_n 0, 1) := by decide +kernel
theorem dX10_token_75 : decode cX10_token 75 = .ok (.dup, 1) := by decide +kernel
theorem dX10_token_76 : decode cX10_token 76 = .ok (.getfield 159, 3) := by decide +kernel
theorem dX10_token_79 : decode cX10_token 79 = .ok (.iconst 1, 1) := by decide +kernel
theorem dX10_token_80 : decode cX10_token 80 = .ok (.iadd, 1) := by decide +kernel
theorem dX10_token_81 : decode cX10_token 81 = .ok (.putfield 159, 3) := by decide +kernel
theorem dX10_token_84 : decode cX10_token 84 = .ok (.goto (-20), 3) := by decide +kernel
theorem dX10_token_87 : decode cX10_token 87 = .ok (.aload_n 0, 1) := by decide +kernel
theorem dX10_token_88 : decode cX10_token 88 = .ok (.aload_n 0, 1) := by decide +kernel
theorem dX10_token_89 : decode cX10_token 89 = .ok (.invokevirtual 179, 3) := by decide +kernel
theorem dX10_token_92 : decode cX10_token 92 = .ok (.putfield 182, 3) := by decide +kernel
theorem dX10_token_95 : decode cX10_token 95 = .ok (.aload_n 0, 1) := by decide +kernel
theorem dX10_token_96 : decode cX10_token 96 = .ok (.aload_n 0, 1) := by decide +kernel
theorem dX10_token_97 : decode cX10_token 97 = .ok (.getfield 182, 3) := by decide +kernel
theorem dX10_token_100 : decode cX10_token 100 = .ok (.iconst (-1), 1) := by decide +kernel
theorem dX10_token_101 : decode cX10_token 101 = .ok (.if_icmp .eq 7, 3) := by decide +kernel
theorem dX10_token_104 : decode cX10_token 104 = .ok (.iconst 0, 1) := by decide +kernel
theorem dX10_token_105 : decode cX10_token 105 = .ok (.goto 22, 3) := by decide +kernel
theorem dX10_token_108 : decode cX10_token 108 = .ok (.aload_n 0, 1) := by decide +kernel
theorem dX10_token_109 : decode cX10_token 109 = .ok (.getfield 159, 3) := by decide +kernel
theorem dX10_token_112 : decode cX10_token 112 = .ok (.aload_n 0, 1) := by decide +kernel
theorem dX10_token_113 : decode cX10_token 113 = .ok (.getfield 169, 3) := by decide +kernel
theorem dX10_token_116 : decode cX10_token 116 = .ok (.isub, 1) := by decide +kernel
theorem dX10_token_117 : decode cX10_token 117 = .ok (.bipush 6, 2) := by decide +kernel
theorem dX10_token_119 : decode cX10_token 119 = .ok (.if_icmp .le 7, 3) := by decide +kernel
theorem dX10_token_122 : decode cX10_token 122 = .ok (.iconst 5, 1) := by decide +kernel
theorem dX10_token_123 : decode cX10_token 123 = .ok (.goto 4, 3) := by decide +kernel
theorem dX10_token_126 : decode cX10_token 126 = .ok (.iconst 1, 1) := by decide +kernel
theorem dX10_token_127 : decode cX10_token 127 = .ok (.putfield 172, 3) := by decide +kernel
theorem dX10_token_130 : decode cX10_token 130 = .ok (.aload_n 0, 1) := by decide +kernel
theorem dX10_token_131 : decode cX10_token 131 = .ok (.getfield 172, 3) := by decide +kernel
theorem dX10_token_134 : decode cX10_token 134 = .ok (.iconst 1, 1) := by decide +kernel
theorem dX10_token_135 : decode cX10_token 135 = .ok (.if_icmp .ne 90, 3) := by decide +kernel
theorem dX10_token_138 : decode cX10_token 138 = .ok (.aload_n 0, 1) := by decide +kernel
theorem dX10_token_139 : decode cX10_token 139 = .ok (.invokevirtual 185, 3) := by decide +kernel
theorem dX10_token_142 : decode cX10_token 142 = .ok (.goto 83, 3) := by decide +kernel
theorem dX10_token_145 : decode cX10_token 145 = .ok (.iload_n 1, 1) := by decide +kernel
theorem dX10_token_146 : decode cX10_token 146 = .ok (.invokestatic 188, 3) := by decide +kernel
theorem dX10_token_149 : decode cX10_token 149 = .ok (.ifCond .eq 71, 3) := by decide +kernel
theorem dX10_token_152 : decode cX10_token 152 = .ok (.aload_n 0, 1) := by decide +kernel
theorem dX10_token_153 : decode cX10_token 153 = .ok (.iconst 2, 1) := by decide +kernel
theorem dX10_token_154 : decode cX10_token 154 = .ok (.putfield 172, 3) := by decide +kernel
theorem dX10_token_157 : decode cX10_token 157 = .ok (.aload_n 0, 1) := by decide +kernel
theorem dX10_token_158 : decode cX10_token 158 = .ok (.iconst 0, 1) := by decide +kernel
theorem dX10_token_159 : decode cX10_token 159 = .ok (.putfield 182, 3) := by decide +kernel
theorem dX10_token_162 : decode cX10_token 162 = .ok (.aload_n 0, 1) := by decide +kernel
theorem dX10_token_163 : decode cX10_token 163 = .ok (.invokevirtual 165, 3) := by decide +kernel
theorem dX10_token_166 : decode cX10_token 166 = .ok (.invokestatic 188, 3) := by decide +kernel
theorem dX10_token_169 : decode cX10_token 169 = .ok (.ifCond .eq 56, 3) := by decide +kernel
theorem dX10_token_172 : decode cX10_token 172 = .ok (.aload_n 0, 1) := by decide +kernel
theorem dX10_token_173 : decode cX10_token 173 = .ok (.aload_n 0, 1) := by decide +kernel
theorem dX10_token_174 : decode cX10_token 174 = .ok (.getfield 182, 3) := by decide +kernel
theorem dX10_token_177 : decode cX10_token 177 = .ok (.ldc 191, 2) := by decide +kernel
theorem dX10_token_179 : decode cX10_token 179 = .ok (.if_icmp .le 10, 3) := by decide +kernel
theorem dX10_token_182 : decode cX10_token 182 = .ok (.aload_n 0, 1) := by decide +kernel
theorem dX10_token_183 : decode cX10_token 183 = .ok (.getfield 182, 3) := by decide +kernel
theorem dX10_token_186 : decode cX10_token 186 = .ok (.goto 18, 3) := by decide +kernel
theorem dX10_token_189 : decode cX10_token 189 = .ok (.bipush 10, 2) := by decide +kernel
theorem dX10_token_191 : decode cX10_token 191 = .ok (.aload_n 0, 1) := by decide +kernel
theorem dX10_token_192 : decode cX10_token 192 = .ok (.getfield 182, 3) := by decide +kernel
theorem dX10_token_195 : decode cX10_token 195 = .ok (.imul, 1) := by decide +kernel
theorem dX10_token_196 : decode cX10_token 196 = .ok (.aload_n 0, 1) := by decide +kernel
theorem dX10_token_197 : decode cX10_token 197 = .ok (.invokevirtual 165, 3) := by decide +kernel
theorem dX10_token_200 : decode cX10_token 200 = .ok (.iadd, 1) := by decide +kernel
theorem dX10_token_201 : decode cX10_token 201 = .ok (.bipush 48, 2) := by decide +kernel
theorem dX10_token_203 : decode cX10_token 203 = .ok (.isub, 1) := by decide +kernel
theorem dX10_token_204 : decode cX10_token 204 = .ok (.putfield 182, 3) := by decide +kernel
theorem dX10_token_207 : decode cX10_token 207 = .ok (.aload_n 0, 1) := by decide +kernel
theorem dX10_token_208 : decode cX10_token 208 = .ok (.dup, 1) := by decide +kernel
theorem dX10_token_209 : decode cX10_token 209 = .ok (.getfield 159, 3) := by decide +kernel
theorem dX10_token_212 : decode cX10_token 212 = .ok (.iconst 1, 1) := by decide +kernel
theorem dX10_token_213 : decode cX10_token 213 = .ok (.iadd, 1) := by decide +kernel
theorem dX10_token_214 : decode cX10_token 214 = .ok (.putfield 159, 3) := by decide +kernel
theorem dX10_token_217 : decode cX10_token 217 = .ok (.goto (-55), 3) := by decide +kernel
theorem dX10_token_220 : decode cX10_token 220 = .ok (.aload_n 0, 1) := by decide +kernel
theorem dX10_token_221 : decode cX10_token 221 = .ok (.iload_n 1, 1) := by decide +kernel
theorem dX10_token_222 : decode cX10_token 222 = .ok (.invokevirtual 192, 3) := by decide +kernel
theorem dX10_token_225 : decode cX10_token 225 = .ok (.return_, 1) := by decide +kernel
theorem dX10_sign_0 : decode cX10_sign 0 = .ok (.aload_n 0, 1) := by decide +kernel
theorem dX10_sign_1 : decode cX10_sign 1 = .ok (.dup, 1) := by decide +kernel
theorem dX10_sign_2 : decode cX10_sign 2 = .ok (.getfield 159, 3) := by decide +kernel
theorem dX10_sign_5 : decode cX10_sign 5 = .ok (.iconst 1, 1) := by decide +kernel
theorem dX10_sign_6 : decode cX10_sign 6 = .ok (.iadd, 1) := by decide +kernel
theorem dX10_sign_7 : decode cX10_sign 7 = .ok (.putfield 159, 3) := by decide +kernel
theorem dX10_sign_10 : decode cX10_sign 10 = .ok (.aload_n 0, 1) := by decide +kernel
theorem dX10_sign_11 : decode cX10_sign 11 = .ok (.iload_n 1, 1) := by decide +kernel
theorem dX10_sign_12 : decode cX10_sign 12 = .ok (.bipush 59, 2) := by decide +kernel
theorem dX10_sign_14 : decode cX10_sign 14 = .ok (.if_icmp .eq 57, 3) := by decide +kernel
theorem dX10_sign_17 : decode cX10_sign 17 = .ok (.iload_n 1, 1) := by decide +kernel
theorem dX10_sign_18 : decode cX10_sign 18 = .ok (.bipush 40, 2) := by decide +kernel
theorem dX10_sign_20 : decode cX10_sign 20 = .ok (.if_icmp .eq 51, 3) := by decide +kernel
theorem dX10_sign_23 : decode cX10_sign 23 = .ok (.iload_n 1, 1) := by decide +kernel
theorem dX10_sign_24 : decode cX10_sign 24 = .ok (.bipush 41, 2) := by decide +kernel
theorem dX10_sign_26 : decode cX10_sign 26 = .ok (.if_icmp .eq 45, 3) := by decide +kernel
theorem dX10_sign_29 : decode cX10_sign 29 = .ok (.iload_n 1, 1) := by decide +kernel
theorem dX10_sign_30 : decode cX10_sign 30 = .ok (.bipush 43, 2) := by decide +kernel
theorem dX10_sign_32 : decode cX10_sign 32 = .ok (.if_icmp .eq 39, 3) := by decide +kernel
theorem dX10_sign_35 : decode cX10_sign 35 = .ok (.iload_n 1, 1) := by decide +kernel
theorem dX10_sign_36 : decode cX10_sign 36 = .ok (.bipush 45, 2) := by decide +kernel
theorem dX10_sign_38 : decode cX10_sign 38 = .ok (.if_icmp .eq 33, 3) := by decide +kernel
theorem dX10_sign_41 : decode cX10_sign 41 = .ok (.iload_n 1, 1) := by decide +kernel
theorem dX10_sign_42 : decode cX10_sign 42 = .ok (.bipush 42, 2) := by decide +kernel
theorem dX10_sign_44 : decode cX10_sign 44 = .ok (.if_icmp .eq 27, 3) := by decide +kernel
theorem dX10_sign_47 : decode cX10_sign 47 = .ok (.iload_n 1, 1) := by decide +kernel
theorem dX10_sign_48 : decode cX10_sign 48 = .ok (.bipush 47, 2) := by decide +kernel
theorem dX10_sign_50 : decode cX10_sign 50 = .ok (.if_icmp .eq 21, 3) := by decide +kernel
theorem dX10_sign_53 : decode cX10_sign 53 = .ok (.iload_n 1, 1) := by decide +kernel
theorem dX10_sign_54 : decode cX10_sign 54 = .ok (.bipush 60, 2) := by decide +kernel
theorem dX10_sign_56 : decode cX10_sign 56 = .ok (.if_icmp .eq 15, 3) := by decide +kernel
theorem dX10_sign_59 : decode cX10_sign 59 = .ok (.iload_n 1, 1) := by decide +kernel
theorem dX10_sign_60 : decode cX10_sign 60 = .ok (.bipush 61, 2) := by decide +kernel
theorem dX10_sign_62 : decode cX10_sign 62 = .ok (.if_icmp .eq 9, 3) := by decide +kernel
theorem dX10_sign_65 : decode cX10_sign 65 = .ok (.iload_n 1, 1) := by decide +kernel
theorem dX10_sign_66 : decode cX10_sign 66 = .ok (.bipush 62, 2) := by decide +kernel
theorem dX10_sign_68 : decode cX10_sign 68 = .ok (.if_icmp .ne 7, 3) := by decide +kernel
theorem dX10_sign_71 : decode cX10_sign 71 = .ok (.iconst 3, 1) := by decide +kernel
theorem dX10_sign_72 : decode cX10_sign 72 = .ok (.goto 4, 3) := by decide +kernel
theorem dX10_sign_75 : decode cX10_sign 75 = .ok (.iconst 5, 1) := by decide +kernel
theorem dX10_sign_76 : decode cX10_sign 76 = .ok (.putfield 172, 3) := by decide +kernel
theorem dX10_sign_79 : decode cX10_sign 79 = .ok (.aload_n 0, 1) := by decide +kernel
theorem dX10_sign_80 : decode cX10_sign 80 = .ok (.iload_n 1, 1) := by decide +kernel
theorem dX10_sign_81 : decode cX10_sign 81 = .ok (.putfield 182, 3) := by decide +kernel
theorem dX10_sign_84 : decode cX10_sign 84 = .ok (.iload_n 1, 1) := by decide +kernel
theorem dX10_sign_85 : decode cX10_sign 85 = .ok (.bipush 60, 2) := by decide +kernel
theorem dX10_sign_87 : decode cX10_sign 87 = .ok (.if_icmp .ne 19, 3) := by decide +kernel
theorem dX10_sign_90 : decode cX10_sign 90 = .ok (.aload_n 0, 1) := by decide +kernel
theorem dX10_sign_91 : decode cX10_sign 91 = .ok (.invokevirtual 165, 3) := by decide +kernel
theorem dX10_sign_94 : decode cX10_sign 94 = .ok (.bipush 61, 2) := by decide +kernel
theorem dX10_sign_96 : decode cX10_sign 96 = .ok (.if_icmp .ne 10, 3) := by decide +kernel
theorem dX10_sign_99 : decode cX10_sign 99 = .ok (.aload_n 0, 1) := by decide +kernel
theorem dX10_sign_100 : decode cX10_sign 100 = .ok (.sipush 256, 3) := by decide +kernel
theorem dX10_sign_103 : decode cX10_sign 103 = .ok (.putfield 182, 3) := by decide +kernel
theorem dX10_sign_106 : decode cX10_sign 106 = .ok (.iload_n 1, 1) := by decide +kernel
theorem dX10_sign_107 : decode cX10_sign 107 = .ok (.bipush 60, 2) := by decide +kernel
theorem dX10_sign_109 : decode cX10_sign 109 = .ok (.if_icmp .ne 19, 3) := by decide +kernel
theorem dX10_sign_112 : decode cX10_sign 112 = .ok (.aload_n 0, 1) := by decide +kernel
theorem dX10_sign_113 : decode cX10_sign 113 = .ok (.invokevirtual 165, 3) := by decide +kernel
theorem dX10_sign_116 : decode cX10_sign 116 = .ok (.bipush 62, 2) := by decide +kernel
theorem dX10_sign_118 : decode cX10_sign 118 = .ok (.if_icmp .ne 10, 3) := by decide +kernel
theorem dX10_sign_121 : decode cX10_sign 121 = .ok (.aload_n 0, 1) := by decide +kernel
theorem dX10_sign_122 : decode cX10_sign 122 = .ok (.sipush 257, 3) := by decide +kernel
theorem dX10_sign_125 : decode cX10_sign 125 = .ok (.putfield 182, 3) := by decide +kernel
theorem dX10_sign_128 : decode cX10_sign 128 = .ok (.iload_n 1, 1) := by decide +kernel
theorem dX10_sign_129 : decode cX10_sign 129 = .ok (.bipush 62, 2) := by decide +kernel
theorem dX10_sign_131 : decode cX10_sign 131 = .ok (.if_icmp .ne 19, 3) := by decide +kernel
theorem dX10_sign_134 : decode cX10_sign 134 = .ok (.aload_n 0, 1) := by decide +kernel
theorem dX10_sign_135 : decode cX10_sign 135 = .ok (.invokevirtual 165, 3) := by decide +kernel
theorem dX10_sign_138 : decode cX10_sign 138 = .ok (.bipush 61, 2) := by decide +kernel
theorem dX10_sign_140 : decode cX10_sign 140 = .ok (.if_icmp .ne 10, 3) := by decide +kernel
theorem dX10_sign_143 : decode cX10_sign 143 = .ok (.aload_n 0, 1) := by decide +kernel
theorem dX10_sign_144 : decode cX10_sign 144 = .ok (.sipush 258, 3) := by decide +kernel
theorem dX10_sign_147 : decode cX10_sign 147 = .ok (.putfield 182, 3) := by decide +kernel
theorem dX10_sign_150 : decode cX10_sign 150 = .ok (.aload_n 0, 1) := by decide +kernel
theorem dX10_sign_151 : decode cX10_sign 151 = .ok (.getfield 182, 3) := by decide +kernel
theorem dX10_sign_154 : decode cX10_sign 154 = .ok (.sipush 256, 3) := by decide +kernel
theorem dX10_sign_157 : decode cX10_sign 157 = .ok (.if_icmp .lt 13, 3) := by decide +kernel
theorem dX10_sign_160 : decode cX10_sign 160 = .ok (.aload_n 0, 1) := by decide +kernel
theorem dX10_sign_161 : decode cX10_sign 161 = .ok (.dup, 1) := by decide +kernel
theorem dX10_sign_162 : decode cX10_sign 162 = .ok (.getfield 159, 3) := by decide +kernel
theorem dX10_sign_165 : decode cX10_sign 165 = .ok (.iconst 1, 1) := by decide +kernel
theorem dX10_sign_166 : decode cX10_sign 166 = .ok (.iadd, 1) := by decide +kernel
theorem dX10_sign_167 : decode cX10_sign 167 = .ok (.putfield 159, 3) := by decide +kernel
theorem dX10_sign_170 : decode cX10_sign 170 = .ok (.return_, 1) := by decide +kernel
theorem dX10_word_0 : decode cX10_word 0 = .ok (.iconst 0, 1) := by decide +kernel
theorem dX10_word_1 : decode cX10_word 1 = .ok (.istore_n 1, 1) := by decide +kernel
theorem dX10_word_2 : decode cX10_word 2 = .ok (.iconst 0, 1) := by decide +kernel
theorem dX10_word_3 : decode cX10_word 3 = .ok (.istore_n 2, 1) := by decide +kernel
theorem dX10_word_4 : decode cX10_word 4 = .ok (.iload_n 2, 1) := by decide +kernel
theorem dX10_word_5 : decode cX10_word 5 = .ok (.ldc 196, 2) := by decide +kernel
theorem dX10_word_7 : decode cX10_word 7 = .ok (.invokevirtual 198, 3) := by decide +kernel
theorem dX10_word_10 : decode cX10_word 10 = .ok (.if_icmp .ge 113, 3) := by decide +kernel
theorem dX10_word_13 : decode cX10_word 13 = .ok (.iconst 0, 1) := by decide +kernel
theorem dX10_word_14 : decode cX10_word 14 = .ok (.istore_n 3, 1) := by decide +kernel
theorem dX10_word_15 : decode cX10_word 15 = .ok (.ldc 196, 2) := by decide +kernel
theorem dX10_word_17 : decode cX10_word 17 = .ok (.iload_n 2, 1) := by decide +kernel
theorem dX10_word_18 : decode cX10_word 18 = .ok (.iload_n 3, 1) := by decide +kernel
theorem dX10_word_19 : decode cX10_word 19 = .ok (.iadd, 1) := by decide +kernel
theorem dX10_word_20 : decode cX10_word 20 = .ok (.invokevirtual 203, 3) := by decide +kernel
theorem dX10_word_23 : decode cX10_word 23 = .ok (.bipush 32, 2) := by decide +kernel
theorem dX10_word_25 : decode cX10_word 25 = .ok (.if_icmp .eq 44, 3) := by decide +kernel
theorem dX10_word_28 : decode cX10_word 28 = .ok (.aload_n 0, 1) := by decide +kernel
theorem dX10_word_29 : decode cX10_word 29 = .ok (.getfield 169, 3) := by decide +kernel
theorem dX10_word_32 : decode cX10_word 32 = .ok (.iload_n 3, 1) := by decide +kernel
theorem dX10_word_33 : decode cX10_word 33 = .ok (.iadd, 1) := by decide +kernel
theorem dX10_word_34 : decode cX10_word 34 = .ok (.aload_n 0, 1) := by decide +kernel
theorem dX10_word_35 : decode cX10_word 35 = .ok (.getfield 159, 3) := by decide +kernel
theorem dX10_word_38 : decode cX10_word 38 = .ok (.if_icmp .ge 31, 3) := by decide +kernel
theorem dX10_word_41 : decode cX10_word 41 = .ok (.aload_n 0, 1) := by decide +kernel
theorem dX10_word_42 : decode cX10_word 42 = .ok (.getfield 9, 3) := by decide +kernel
theorem dX10_word_45 : decode cX10_word 45 = .ok (.aload_n 0, 1) := by decide +kernel
theorem dX10_word_46 : decode cX10_word 46 = .ok (.getfield 169, 3) := by decide +kernel
theorem dX10_word_49 : decode cX10_word 49 = .ok (.iload_n 3, 1) := by decide +kernel
theorem dX10_word_50 : decode cX10_word 50 = .ok (.iadd, 1) := by decide +kernel
theorem dX10_word_51 : decode cX10_word 51 = .ok (.iaload, 1) := by decide +kernel
theorem dX10_word_52 : decode cX10_word 52 = .ok (.ldc 196, 2) := by decide +kernel
theorem dX10_word_54 : decode cX10_word 54 = .ok (.iload_n 2, 1) := by decide +kernel
theorem dX10_word_55 : decode cX10_word 55 = .ok (.iload_n 3, 1) := by decide +kernel
theorem dX10_word_56 : decode cX10_word 56 = .ok (.iadd, 1) := by decide +kernel
theorem dX10_word_57 : decode cX10_word 57 = .ok (.invokevirtual 203, 3) := by decide +kernel
theorem dX10_word_60 : decode cX10_word 60 = .ok (.if_icmp .ne 9, 3) := by decide +kernel
theorem dX10_word_63 : decode cX10_word 63 = .ok (.iinc 3 1, 3) := by decide +kernel
theorem dX10_word_66 : decode cX10_word 66 = .ok (.goto (-51), 3) := by decide +kernel
theorem dX10_word_69 : decode cX10_word 69 = .ok (.ldc 196, 2) := by decide +kernel
theorem dX10_word_71 : decode cX10_word 71 = .ok (.iload_n 2, 1) := by decide +kernel
theorem dX10_word_72 : decode cX10_word 72 = .ok (.iload_n 3, 1) := by decide +kernel
theorem dX10_word_73 : decode cX10_word 73 = .ok (.iadd, 1) := by decide +kernel
theorem dX10_word_74 : decode cX10_word 74 = .ok (.invokevirtual 203, 3) := by decide +kernel
theorem dX10_word_77 : decode cX10_word 77 = .ok (.bipush 32, 2) := by decide +kernel
theorem dX10_word_79 : decode cX10_word 79 = .ok (.if_icmp .ne 18, 3) := by decide +kernel
theorem dX10_word_82 : decode cX10_word 82 = .ok (.aload_n 0, 1) := by decide +kernel
theorem dX10_word_83 : decode cX10_word 83 = .ok (.getfield 169, 3) := by decide +kernel
theorem dX10_word_86 : decode cX10_word 86 = .ok (.iload_n 3, 1) := by decide +kernel
theorem dX10_word_87 : decode cX10_word 87 = .ok (.iadd, 1) := by decide +kernel
theorem dX10_word_88 : decode cX10_word 88 = .ok (.aload_n 0, 1) := by decide +kernel
theorem dX10_word_89 : decode cX10_word 89 = .ok (.getfield 159, 3) := by decide +kernel
theorem dX10_word_92 : decode cX10_word 92 = .ok (.if_icmp .ne 5, 3) := by decide +kernel
theorem dX10_word_95 : decode cX10_word 95 = .ok (.iload_n 1, 1) := by decide +kernel
theorem dX10_word_96 : decode cX10_word 96 = .ok (.ireturn, 1) := by decide +kernel
theorem dX10_word_97 : decode cX10_word 97 = .ok (.ldc 196, 2) := by decide +kernel
theorem dX10_word_99 : decode cX10_word 99 = .ok (.iload_n 2, 1) := by decide +kernel
theorem dX10_word_100 : decode cX10_word 100 = .ok (.invokevirtual 203, 3) := by decide +kernel
theorem dX10_word_103 : decode cX10_word 103 = .ok (.bipush 32, 2) := by decide +kernel
theorem dX10_word_105 : decode cX10_word 105 = .ok (.if_icmp .eq 9, 3) := by decide +kernel
theorem dX10_word_108 : decode cX10_word 108 = .ok (.iinc 2 1, 3) := by decide +kernel
theorem dX10_word_111 : decode cX10_word 111 = .ok (.goto (-14), 3) := by decide +kernel
theorem dX10_word_114 : decode cX10_word 114 = .ok (.iinc 2 1, 3) := by decide +kernel
theorem dX10_word_117 : decode cX10_word 117 = .ok (.iinc 1 1, 3) := by decide +kernel
theorem dX10_word_120 : decode cX10_word 120 = .ok (.goto (-116), 3) := by decide +kernel
theorem dX10_word_123 : decode cX10_word 123 = .ok (.iconst (-1), 1) := by decide +kernel
theorem dX10_word_124 : decode cX10_word 124 = .ok (.ireturn, 1) := by decide +kernel
theorem dX10_name_0 : decode cX10_name 0 = .ok (.aload_n 0, 1) := by decide +kernel
theorem dX10_name_1 : decode cX10_name 1 = .ok (.iconst 0, 1) := by decide +kernel
theorem dX10_name_2 : decode cX10_name 2 = .ok (.putfield 182, 3) := by decide +kernel
theorem dX10_name_5 : decode cX10_name 5 = .ok (.iconst 0, 1) := by decide +kernel
theorem dX10_name_6 : decode cX10_name 6 = .ok (.istore_n 1, 1) := by decide +kernel
theorem dX10_name_7 : decode cX10_name 7 = .ok (.iload_n 1, 1) := by decide +kernel
theorem dX10_name_8 : decode cX10_name 8 = .ok (.bipush 6, 2) := by decide +kernel
theorem dX10_name_10 : decode cX10_name 10 = .ok (.if_icmp .ge 53, 3) := by decide +kernel
theorem dX10_name_13 : decode cX10_name 13 = .ok (.aload_n 0, 1) := by decide +kernel
theorem dX10_name_14 : decode cX10_name 14 = .ok (.aload_n 0, 1) := by decide +kernel
theorem dX10_name_15 : decode cX10_name 15 = .ok (.getfield 182, 3) := by decide +kernel
theorem dX10_name_18 : decode cX10_name 18 = .ok (.iconst 5, 1) := by decide +kernel
theorem dX10_name_19 : decode cX10_name 19 = .ok (.ishl, 1) := by decide +kernel
theorem dX10_name_20 : decode cX10_name 20 = .ok (.aload_n 0, 1) := by decide +kernel
theorem dX10_name_21 : decode cX10_name 21 = .ok (.getfield 169, 3) := by decide +kernel
theorem dX10_name_24 : decode cX10_name 24 = .ok (.iload_n 1, 1) := by decide +kernel
theorem dX10_name_25 : decode cX10_name 25 = .ok (.iadd, 1) := by decide +kernel
theorem dX10_name_26 : decode cX10_name 26 = .ok (.aload_n 0, 1) := by decide +kernel
theorem dX10_name_27 : decode cX10_name 27 = .ok (.getfield 159, 3) := by decide +kernel
theorem dX10_name_30 : decode cX10_name 30 = .ok (.if_icmp .ge 22, 3) := by decide +kernel
theorem dX10_name_33 : decode cX10_name 33 = .ok (.aload_n 0, 1) := by decide +kernel
theorem dX10_name_34 : decode cX10_name 34 = .ok (.getfield 9, 3) := by decide +kernel
theorem dX10_name_37 : decode cX10_name 37 = .ok (.aload_n 0, 1) := by decide +kernel
theorem dX10_name_38 : decode cX10_name 38 = .ok (.getfield 169, 3) := by decide +kernel
theorem dX10_name_41 : decode cX10_name 41 = .ok (.iload_n 1, 1) := by decide +kernel
theorem dX10_name_42 : decode cX10_name 42 = .ok (.iadd, 1) := by decide +kernel
theorem dX10_name_43 : decode cX10_name 43 = .ok (.iaload, 1) := by decide +kernel
theorem dX10_name_44 : decode cX10_name 44 = .ok (.bipush 97, 2) := by decide +kernel
theorem dX10_name_46 : decode cX10_name 46 = .ok (.isub, 1) := by decide +kernel
theorem dX10_name_47 : decode cX10_name 47 = .ok (.iconst 1, 1) := by decide +kernel
theorem dX10_name_48 : decode cX10_name 48 = .ok (.iadd, 1) := by decide +kernel
theorem dX10_name_49 : decode cX10_name 49 = .ok (.goto 4, 3) := by decide +kernel
theorem dX10_name_52 : decode cX10_name 52 = .ok (.iconst 0, 1) := by decide +kernel
theorem dX10_name_53 : decode cX10_name 53 = .ok (.ior, 1) := by decide +kernel
theorem dX10_name_54 : decode cX10_name 54 = .ok (.putfield 182, 3) := by decide +kernel
theorem dX10_name_57 : decode cX10_name 57 = .ok (.iinc 1 1, 3) := by decide +kernel
theorem dX10_name_60 : decode cX10_name 60 = .ok (.goto (-53), 3) := by decide +kernel
theorem dX10_name_63 : decode cX10_name 63 = .ok (.return_, 1) := by decide +kernel
theorem dX10_wrong_0 : decode cX10_wrong 0 = .ok (.aload_n 0, 1) := by decide +kernel
theorem dX10_wrong_1 : decode cX10_wrong 1 = .ok (.getfield 207, 3) := by decide +kernel
theorem dX10_wrong_4 : decode cX10_wrong 4 = .ok (.ifCond .eq 4, 3) := by decide +kernel
theorem dX10_wrong_7 : decode cX10_wrong 7 = .ok (.return_, 1) := by decide +kernel
theorem dX10_wrong_8 : decode cX10_wrong 8 = .ok (.aload_n 0, 1) := by decide +kernel
theorem dX10_wrong_9 : decode cX10_wrong 9 = .ok (.iload_n 1, 1) := by decide +kernel
theorem dX10_wrong_10 : decode cX10_wrong 10 = .ok (.putfield 207, 3) := by decide +kernel
theorem dX10_wrong_13 : decode cX10_wrong 13 = .ok (.aload_n 0, 1) := by decide +kernel
theorem dX10_wrong_14 : decode cX10_wrong 14 = .ok (.aload_n 0, 1) := by decide +kernel
theorem dX10_wrong_15 : decode cX10_wrong 15 = .ok (.getfield 169, 3) := by decide +kernel
theorem dX10_wrong_18 : decode cX10_wrong 18 = .ok (.putfield 210, 3) := by decide +kernel
theorem dX10_wrong_21 : decode cX10_wrong 21 = .ok (.return_, 1) := by decide +kernel
theorem dX10_isWord_0 : decode cX10_isWord 0 = .ok (.aload_n 0, 1) := by decide +kernel
theorem dX10_isWord_1 : decode cX10_isWord 1 = .ok (.getfield 207, 3) := by decide +kernel
theorem dX10_isWord_4 : decode cX10_isWord 4 = .ok (.ifCond .ne 22, 3) := by decide +kernel
theorem dX10_isWord_7 : decode cX10_isWord 7 = .ok (.aload_n 0, 1) := by decide +kernel
theorem dX10_isWord_8 : decode cX10_isWord 8 = .ok (.getfield 172, 3) := by decide +kernel
theorem dX10_isWord_11 : decode cX10_isWord 11 = .ok (.ifCond .ne 15, 3) := by decide +kernel
theorem dX10_isWord_14 : decode cX10_isWord 14 = .ok (.aload_n 0, 1) := by decide +kernel
theorem dX10_isWord_15 : decode cX10_isWord 15 = .ok (.getfield 182, 3) := by decide +kernel
theorem dX10_isWord_18 : decode cX10_isWord 18 = .ok (.iload_n 1, 1) := by decide +kernel
theorem dX10_isWord_19 : decode cX10_isWord 19 = .ok (.if_icmp .ne 7, 3) := by decide +kernel
theorem dX10_isWord_22 : decode cX10_isWord 22 = .ok (.iconst 1, 1) := by decide +kernel
theorem dX10_isWord_23 : decode cX10_isWord 23 = .ok (.goto 4, 3) := by decide +kernel
theorem dX10_isWord_26 : decode cX10_isWord 26 = .ok (.iconst 0, 1) := by decide +kernel
theorem dX10_isWord_27 : decode cX10_isWord 27 = .ok (.ireturn, 1) := by decide +kernel
theorem dX10_isSign_0 : decode cX10_isSign 0 = .ok (.aload_n 0, 1) := by decide +kernel
theorem dX10_isSign_1 : decode cX10_isSign 1 = .ok (.getfield 207, 3) := by decide +kernel
theorem dX10_isSign_4 : decode cX10_isSign 4 = .ok (.ifCond .ne 23, 3) := by decide +kernel
theorem dX10_isSign_7 : decode cX10_isSign 7 = .ok (.aload_n 0, 1) := by decide +kernel
theorem dX10_isSign_8 : decode cX10_isSign 8 = .ok (.getfield 172, 3) := by decide +kernel
theorem dX10_isSign_11 : decode cX10_isSign 11 = .ok (.iconst 3, 1) := by decide +kernel
theorem dX10_isSign_12 : decode cX10_isSign 12 = .ok (.if_icmp .ne 15, 3) := by decide +kernel
theorem dX10_isSign_15 : decode cX10_isSign 15 = .ok (.aload_n 0, 1) := by decide +kernel
theorem dX10_isSign_16 : decode cX10_isSign 16 = .ok (.getfield 182, 3) := by decide +kernel
theorem dX10_isSign_19 : decode cX10_isSign 19 = .ok (.iload_n 1, 1) := by decide +kernel
theorem dX10_isSign_20 : decode cX10_isSign 20 = .ok (.if_icmp .ne 7, 3) := by decide +kernel
theorem dX10_isSign_23 : decode cX10_isSign 23 = .ok (.iconst 1, 1) := by decide +kernel
theorem dX10_isSign_24 : decode cX10_isSign 24 = .ok (.goto 4, 3) := by decide +kernel
theorem dX10_isSign_27 : decode cX10_isSign 27 = .ok (.iconst 0, 1) := by decide +kernel
theorem dX10_isSign_28 : decode cX10_isSign 28 = .ok (.ireturn, 1) := by decide +kernel
theorem dX10_goOn_0 : decode cX10_goOn 0 = .ok (.aload_n 0, 1) := by decide +kernel
theorem dX10_goOn_1 : decode cX10_goOn 1 = .ok (.getfield 207, 3) := by decide +kernel
theorem dX10_goOn_4 : decode cX10_goOn 4 = .ok (.ifCond .ne 7, 3) := by decide +kernel
theorem dX10_goOn_7 : decode cX10_goOn 7 = .ok (.aload_n 0, 1) := by decide +kernel
theorem dX10_goOn_8 : decode cX10_goOn 8 = .ok (.invokevirtual 213, 3) := by decide +kernel
theorem dX10_goOn_11 : decode cX10_goOn 11 = .ok (.return_, 1) := by decide +kernel
theorem dX10_numeral_0 : decode cX10_numeral 0 = .ok (.aload_n 0, 1) := by decide +kernel
theorem dX10_numeral_1 : decode cX10_numeral 1 = .ok (.getfield 207, 3) := by decide +kernel
theorem dX10_numeral_4 : decode cX10_numeral 4 = .ok (.ifCond .eq 5, 3) := by decide +kernel
theorem dX10_numeral_7 : decode cX10_numeral 7 = .ok (.iload_n 1, 1) := by decide +kernel
theorem dX10_numeral_8 : decode cX10_numeral 8 = .ok (.ireturn, 1) := by decide +kernel
theorem dX10_numeral_9 : decode cX10_numeral 9 = .ok (.aload_n 0, 1) := by decide +kernel
theorem dX10_numeral_10 : decode cX10_numeral 10 = .ok (.getfield 172, 3) := by decide +kernel
theorem dX10_numeral_13 : decode cX10_numeral 13 = .ok (.iconst 2, 1) := by decide +kernel
theorem dX10_numeral_14 : decode cX10_numeral 14 = .ok (.if_icmp .eq 11, 3) := by decide +kernel
theorem dX10_numeral_17 : decode cX10_numeral 17 = .ok (.aload_n 0, 1) := by decide +kernel
theorem dX10_numeral_18 : decode cX10_numeral 18 = .ok (.iconst 1, 1) := by decide +kernel
theorem dX10_numeral_19 : decode cX10_numeral 19 = .ok (.invokevirtual 216, 3) := by decide +kernel
theorem dX10_numeral_22 : decode cX10_numeral 22 = .ok (.goto 24, 3) := by decide +kernel
theorem dX10_numeral_25 : decode cX10_numeral 25 = .ok (.aload_n 0, 1) := by decide +kernel
theorem dX10_numeral_26 : decode cX10_numeral 26 = .ok (.getfield 182, 3) := by decide +kernel
theorem dX10_numeral_29 : decode cX10_numeral 29 = .ok (.iload_n 1, 1) := by decide +kernel
theorem dX10_numeral_30 : decode cX10_numeral 30 = .ok (.if_icmp .lt 11, 3) := by decide +kernel
theorem dX10_numeral_33 : decode cX10_numeral 33 = .ok (.aload_n 0, 1) := by decide +kernel
theorem dX10_numeral_34 : decode cX10_numeral 34 = .ok (.getfield 182, 3) := by decide +kernel
theorem dX10_numeral_37 : decode cX10_numeral 37 = .ok (.iload_n 2, 1) := by decide +kernel
theorem dX10_numeral_38 : decode cX10_numeral 38 = .ok (.if_icmp .le 8, 3) := by decide +kernel
theorem dX10_numeral_41 : decode cX10_numeral 41 = .ok (.aload_n 0, 1) := by decide +kernel
theorem dX10_numeral_42 : decode cX10_numeral 42 = .ok (.iconst 2, 1) := by decide +kernel
theorem dX10_numeral_43 : decode cX10_numeral 43 = .ok (.invokevirtual 216, 3) := by decide +kernel
theorem dX10_numeral_46 : decode cX10_numeral 46 = .ok (.aload_n 0, 1) := by decide +kernel
theorem dX10_numeral_47 : decode cX10_numeral 47 = .ok (.getfield 207, 3) := by decide +kernel
theorem dX10_numeral_50 : decode cX10_numeral 50 = .ok (.ifCond .eq 5, 3) := by decide +kernel
theorem dX10_numeral_53 : decode cX10_numeral 53 = .ok (.iload_n 1, 1) := by decide +kernel
theorem dX10_numeral_54 : decode cX10_numeral 54 = .ok (.ireturn, 1) := by decide +kernel
theorem dX10_numeral_55 : decode cX10_numeral 55 = .ok (.aload_n 0, 1) := by decide +kernel
theorem dX10_numeral_56 : decode cX10_numeral 56 = .ok (.getfield 182, 3) := by decide +kernel
theorem dX10_numeral_59 : decode cX10_numeral 59 = .ok (.istore_n 3, 1) := by decide +kernel
theorem dX10_numeral_60 : decode cX10_numeral 60 = .ok (.aload_n 0, 1) := by decide +kernel
theorem dX10_numeral_61 : decode cX10_numeral 61 = .ok (.invokevirtual 213, 3) := by decide +kernel
theorem dX10_numeral_64 : decode cX10_numeral 64 = .ok (.iload_n 3, 1) := by decide +kernel
theorem dX10_numeral_65 : decode cX10_numeral 65 = .ok (.ireturn, 1) := by decide +kernel
theorem dX10_signed_0 : decode cX10_signed 0 = .ok (.aload_n 0, 1) := by decide +kernel
theorem dX10_signed_1 : decode cX10_signed 1 = .ok (.bipush 45, 2) := by decide +kernel
theorem dX10_signed_3 : decode cX10_signed 3 = .ok (.invokevirtual 219, 3) := by decide +kernel
theorem dX10_signed_6 : decode cX10_signed 6 = .ok (.istore_n 2, 1) := by decide +kernel
theorem dX10_signed_7 : decode cX10_signed 7 = .ok (.iload_n 2, 1) := by decide +kernel
theorem dX10_signed_8 : decode cX10_signed 8 = .ok (.ifCond .eq 7, 3) := by decide +kernel
theorem dX10_signed_11 : decode cX10_signed 11 = .ok (.aload_n 0, 1) := by decide +kernel
theorem dX10_signed_12 : decode cX10_signed 12 = .ok (.invokevirtual 213, 3) := by decide +kernel
theorem dX10_signed_15 : decode cX10_signed 15 = .ok (.aload_n 0, 1) := by decide +kernel
theorem dX10_signed_16 : decode cX10_signed 16 = .ok (.iconst 0, 1) := by decide +kernel
theorem dX10_signed_17 : decode cX10_signed 17 = .ok (.iload_n 1, 1) := by decide +kernel
theorem dX10_signed_18 : decode cX10_signed 18 = .ok (.invokevirtual 222, 3) := by decide +kernel
theorem dX10_signed_21 : decode cX10_signed 21 = .ok (.istore_n 3, 1) := by decide +kernel
theorem dX10_signed_22 : decode cX10_signed 22 = .ok (.iload_n 2, 1) := by decide +kernel
theorem dX10_signed_23 : decode cX10_signed 23 = .ok (.ifCond .eq 8, 3) := by decide +kernel
theorem dX10_signed_26 : decode cX10_signed 26 = .ok (.iload_n 3, 1) := by decide +kernel
theorem dX10_signed_27 : decode cX10_signed 27 = .ok (.ineg, 1) := by decide +kernel
theorem dX10_signed_28 : decode cX10_signed 28 = .ok (.goto 4, 3) := by decide +kernel
theorem dX10_signed_31 : decode cX10_signed 31 = .ok (.iload_n 3, 1) := by decide +kernel
theorem dX10_signed_32 : decode cX10_signed 32 = .ok (.ireturn, 1) := by decide +kernel
theorem dX10_found_0 : decode cX10_found 0 = .ok (.iconst 0, 1) := by decide +kernel
theorem dX10_found_1 : decode cX10_found 1 = .ok (.istore 4, 2) := by decide +kernel
theorem dX10_found_3 : decode cX10_found 3 = .ok (.iload 4, 2) := by decide +kernel
theorem dX10_found_5 : decode cX10_found 5 = .ok (.iload_n 2, 1) := by decide +kernel
theorem dX10_found_6 : decode cX10_found 6 = .ok (.if_icmp .ge 22, 3) := by decide +kernel
theorem dX10_found_9 : decode cX10_found 9 = .ok (.aload_n 0, 1) := by decide +kernel
theorem dX10_found_10 : decode cX10_found 10 = .ok (.iload_n 1, 1) := by decide +kernel
theorem dX10_found_11 : decode cX10_found 11 = .ok (.iload 4, 2) := by decide +kernel
theorem dX10_found_13 : decode cX10_found 13 = .ok (.iadd, 1) := by decide +kernel
theorem dX10_found_14 : decode cX10_found 14 = .ok (.iaload, 1) := by decide +kernel
theorem dX10_found_15 : decode cX10_found 15 = .ok (.iload_n 3, 1) := by decide +kernel
theorem dX10_found_16 : decode cX10_found 16 = .ok (.if_icmp .ne 6, 3) := by decide +kernel
theorem dX10_found_19 : decode cX10_found 19 = .ok (.iload 4, 2) := by decide +kernel
theorem dX10_found_21 : decode cX10_found 21 = .ok (.ireturn, 1) := by decide +kernel
theorem dX10_found_22 : decode cX10_found 22 = .ok (.iinc 4 1, 3) := by decide +kernel
