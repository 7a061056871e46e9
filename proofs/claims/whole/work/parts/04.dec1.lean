theorem dX0_init_0 : decode cX0_init 0 = .ok (.aload_n 0, 1) := by decide +kernel
theorem dX0_init_1 : decode cX0_init 1 = .ok (.invokespecial 3, 3) := by decide +kernel
theorem dX0_init_4 : decode cX0_init 4 = .ok (.aload_n 0, 1) := by decide +kernel
theorem dX0_init_5 : decode cX0_init 5 = .ok (.sipush 480, 3) := by decide +kernel
theorem dX0_init_8 : decode cX0_init 8 = .ok (.newarray .int, 2) := by decide +kernel
theorem dX0_init_10 : decode cX0_init 10 = .ok (.putfield 9, 3) := by decide +kernel
theorem dX0_init_13 : decode cX0_init 13 = .ok (.aload_n 0, 1) := by decide +kernel
theorem dX0_init_14 : decode cX0_init 14 = .ok (.bipush 8, 2) := by decide +kernel
theorem dX0_init_16 : decode cX0_init 16 = .ok (.newarray .int, 2) := by decide +kernel
theorem dX0_init_18 : decode cX0_init 18 = .ok (.putfield 15, 3) := by decide +kernel
theorem dX0_init_21 : decode cX0_init 21 = .ok (.aload_n 0, 1) := by decide +kernel
theorem dX0_init_22 : decode cX0_init 22 = .ok (.bipush 80, 2) := by decide +kernel
theorem dX0_init_24 : decode cX0_init 24 = .ok (.newarray .int, 2) := by decide +kernel
theorem dX0_init_26 : decode cX0_init 26 = .ok (.putfield 18, 3) := by decide +kernel
theorem dX0_init_29 : decode cX0_init 29 = .ok (.aload_n 0, 1) := by decide +kernel
theorem dX0_init_30 : decode cX0_init 30 = .ok (.bipush 80, 2) := by decide +kernel
theorem dX0_init_32 : decode cX0_init 32 = .ok (.newarray .int, 2) := by decide +kernel
theorem dX0_init_34 : decode cX0_init 34 = .ok (.putfield 21, 3) := by decide +kernel
theorem dX0_init_37 : decode cX0_init 37 = .ok (.aload_n 0, 1) := by decide +kernel
theorem dX0_init_38 : decode cX0_init 38 = .ok (.bipush 8, 2) := by decide +kernel
theorem dX0_init_40 : decode cX0_init 40 = .ok (.newarray .int, 2) := by decide +kernel
theorem dX0_init_42 : decode cX0_init 42 = .ok (.putfield 24, 3) := by decide +kernel
theorem dX0_init_45 : decode cX0_init 45 = .ok (.aload_n 0, 1) := by decide +kernel
theorem dX0_init_46 : decode cX0_init 46 = .ok (.bipush 8, 2) := by decide +kernel
theorem dX0_init_48 : decode cX0_init 48 = .ok (.newarray .int, 2) := by decide +kernel
theorem dX0_init_50 : decode cX0_init 50 = .ok (.putfield 27, 3) := by decide +kernel
theorem dX0_init_53 : decode cX0_init 53 = .ok (.aload_n 0, 1) := by decide +kernel
theorem dX0_init_54 : decode cX0_init 54 = .ok (.bipush 96, 2) := by decide +kernel
theorem dX0_init_56 : decode cX0_init 56 = .ok (.newarray .int, 2) := by decide +kernel
theorem dX0_init_58 : decode cX0_init 58 = .ok (.putfield 30, 3) := by decide +kernel
theorem dX0_init_61 : decode cX0_init 61 = .ok (.aload_n 0, 1) := by decide +kernel
theorem dX0_init_62 : decode cX0_init 62 = .ok (.bipush 96, 2) := by decide +kernel
theorem dX0_init_64 : decode cX0_init 64 = .ok (.newarray .int, 2) := by decide +kernel
theorem dX0_init_66 : decode cX0_init 66 = .ok (.putfield 33, 3) := by decide +kernel
theorem dX0_init_69 : decode cX0_init 69 = .ok (.aload_n 0, 1) := by decide +kernel
theorem dX0_init_70 : decode cX0_init 70 = .ok (.bipush 96, 2) := by decide +kernel
theorem dX0_init_72 : decode cX0_init 72 = .ok (.newarray .int, 2) := by decide +kernel
theorem dX0_init_74 : decode cX0_init 74 = .ok (.putfield 36, 3) := by decide +kernel
theorem dX0_init_77 : decode cX0_init 77 = .ok (.aload_n 0, 1) := by decide +kernel
theorem dX0_init_78 : decode cX0_init 78 = .ok (.bipush 96, 2) := by decide +kernel
theorem dX0_init_80 : decode cX0_init 80 = .ok (.newarray .int, 2) := by decide +kernel
theorem dX0_init_82 : decode cX0_init 82 = .ok (.putfield 39, 3) := by decide +kernel
theorem dX0_init_85 : decode cX0_init 85 = .ok (.aload_n 0, 1) := by decide +kernel
theorem dX0_init_86 : decode cX0_init 86 = .ok (.bipush 120, 2) := by decide +kernel
theorem dX0_init_88 : decode cX0_init 88 = .ok (.newarray .long, 2) := by decide +kernel
theorem dX0_init_90 : decode cX0_init 90 = .ok (.putfield 42, 3) := by decide +kernel
theorem dX0_init_93 : decode cX0_init 93 = .ok (.aload_n 0, 1) := by decide +kernel
theorem dX0_init_94 : decode cX0_init 94 = .ok (.iconst 4, 1) := by decide +kernel
theorem dX0_init_95 : decode cX0_init 95 = .ok (.putfield 46, 3) := by decide +kernel
theorem dX0_init_98 : decode cX0_init 98 = .ok (.aload_n 0, 1) := by decide +kernel
theorem dX0_init_99 : decode cX0_init 99 = .ok (.bipush 6, 2) := by decide +kernel
theorem dX0_init_101 : decode cX0_init 101 = .ok (.putfield 50, 3) := by decide +kernel
theorem dX0_init_104 : decode cX0_init 104 = .ok (.return_, 1) := by decide +kernel
theorem dX0_learn_0 : decode cX0_learn 0 = .ok (.aload_n 0, 1) := by decide +kernel
theorem dX0_learn_1 : decode cX0_learn 1 = .ok (.getfield 46, 3) := by decide +kernel
theorem dX0_learn_4 : decode cX0_learn 4 = .ok (.aload_n 1, 1) := by decide +kernel
theorem dX0_learn_5 : decode cX0_learn 5 = .ok (.getfield 53, 3) := by decide +kernel
theorem dX0_learn_8 : decode cX0_learn 8 = .ok (.if_icmp .ne 14, 3) := by decide +kernel
theorem dX0_learn_11 : decode cX0_learn 11 = .ok (.aload_n 0, 1) := by decide +kernel
theorem dX0_learn_12 : decode cX0_learn 12 = .ok (.getfield 50, 3) := by decide +kernel
theorem dX0_learn_15 : decode cX0_learn 15 = .ok (.aload_n 1, 1) := by decide +kernel
theorem dX0_learn_16 : decode cX0_learn 16 = .ok (.getfield 56, 3) := by decide +kernel
theorem dX0_learn_19 : decode cX0_learn 19 = .ok (.if_icmp .eq 27, 3) := by decide +kernel
theorem dX0_learn_22 : decode cX0_learn 22 = .ok (.aload_n 0, 1) := by decide +kernel
theorem dX0_learn_23 : decode cX0_learn 23 = .ok (.aload_n 1, 1) := by decide +kernel
theorem dX0_learn_24 : decode cX0_learn 24 = .ok (.getfield 53, 3) := by decide +kernel
theorem dX0_learn_27 : decode cX0_learn 27 = .ok (.putfield 46, 3) := by decide +kernel
theorem dX0_learn_30 : decode cX0_learn 30 = .ok (.aload_n 0, 1) := by decide +kernel
theorem dX0_learn_31 : decode cX0_learn 31 = .ok (.aload_n 1, 1) := by decide +kernel
theorem dX0_learn_32 : decode cX0_learn 32 = .ok (.getfield 56, 3) := by decide +kernel
theorem dX0_learn_35 : decode cX0_learn 35 = .ok (.putfield 50, 3) := by decide +kernel
theorem dX0_learn_38 : decode cX0_learn 38 = .ok (.aload_n 0, 1) := by decide +kernel
theorem dX0_learn_39 : decode cX0_learn 39 = .ok (.getfield 24, 3) := by decide +kernel
theorem dX0_learn_42 : decode cX0_learn 42 = .ok (.iconst 0, 1) := by decide +kernel
theorem dX0_learn_43 : decode cX0_learn 43 = .ok (.invokestatic 57, 3) := by decide +kernel
theorem dX0_learn_46 : decode cX0_learn 46 = .ok (.aload_n 1, 1) := by decide +kernel
theorem dX0_learn_47 : decode cX0_learn 47 = .ok (.getfield 63, 3) := by decide +kernel
theorem dX0_learn_50 : decode cX0_learn 50 = .ok (.iconst 0, 1) := by decide +kernel
theorem dX0_learn_51 : decode cX0_learn 51 = .ok (.aload_n 0, 1) := by decide +kernel
theorem dX0_learn_52 : decode cX0_learn 52 = .ok (.getfield 9, 3) := by decide +kernel
theorem dX0_learn_55 : decode cX0_learn 55 = .ok (.iconst 0, 1) := by decide +kernel
theorem dX0_learn_56 : decode cX0_learn 56 = .ok (.aload_n 0, 1) := by decide +kernel
theorem dX0_learn_57 : decode cX0_learn 57 = .ok (.getfield 9, 3) := by decide +kernel
theorem dX0_learn_60 : decode cX0_learn 60 = .ok (.arraylength, 1) := by decide +kernel
theorem dX0_learn_61 : decode cX0_learn 61 = .ok (.invokestatic 64, 3) := by decide +kernel
theorem dX0_learn_64 : decode cX0_learn 64 = .ok (.aload_n 2, 1) := by decide +kernel
theorem dX0_learn_65 : decode cX0_learn 65 = .ok (.aload_n 0, 1) := by decide +kernel
theorem dX0_learn_66 : decode cX0_learn 66 = .ok (.getfield 9, 3) := by decide +kernel
theorem dX0_learn_69 : decode cX0_learn 69 = .ok (.iload_n 3, 1) := by decide +kernel
theorem dX0_learn_70 : decode cX0_learn 70 = .ok (.invokevirtual 70, 3) := by decide +kernel
theorem dX0_learn_73 : decode cX0_learn 73 = .ok (.iconst 0, 1) := by decide +kernel
theorem dX0_learn_74 : decode cX0_learn 74 = .ok (.istore 5, 2) := by decide +kernel
theorem dX0_learn_76 : decode cX0_learn 76 = .ok (.iload 5, 2) := by decide +kernel
theorem dX0_learn_78 : decode cX0_learn 78 = .ok (.bipush 8, 2) := by decide +kernel
theorem dX0_learn_80 : decode cX0_learn 80 = .ok (.if_icmp .ge 37, 3) := by decide +kernel
theorem dX0_learn_83 : decode cX0_learn 83 = .ok (.aload_n 0, 1) := by decide +kernel
theorem dX0_learn_84 : decode cX0_learn 84 = .ok (.iload 5, 2) := by decide +kernel
theorem dX0_learn_86 : decode cX0_learn 86 = .ok (.aload_n 1, 1) := by decide +kernel
theorem dX0_learn_87 : decode cX0_learn 87 = .ok (.iload 5, 2) := by decide +kernel
theorem dX0_learn_89 : decode cX0_learn 89 = .ok (.invokevirtual 75, 3) := by decide +kernel
theorem dX0_learn_92 : decode cX0_learn 92 = .ok (.ifCond .eq 13, 3) := by decide +kernel
theorem dX0_learn_95 : decode cX0_learn 95 = .ok (.aload_n 1, 1) := by decide +kernel
theorem dX0_learn_96 : decode cX0_learn 96 = .ok (.getfield 79, 3) := by decide +kernel
theorem dX0_learn_99 : decode cX0_learn 99 = .ok (.iload 5, 2) := by decide +kernel
theorem dX0_learn_101 : decode cX0_learn 101 = .ok (.iaload, 1) := by decide +kernel
theorem dX0_learn_102 : decode cX0_learn 102 = .ok (.goto 4, 3) := by decide +kernel
theorem dX0_learn_105 : decode cX0_learn 105 = .ok (.iconst 0, 1) := by decide +kernel
theorem dX0_learn_106 : decode cX0_learn 106 = .ok (.iload 4, 2) := by decide +kernel
theorem dX0_learn_108 : decode cX0_learn 108 = .ok (.invokevirtual 82, 3) := by decide +kernel
theorem dX0_learn_111 : decode cX0_learn 111 = .ok (.iinc 5 1, 3) := by decide +kernel
theorem dX0_learn_114 : decode cX0_learn 114 = .ok (.goto (-38), 3) := by decide +kernel
theorem dX0_learn_117 : decode cX0_learn 117 = .ok (.return_, 1) := by decide +kernel
theorem dX0_setUp_0 : decode cX0_setUp 0 = .ok (.iload_n 3, 1) := by decide +kernel
theorem dX0_setUp_1 : decode cX0_setUp 1 = .ok (.iconst 2, 1) := by decide +kernel
theorem dX0_setUp_2 : decode cX0_setUp 2 = .ok (.iand, 1) := by decide +kernel
theorem dX0_setUp_3 : decode cX0_setUp 3 = .ok (.ifCond .eq 7, 3) := by decide +kernel
theorem dX0_setUp_6 : decode cX0_setUp 6 = .ok (.iconst 1, 1) := by decide +kernel
theorem dX0_setUp_7 : decode cX0_setUp 7 = .ok (.goto 4, 3) := by decide +kernel
theorem dX0_setUp_10 : decode cX0_setUp 10 = .ok (.iconst 0, 1) := by decide +kernel
theorem dX0_setUp_11 : decode cX0_setUp 11 = .ok (.istore 4, 2) := by decide +kernel
theorem dX0_setUp_13 : decode cX0_setUp 13 = .ok (.iconst 0, 1) := by decide +kernel
theorem dX0_setUp_14 : decode cX0_setUp 14 = .ok (.istore 5, 2) := by decide +kernel
theorem dX0_setUp_16 : decode cX0_setUp 16 = .ok (.iconst 0, 1) := by decide +kernel
theorem dX0_setUp_17 : decode cX0_setUp 17 = .ok (.istore 6, 2) := by decide +kernel
theorem dX0_setUp_19 : decode cX0_setUp 19 = .ok (.iconst 0, 1) := by decide +kernel
theorem dX0_setUp_20 : decode cX0_setUp 20 = .ok (.istore 7, 2) := by decide +kernel
theorem dX0_setUp_22 : decode cX0_setUp 22 = .ok (.iload 7, 2) := by decide +kernel
theorem dX0_setUp_24 : decode cX0_setUp 24 = .ok (.iload_n 2, 1) := by decide +kernel
theorem dX0_setUp_25 : decode cX0_setUp 25 = .ok (.if_icmp .ge 181, 3) := by decide +kernel
theorem dX0_setUp_28 : decode cX0_setUp 28 = .ok (.iload 7, 2) := by decide +kernel
theorem dX0_setUp_30 : decode cX0_setUp 30 = .ok (.bipush 10, 2) := by decide +kernel
theorem dX0_setUp_32 : decode cX0_setUp 32 = .ok (.if_icmp .ge 174, 3) := by decide +kernel
theorem dX0_setUp_35 : decode cX0_setUp 35 = .ok (.iload_n 1, 1) := by decide +kernel
theorem dX0_setUp_36 : decode cX0_setUp 36 = .ok (.iload 7, 2) := by decide +kernel
theorem dX0_setUp_38 : decode cX0_setUp 38 = .ok (.invokestatic 86, 3) := by decide +kernel
theorem dX0_setUp_41 : decode cX0_setUp 41 = .ok (.istore 8, 2) := by decide +kernel
theorem dX0_setUp_43 : decode cX0_setUp 43 = .ok (.aload_n 0, 1) := by decide +kernel
theorem dX0_setUp_44 : decode cX0_setUp 44 = .ok (.getfield 9, 3) := by decide +kernel
theorem dX0_setUp_47 : decode cX0_setUp 47 = .ok (.iload 8, 2) := by decide +kernel
theorem dX0_setUp_49 : decode cX0_setUp 49 = .ok (.iconst 5, 1) := by decide +kernel
theorem dX0_setUp_50 : decode cX0_setUp 50 = .ok (.iadd, 1) := by decide +kernel
theorem dX0_setUp_51 : decode cX0_setUp 51 = .ok (.iaload, 1) := by decide +kernel
theorem dX0_setUp_52 : decode cX0_setUp 52 = .ok (.ifCond .ne 148, 3) := by decide +kernel
theorem dX0_setUp_55 : decode cX0_setUp 55 = .ok (.iload_n 3, 1) := by decide +kernel
theorem dX0_setUp_56 : decode cX0_setUp 56 = .ok (.iconst 1, 1) := by decide +kernel
theorem dX0_setUp_57 : decode cX0_setUp 57 = .ok (.iand, 1) := by decide +kernel
theorem dX0_setUp_58 : decode cX0_setUp 58 = .ok (.ifCond .eq 18, 3) := by decide +kernel
theorem dX0_setUp_61 : decode cX0_setUp 61 = .ok (.aload_n 0, 1) := by decide +kernel
theorem dX0_setUp_62 : decode cX0_setUp 62 = .ok (.getfield 9, 3) := by decide +kernel
theorem dX0_setUp_65 : decode cX0_setUp 65 = .ok (.iload 8, 2) := by decide +kernel
theorem dX0_setUp_67 : decode cX0_setUp 67 = .ok (.iconst 4, 1) := by decide +kernel
theorem dX0_setUp_68 : decode cX0_setUp 68 = .ok (.iadd, 1) := by decide +kernel
theorem dX0_setUp_69 : decode cX0_setUp 69 = .ok (.iaload, 1) := by decide +kernel
theorem dX0_setUp_70 : decode cX0_setUp 70 = .ok (.ifCond .eq 6, 3) := by decide +kernel
theorem dX0_setUp_73 : decode cX0_setUp 73 = .ok (.goto 127, 3) := by decide +kernel
theorem dX0_setUp_76 : decode cX0_setUp 76 = .ok (.aload_n 0, 1) := by decide +kernel
theorem dX0_setUp_77 : decode cX0_setUp 77 = .ok (.getfield 9, 3) := by decide +kernel
theorem dX0_setUp_80 : decode cX0_setUp 80 = .ok (.iload 8, 2) := by decide +kernel
theorem dX0_setUp_82 : decode cX0_setUp 82 = .ok (.iconst 0, 1) := by decide +kernel
theorem dX0_setUp_83 : decode cX0_setUp 83 = .ok (.iadd, 1) := by decide +kernel
theorem dX0_setUp_84 : decode cX0_setUp 84 = .ok (.iaload, 1) := by decide +kernel
theorem dX0_setUp_85 : decode cX0_setUp 85 = .ok (.iload 4, 2) := by decide +kernel
theorem dX0_setUp_87 : decode cX0_setUp 87 = .ok (.ifCond .eq 15, 3) := by decide +kernel
theorem dX0_setUp_90 : decode cX0_setUp 90 = .ok (.aload_n 0, 1) := by decide +kernel
theorem dX0_setUp_91 : decode cX0_setUp 91 = .ok (.getfield 9, 3) := by decide +kernel
theorem dX0_setUp_94 : decode cX0_setUp 94 = .ok (.iload 8, 2) := by decide +kernel
theorem dX0_setUp_96 : decode cX0_setUp 96 = .ok (.iconst 2, 1) := by decide +kernel
theorem dX0_setUp_97 : decode cX0_setUp 97 = .ok (.iadd, 1) := by decide +kernel
theorem dX0_setUp_98 : decode cX0_setUp 98 = .ok (.iaload, 1) := by decide +kernel
theorem dX0_setUp_99 : decode cX0_setUp 99 = .ok (.goto 4, 3) := by decide +kernel
theorem dX0_setUp_102 : decode cX0_setUp 102 = .ok (.iconst 0, 1) := by decide +kernel
theorem dX0_setUp_103 : decode cX0_setUp 103 = .ok (.iadd, 1) := by decide +kernel
theorem dX0_setUp_104 : decode cX0_setUp 104 = .ok (.istore 9, 2) := by decide +kernel
theorem dX0_setUp_106 : decode cX0_setUp 106 = .ok (.aload_n 0, 1) := by decide +kernel
theorem dX0_setUp_107 : decode cX0_setUp 107 = .ok (.getfield 9, 3) := by decide +kernel
theorem dX0_setUp_110 : decode cX0_setUp 110 = .ok (.iload 8, 2) := by decide +kernel
theorem dX0_setUp_112 : decode cX0_setUp 112 = .ok (.iconst 1, 1) := by decide +kernel
theorem dX0_setUp_113 : decode cX0_setUp 113 = .ok (.iadd, 1) := by decide +kernel
theorem dX0_setUp_114 : decode cX0_setUp 114 = .ok (.iaload, 1) := by decide +kernel
theorem dX0_setUp_115 : decode cX0_setUp 115 = .ok (.iload 4, 2) := by decide +kernel
theorem dX0_setUp_117 : decode cX0_setUp 117 = .ok (.ifCond .eq 15, 3) := by decide +kernel
theorem dX0_setUp_120 : decode cX0_setUp 120 = .ok (.aload_n 0, 1) := by decide +kernel
theorem dX0_setUp_121 : decode cX0_setUp 121 = .ok (.getfield 9, 3) := by decide +kernel
theorem dX0_setUp_124 : decode cX0_setUp 124 = .ok (.iload 8, 2) := by decide +kernel
theorem dX0_setUp_126 : decode cX0_setUp 126 = .ok (.iconst 3, 1) := by decide +kernel
theorem dX0_setUp_127 : decode cX0_setUp 127 = .ok (.iadd, 1) := by decide +kernel
theorem dX0_setUp_128 : decode cX0_setUp 128 = .ok (.iaload, 1) := by decide +kernel
theorem dX0_setUp_129 : decode cX0_setUp 129 = .ok (.goto 4, 3) := by decide +kernel
theorem dX0_setUp_132 : decode cX0_setUp 132 = .ok (.iconst 0, 1) := by decide +kernel
theorem dX0_setUp_133 : decode cX0_setUp 133 = .ok (.iadd, 1) := by decide +kernel
theorem dX0_setUp_134 : decode cX0_setUp 134 = .ok (.istore 10, 2) := by decide +kernel
theorem dX0_setUp_136 : decode cX0_setUp 136 = .ok (.iload_n 1, 1) := by decide +kernel
theorem dX0_setUp_137 : decode cX0_setUp 137 = .ok (.bipush 10, 2) := by decide +kernel
theorem dX0_setUp_139 : decode cX0_setUp 139 = .ok (.imul, 1) := by decide +kernel
theorem dX0_setUp_140 : decode cX0_setUp 140 = .ok (.iload 6, 2) := by decide +kernel
theorem dX0_setUp_142 : decode cX0_setUp 142 = .ok (.iadd, 1) := by decide +kernel
theorem dX0_setUp_143 : decode cX0_setUp 143 = .ok (.istore 11, 2) := by decide +kernel
theorem dX0_setUp_145 : decode cX0_setUp 145 = .ok (.iload 5, 2) := by decide +kernel
theorem dX0_setUp_147 : decode cX0_setUp 147 = .ok (.aload_n 0, 1) := by decide +kernel
theorem dX0_setUp_148 : decode cX0_setUp 148 = .ok (.getfield 18, 3) := by decide +kernel
theorem dX0_setUp_151 : decode cX0_setUp 151 = .ok (.iload 11, 2) := by decide +kernel
theorem dX0_setUp_153 : decode cX0_setUp 153 = .ok (.iaload, 1) := by decide +kernel
theorem dX0_setUp_154 : decode cX0_setUp 154 = .ok (.iload 9, 2) := by decide +kernel
theorem dX0_setUp_156 : decode cX0_setUp 156 = .ok (.if_icmp .ne 15, 3) := by decide +kernel
theorem dX0_setUp_159 : decode cX0_setUp 159 = .ok (.aload_n 0, 1) := by decide +kernel
theorem dX0_setUp_160 : decode cX0_setUp 160 = .ok (.getfield 21, 3) := by decide +kernel
theorem dX0_setUp_163 : decode cX0_setUp 163 = .ok (.iload 11, 2) := by decide +kernel
theorem dX0_setUp_165 : decode cX0_setUp 165 = .ok (.iaload, 1) := by decide +kernel
theorem dX0_setUp_166 : decode cX0_setUp 166 = .ok (.iload 10, 2) := by decide +kernel
theorem dX0_setUp_168 : decode cX0_setUp 168 = .ok (.if_icmp .eq 7, 3) := by decide +kernel
theorem dX0_setUp_171 : decode cX0_setUp 171 = .ok (.iconst 1, 1) := by decide +kernel
theorem dX0_setUp_172 : decode cX0_setUp 172 = .ok (.goto 4, 3) := by decide +kernel
theorem dX0_setUp_175 : decode cX0_setUp 175 = .ok (.iconst 0, 1) := by decide +kernel
theorem dX0_setUp_176 : decode cX0_setUp 176 = .ok (.ior, 1) := by decide +kernel
theorem dX0_setUp_177 : decode cX0_setUp 177 = .ok (.istore 5, 2) := by decide +kernel
theorem dX0_setUp_179 : decode cX0_setUp 179 = .ok (.aload_n 0, 1) := by decide +kernel
theorem dX0_setUp_180 : decode cX0_setUp 180 = .ok (.getfield 18, 3) := by decide +kernel
theorem dX0_setUp_183 : decode cX0_setUp 183 = .ok (.iload 11, 2) := by decide +kernel
theorem dX0_setUp_185 : decode cX0_setUp 185 = .ok (.iload 9, 2) := by decide +kernel
theorem dX0_setUp_187 : decode cX0_setUp 187 = .ok (.iastore, 1) := by decide +kernel
theorem dX0_setUp_188 : decode cX0_setUp 188 = .ok (.aload_n 0, 1) := by decide +kernel
theorem dX0_setUp_189 : decode cX0_setUp 189 = .ok (.getfield 21, 3) := by decide +kernel
theorem dX0_setUp_192 : decode cX0_setUp 192 = .ok (.iload 11, 2) := by decide +kernel
theorem dX0_setUp_194 : decode cX0_setUp 194 = .ok (.iload 10, 2) := by decide +kernel
theorem dX0_setUp_196 : decode cX0_setUp 196 = .ok (.iastore, 1) := by decide +kernel
theorem dX0_setUp_197 : decode cX0_setUp 197 = .ok (.iinc 6 1, 3) := by decide +kernel
theorem dX0_setUp_200 : decode cX0_setUp 200 = .ok (.iinc 7 1, 3) := by decide +kernel
theorem dX0_setUp_203 : decode cX0_setUp 203 = .ok (.goto (-181), 3) := by decide +kernel
theorem dX0_setUp_206 : decode cX0_setUp 206 = .ok (.iload 5, 2) := by decide +kernel
theorem dX0_setUp_208 : decode cX0_setUp 208 = .ok (.ifCond .ne 14, 3) := by decide +kernel
theorem dX0_setUp_211 : decode cX0_setUp 211 = .ok (.iload 6, 2) := by decide +kernel
theorem dX0_setUp_213 : decode cX0_setUp 213 = .ok (.aload_n 0, 1) := by decide +kernel
theorem dX0_setUp_214 : decode cX0_setUp 214 = .ok (.getfield 15, 3) := by decide +kernel
theorem dX0_setUp_217 : decode cX0_setUp 217 = .ok (.iload_n 1, 1) := by decide +kernel
theorem dX0_setUp_218 : decode cX0_setUp 218 = .ok (.iaload, 1) := by decide +kernel
theorem dX0_setUp_219 : decode cX0_setUp 219 = .ok (.if_icmp .eq 10, 3) := by decide +kernel
theorem dX0_setUp_222 : decode cX0_setUp 222 = .ok (.aload_n 0, 1) := by decide +kernel
theorem dX0_setUp_223 : decode cX0_setUp 223 = .ok (.getfield 24, 3) := by decide +kernel
theorem dX0_setUp_226 : decode cX0_setUp 226 = .ok (.iload_n 1, 1) := by decide +kernel
theorem dX0_setUp_227 : decode cX0_setUp 227 = .ok (.iconst 0, 1) := by decide +kernel
theorem dX0_setUp_228 : decode cX0_setUp 228 = .ok (.iastore, 1) := by decide +kernel
theorem dX0_setUp_229 : decode cX0_setUp 229 = .ok (.aload_n 0, 1) := by decide +kernel
theorem dX0_setUp_230 : decode cX0_setUp 230 = .ok (.getfield 15, 3) := by decide +kernel
theorem dX0_setUp_233 : decode cX0_setUp 233 = .ok (.iload_n 1, 1) := by decide +kernel
theorem dX0_setUp_234 : decode cX0_setUp 234 = .ok (.iload 6, 2) := by decide +kernel
theorem dX0_setUp_236 : decode cX0_setUp 236 = .ok (.iastore, 1) := by decide +kernel
theorem dX0_setUp_237 : decode cX0_setUp 237 = .ok (.return_, 1) := by decide +kernel
theorem dX0_isAs_0 : decode cX0_isAs 0 = .ok (.aload_n 0, 1) := by decide +kernel
theorem dX0_isAs_1 : decode cX0_isAs 1 = .ok (.getfield 15, 3) := by decide +kernel
theorem dX0_isAs_4 : decode cX0_isAs 4 = .ok (.iload_n 2, 1) := by decide +kernel
theorem dX0_isAs_5 : decode cX0_isAs 5 = .ok (.iaload, 1) := by decide +kernel
theorem dX0_isAs_6 : decode cX0_isAs 6 = .ok (.aload_n 1, 1) := by decide +kernel
theorem dX0_isAs_7 : decode cX0_isAs 7 = .ok (.getfield 15, 3) := by decide +kernel
theorem dX0_isAs_10 : decode cX0_isAs 10 = .ok (.iload_n 2, 1) := by decide +kernel
theorem dX0_isAs_11 : decode cX0_isAs 11 = .ok (.iaload, 1) := by decide +kernel
theorem dX0_isAs_12 : decode cX0_isAs 12 = .ok (.if_icmp .eq 5, 3) := by decide +kernel
theorem dX0_isAs_15 : decode cX0_isAs 15 = .ok (.iconst 0, 1) := by decide +kernel
theorem dX0_isAs_16 : decode cX0_isAs 16 = .ok (.ireturn, 1) := by decide +kernel
theorem dX0_isAs_17 : decode cX0_isAs 17 = .ok (.iconst 0, 1) := by decide +kernel
theorem dX0_isAs_18 : decode cX0_isAs 18 = .ok (.istore_n 3, 1) := by decide +kernel
theorem dX0_isAs_19 : decode cX0_isAs 19 = .ok (.iload_n 3, 1) := by decide +kernel
theorem dX0_isAs_20 : decode cX0_isAs 20 = .ok (.aload_n 0, 1) := by decide +kernel
theorem dX0_isAs_21 : decode cX0_isAs 21 = .ok (.getfield 15, 3) := by decide +kernel
theorem dX0_isAs_24 : decode cX0_isAs 24 = .ok (.iload_n 2, 1) := by decide +kernel
theorem dX0_isAs_25 : decode cX0_isAs 25 = .ok (.iaload, 1) := by decide +kernel
theorem dX0_isAs_26 : decode cX0_isAs 26 = .ok (.if_icmp .ge 59, 3) := by decide +kernel
theorem dX0_isAs_29 : decode cX0_isAs 29 = .ok (.iload_n 3, 1) := by decide +kernel
theorem dX0_isAs_30 : decode cX0_isAs 30 = .ok (.bipush 10, 2) := by decide +kernel
theorem dX0_isAs_32 : decode cX0_isAs 32 = .ok (.if_icmp .ge 53, 3) := by decide +kernel
theorem dX0_isAs_35 : decode cX0_isAs 35 = .ok (.iload_n 2, 1) := by decide +kernel
theorem dX0_isAs_36 : decode cX0_isAs 36 = .ok (.bipush 10, 2) := by decide +kernel
theorem dX0_isAs_38 : decode cX0_isAs 38 = .ok (.imul, 1) := by decide +kernel
theorem dX0_isAs_39 : decode cX0_isAs 39 = .ok (.iload_n 3, 1) := by decide +kernel
theorem dX0_isAs_40 : decode cX0_isAs 40 = .ok (.iadd, 1) := by decide +kernel
theorem dX0_isAs_41 : decode cX0_isAs 41 = .ok (.istore 4, 2) := by decide +kernel
theorem dX0_isAs_43 : decode cX0_isAs 43 = .ok (.aload_n 0, 1) := by decide +kernel
theorem dX0_isAs_44 : decode cX0_isAs 44 = .ok (.getfield 18, 3) := by decide +kernel
theorem dX0_isAs_47 : decode cX0_isAs 47 = .ok (.iload 4, 2) := by decide +kernel
theorem dX0_isAs_49 : decode cX0_isAs 49 = .ok (.iaload, 1) := by decide +kernel
theorem dX0_isAs_50 : decode cX0_isAs 50 = .ok (.aload_n 1, 1) := by decide +kernel
theorem dX0_isAs_51 : decode cX0_isAs 51 = .ok (.getfield 18, 3) := by decide +kernel
theorem dX0_isAs_54 : decode cX0_isAs 54 = .ok (.iload 4, 2) := by decide +kernel
theorem dX0_isAs_56 : decode cX0_isAs 56 = .ok (.iaload, 1) := by decide +kernel
theorem dX0_isAs_57 : decode cX0_isAs 57 = .ok (.if_icmp .ne 20, 3) := by decide +kernel
theorem dX0_isAs_60 : decode cX0_isAs 60 = .ok (.aload_n 0, 1) := by decide +kernel
theorem dX0_isAs_61 : decode cX0_isAs 61 = .ok (.getfield 21, 3) := by decide +kernel
theorem dX0_isAs_64 : decode cX0_isAs 64 = .ok (.iload 4, 2) := by decide +kernel
theorem dX0_isAs_66 : decode cX0_isAs 66 = .ok (.iaload, 1) := by decide +kernel
theorem dX0_isAs_67 : decode cX0_isAs 67 = .ok (.aload_n 1, 1) := by decide +kernel
theorem dX0_isAs_68 : decode cX0_isAs 68 = .ok (.getfield 21, 3) := by decide +kernel
theorem dX0_isAs_71 : decode cX0_isAs 71 = .ok (.iload 4, 2) := by decide +kernel
theorem dX0_isAs_73 : decode cX0_isAs 73 = .ok (.iaload, 1) := by decide +kernel
theorem dX0_isAs_74 : decode cX0_isAs 74 = .ok (.if_icmp .eq 5, 3) := by decide +kernel
theorem dX0_isAs_77 : decode cX0_isAs 77 = .ok (.iconst 0, 1) := by decide +kernel
theorem dX0_isAs_78 : decode cX0_isAs 78 = .ok (.ireturn, 1) := by decide +kernel
theorem dX0_isAs_79 : decode cX0_isAs 79 = .ok (.iinc 3 1, 3) := by decide +kernel
theorem dX0_isAs_82 : decode cX0_isAs 82 = .ok (.goto (-63), 3) := by decide +kernel
theorem dX0_isAs_85 : decode cX0_isAs 85 = .ok (.iconst 1, 1) := by decide +kernel
theorem dX0_isAs_86 : decode cX0_isAs 86 = .ok (.ireturn, 1) := by decide +kernel
theorem dX0_isFitted_0 : decode cX0_isFitted 0 = .ok (.iload_n 1, 1) := by decide +kernel
theorem dX0_isFitted_1 : decode cX0_isFitted 1 = .ok (.ifCond .lt 23, 3) := by decide +kernel
theorem dX0_isFitted_4 : decode cX0_isFitted 4 = .ok (.iload_n 1, 1) := by decide +kernel
theorem dX0_isFitted_5 : decode cX0_isFitted 5 = .ok (.bipush 8, 2) := by decide +kernel
theorem dX0_isFitted_7 : decode cX0_isFitted 7 = .ok (.if_icmp .ge 17, 3) := by decide +kernel
theorem dX0_isFitted_10 : decode cX0_isFitted 10 = .ok (.aload_n 0, 1) := by decide +kernel
theorem dX0_isFitted_11 : decode cX0_isFitted 11 = .ok (.getfield 15, 3) := by decide +kernel
theorem dX0_isFitted_14 : decode cX0_isFitted 14 = .ok (.iload_n 1, 1) := by decide +kernel
theorem dX0_isFitted_15 : decode cX0_isFitted 15 = .ok (.iaload, 1) := by decide +kernel
theorem dX0_isFitted_16 : decode cX0_isFitted 16 = .ok (.iconst 3, 1) := by decide +kernel
theorem dX0_isFitted_17 : decode cX0_isFitted 17 = .ok (.if_icmp .lt 7, 3) := by decide +kernel
theorem dX0_isFitted_20 : decode cX0_isFitted 20 = .ok (.iconst 1, 1) := by decide +kernel
theorem dX0_isFitted_21 : decode cX0_isFitted 21 = .ok (.goto 4, 3) := by decide +kernel
theorem dX0_isFitted_24 : decode cX0_isFitted 24 = .ok (.iconst 0, 1) := by decide +kernel
theorem dX0_isFitted_25 : decode cX0_isFitted 25 = .ok (.ireturn, 1) := by decide +kernel
theorem dX0_fittedRings_0 : decode cX0_fittedRings 0 = .ok (.iconst 0, 1) := by decide +kernel
theorem dX0_fittedRings_1 : decode cX0_fittedRings 1 = .ok (.istore_n 1, 1) := by decide +kernel
theorem dX0_fittedRings_2 : decode cX0_fittedRings 2 = .ok (.iconst 0, 1) := by decide +kernel
theorem dX0_fittedRings_3 : decode cX0_fittedRings 3 = .ok (.istore_n 2, 1) := by decide +kernel
theorem dX0_fittedRings_4 : decode cX0_fittedRings 4 = .ok (.iload_n 2, 1) := by decide +kernel
theorem dX0_fittedRings_5 : decode cX0_fittedRings 5 = .ok (.bipush 8, 2) := by decide +kernel
theorem dX0_fittedRings_7 : decode cX0_fittedRings 7 = .ok (.if_icmp .ge 20, 3) := by decide +kernel
theorem dX0_fittedRings_10 : decode cX0_fittedRings 10 = .ok (.aload_n 0, 1) := by decide +kernel
theorem dX0_fittedRings_11 : decode cX0_fittedRings 11 = .ok (.iload_n 2, 1) := by decide +kernel
theorem dX0_fittedRings_12 : decode cX0_fittedRings 12 = .ok (.invokevirtual 90, 3) := by decide +kernel
theorem dX0_fittedRings_15 : decode cX0_fittedRings 15 = .ok (.ifCond .eq 6, 3) := by decide +kernel
theorem dX0_fittedRings_18 : decode cX0_fittedRings 18 = .ok (.iinc 1 1, 3) := by decide +kernel
theorem dX0_fittedRings_21 : decode cX0_fittedRings 21 = .ok (.iinc 2 1, 3) := by decide +kernel
theorem dX0_fittedRings_24 : decode cX0_fittedRings 24 = .ok (.goto (-20), 3) := by decide +kernel
theorem dX0_fittedRings_27 : decode cX0_fittedRings 27 = .ok (.iload_n 1, 1) := by decide +kernel
theorem dX0_fittedRings_28 : decode cX0_fittedRings 28 = .ok (.ireturn, 1) := by decide +kernel
theorem dX0_fitAt_0 : decode cX0_fitAt 0 = .ok (.aload_n 0, 1) := by decide +kernel
theorem dX0_fitAt_1 : decode cX0_fitAt 1 = .ok (.iload_n 1, 1) := by decide +kernel
theorem dX0_fitAt_2 : decode cX0_fitAt 2 = .ok (.invokevirtual 90, 3) := by decide +kernel
theorem dX0_fitAt_5 : decode cX0_fitAt 5 = .ok (.ifCond .eq 10, 3) := by decide +kernel
theorem dX0_fitAt_8 : decode cX0_fitAt 8 = .ok (.iload_n 2, 1) := by decide +kernel
theorem dX0_fitAt_9 : decode cX0_fitAt 9 = .ok (.invokestatic 93, 3) := by decide +kernel
theorem dX0_fitAt_12 : decode cX0_fitAt 12 = .ok (.ifCond .ne 5, 3) := by decide +kernel
theorem dX0_fitAt_15 : decode cX0_fitAt 15 = .ok (.iconst (-1), 1) := by decide +kernel
theorem dX0_fitAt_16 : decode cX0_fitAt 16 = .ok (.ireturn, 1) := by decide +kernel
theorem dX0_fitAt_17 : decode cX0_fitAt 17 = .ok (.aload_n 0, 1) := by decide +kernel
theorem dX0_fitAt_18 : decode cX0_fitAt 18 = .ok (.iload_n 1, 1) := by decide +kernel
theorem dX0_fitAt_19 : decode cX0_fitAt 19 = .ok (.invokevirtual 96, 3) := by decide +kernel
theorem dX0_fitAt_22 : decode cX0_fitAt 22 = .ok (.iload_n 1, 1) := by decide +kernel
theorem dX0_fitAt_23 : decode cX0_fitAt 23 = .ok (.bipush 12, 2) := by decide +kernel
theorem dX0_fitAt_25 : decode cX0_fitAt 25 = .ok (.imul, 1) := by decide +kernel
theorem dX0_fitAt_26 : decode cX0_fitAt 26 = .ok (.iload_n 2, 1) := by decide +kernel
theorem dX0_fitAt_27 : decode cX0_fitAt 27 = .ok (.iadd, 1) := by decide +kernel
theorem dX0_fitAt_28 : decode cX0_fitAt 28 = .ok (.ireturn, 1) := by decide +kernel
theorem dX0_bestShape_0 : decode cX0_bestShape 0 = .ok (.aload_n 0, 1) := by decide +kernel
theorem dX0_bestShape_1 : decode cX0_bestShape 1 = .ok (.iload_n 1, 1) := by decide +kernel
theorem dX0_bestShape_2 : decode cX0_bestShape 2 = .ok (.invokevirtual 90, 3) := by decide +kernel
theorem dX0_bestShape_5 : decode cX0_bestShape 5 = .ok (.ifCond .ne 5, 3) := by decide +kernel
theorem dX0_bestShape_8 : decode cX0_bestShape 8 = .ok (.iconst (-1), 1) := by decide +kernel
theorem dX0_bestShape_9 : decode cX0_bestShape 9 = .ok (.ireturn, 1) := by decide +kernel
theorem dX0_bestShape_10 : decode cX0_bestShape 10 = .ok (.aload_n 0, 1) := by decide +kernel
theorem dX0_bestShape_11 : decode cX0_bestShape 11 = .ok (.iload_n 1, 1) := by decide +kernel
theorem dX0_bestShape_12 : decode cX0_bestShape 12 = .ok (.invokevirtual 96, 3) := by decide +kernel
theorem dX0_bestShape_15 : decode cX0_bestShape 15 = .ok (.aload_n 0, 1) := by decide +kernel
theorem dX0_bestShape_16 : decode cX0_bestShape 16 = .ok (.getfield 27, 3) := by decide +kernel
theorem dX0_bestShape_19 : decode cX0_bestShape 19 = .ok (.iload_n 1, 1) := by decide +kernel
theorem dX0_bestShape_20 : decode cX0_bestShape 20 = .ok (.iaload, 1) := by decide +kernel
theorem dX0_bestShape_21 : decode cX0_bestShape 21 = .ok (.ireturn, 1) := by decide +kernel
theorem dX0_bestSize_0 : decode cX0_bestSize 0 = .ok (.aload_n 0, 1) := by decide +kernel
theorem dX0_bestSize_1 : decode cX0_bestSize 1 = .ok (.iload_n 1, 1) := by decide +kernel
theorem dX0_bestSize_2 : decode cX0_bestSize 2 = .ok (.invokevirtual 90, 3) := by decide +kernel
theorem dX0_bestSize_5 : decode cX0_bestSize 5 = .ok (.ifCond .ne 5, 3) := by decide +kernel
theorem dX0_bestSize_8 : decode cX0_bestSize 8 = .ok (.iconst (-1), 1) := by decide +kernel
theorem dX0_bestSize_9 : decode cX0_bestSize 9 = .ok (.ireturn, 1) := by decide +kernel
theorem dX0_bestSize_10 : decode cX0_bestSize 10 = .ok (.aload_n 0, 1) := by decide +kernel
theorem dX0_bestSize_11 : decode cX0_bestSize 11 = .ok (.iload_n 1, 1) := by decide +kernel
theorem dX0_bestSize_12 : decode cX0_bestSize 12 = .ok (.invokevirtual 96, 3) := by decide +kernel
theorem dX0_bestSize_15 : decode cX0_bestSize 15 = .ok (.aload_n 0, 1) := by decide +kernel
theorem dX0_bestSize_16 : decode cX0_bestSize 16 = .ok (.getfield 30, 3) := by decide +kernel
theorem dX0_bestSize_19 : decode cX0_bestSize 19 = .ok (.iload_n 1, 1) := by decide +kernel
theorem dX0_bestSize_20 : decode cX0_bestSize 20 = .ok (.bipush 12, 2) := by decide +kernel
theorem dX0_bestSize_22 : decode cX0_bestSize 22 = .ok (.imul, 1) := by decide +kernel
theorem dX0_bestSize_23 : decode cX0_bestSize 23 = .ok (.aload_n 0, 1) := by decide +kernel
theorem dX0_bestSize_24 : decode cX0_bestSize 24 = .ok (.getfield 27, 3) := by decide +kernel
theorem dX0_bestSize_27 : decode cX0_bestSize 27 = .ok (.iload_n 1, 1) := by decide +kernel
theorem dX0_bestSize_28 : decode cX0_bestSize 28 = .ok (.iaload, 1) := by decide +kernel
theorem dX0_bestSize_29 : decode cX0_bestSize 29 = .ok (.iadd, 1) := by decide +kernel
theorem dX0_bestSize_30 : decode cX0_bestSize 30 = .ok (.iaload, 1) := by decide +kernel
theorem dX0_bestSize_31 : decode cX0_bestSize 31 = .ok (.ireturn, 1) := by decide +kernel
theorem dX0_shapesAsWell_0 : decode cX0_shapesAsWell 0 = .ok (.iconst 0, 1) := by decide +kernel
theorem dX0_shapesAsWell_1 : decode cX0_shapesAsWell 1 = .ok (.istore_n 3, 1) := by decide +kernel
theorem dX0_shapesAsWell_2 : decode cX0_shapesAsWell 2 = .ok (.aload_n 0, 1) := by decide +kernel
theorem dX0_shapesAsWell_3 : decode cX0_shapesAsWell 3 = .ok (.iload_n 1, 1) := by decide +kernel
theorem dX0_shapesAsWell_4 : decode cX0_shapesAsWell 4 = .ok (.aload_n 0, 1) := by decide +kernel
theorem dX0_shapesAsWell_5 : decode cX0_shapesAsWell 5 = .ok (.iload_n 1, 1) := by decide +kernel
theorem dX0_shapesAsWell_6 : decode cX0_shapesAsWell 6 = .ok (.invokevirtual 100, 3) := by decide +kernel
theorem dX0_shapesAsWell_9 : decode cX0_shapesAsWell 9 = .ok (.invokevirtual 104, 3) := by decide +kernel
theorem dX0_shapesAsWell_12 : decode cX0_shapesAsWell 12 = .ok (.istore 4, 2) := by decide +kernel
theorem dX0_shapesAsWell_14 : decode cX0_shapesAsWell 14 = .ok (.iconst 0, 1) := by decide +kernel
theorem dX0_shapesAsWell_15 : decode cX0_shapesAsWell 15 = .ok (.istore 5, 2) := by decide +kernel
theorem dX0_shapesAsWell_17 : decode cX0_shapesAsWell 17 = .ok (.iload 5, 2) := by decide +kernel
theorem dX0_shapesAsWell_19 : decode cX0_shapesAsWell 19 = .ok (.bipush 12, 2) := by decide +kernel
theorem dX0_shapesAsWell_21 : decode cX0_shapesAsWell 21 = .ok (.if_icmp .ge 54, 3) := by decide +kernel
theorem dX0_shapesAsWell_24 : decode cX0_shapesAsWell 24 = .ok (.iload 4, 2) := by decide +kernel
theorem dX0_shapesAsWell_26 : decode cX0_shapesAsWell 26 = .ok (.iconst (-1), 1) := by decide +kernel
theorem dX0_shapesAsWell_27 : decode cX0_shapesAsWell 27 = .ok (.if_icmp .eq 48, 3) := by decide +kernel
theorem dX0_shapesAsWell_30 : decode cX0_shapesAsWell 30 = .ok (.iload 5, 2) := by decide +kernel
theorem dX0_shapesAsWell_32 : decode cX0_shapesAsWell 32 = .ok (.invokestatic 93, 3) := by decide +kernel
theorem dX0_shapesAsWell_35 : decode cX0_shapesAsWell 35 = .ok (.ifCond .eq 34, 3) := by decide +kernel
theorem dX0_shapesAsWell_38 : decode cX0_shapesAsWell 38 = .ok (.aload_n 0, 1) := by decide +kernel
theorem dX0_shapesAsWell_39 : decode cX0_shapesAsWell 39 = .ok (.getfield 33, 3) := by decide +kernel
theorem dX0_shapesAsWell_42 : decode cX0_shapesAsWell 42 = .ok (.iload_n 1, 1) := by decide +kernel
theorem dX0_shapesAsWell_43 : decode cX0_shapesAsWell 43 = .ok (.bipush 12, 2) := by decide +kernel
theorem dX0_shapesAsWell_45 : decode cX0_shapesAsWell 45 = .ok (.imul, 1) := by decide +kernel
theorem dX0_shapesAsWell_46 : decode cX0_shapesAsWell 46 = .ok (.iload 5, 2) := by decide +kernel
theorem dX0_shapesAsWell_48 : decode cX0_shapesAsWell 48 = .ok (.iadd, 1) := by decide +kernel
theorem dX0_shapesAsWell_49 : decode cX0_shapesAsWell 49 = .ok (.iaload, 1) := by decide +kernel
theorem dX0_shapesAsWell_50 : decode cX0_shapesAsWell 50 = .ok (.aload_n 0, 1) := by decide +kernel
theorem dX0_shapesAsWell_51 : decode cX0_shapesAsWell 51 = .ok (.getfield 33, 3) := by decide +kernel
theorem dX0_shapesAsWell_54 : decode cX0_shapesAsWell 54 = .ok (.iload 4, 2) := by decide +kernel
theorem dX0_shapesAsWell_56 : decode cX0_shapesAsWell 56 = .ok (.iaload, 1) := by decide +kernel
theorem dX0_shapesAsWell_57 : decode cX0_shapesAsWell 57 = .ok (.iload_n 2, 1) := by decide +kernel
theorem dX0_shapesAsWell_58 : decode cX0_shapesAsWell 58 = .ok (.iadd, 1) := by decide +kernel
theorem dX0_shapesAsWell_59 : decode cX0_shapesAsWell 59 = .ok (.if_icmp .gt 10, 3) := by decide +kernel
theorem dX0_shapesAsWell_62 : decode cX0_shapesAsWell 62 = .ok (.iload_n 3, 1) := by decide +kernel
theorem dX0_shapesAsWell_63 : decode cX0_shapesAsWell 63 = .ok (.iconst 1, 1) := by decide +kernel
theorem dX0_shapesAsWell_64 : decode cX0_shapesAsWell 64 = .ok (.iload 5, 2) := by decide +kernel
theorem dX0_shapesAsWell_66 : decode cX0_shapesAsWell 66 = .ok (.ishl, 1) := by decide +kernel
theorem dX0_shapesAsWell_67 : decode cX0_shapesAsWell 67 = .ok (.ior, 1) := by decide +kernel
theorem dX0_shapesAsWell_68 : decode cX0_shapesAsWell 68 = .ok (.istore_n 3, 1) := by decide +kernel
theorem dX0_shapesAsWell_69 : decode cX0_shapesAsWell 69 = .ok (.iinc 5 1, 3) := by decide +kernel
theorem dX0_shapesAsWell_72 : decode cX0_shapesAsWell 72 = .ok (.goto (-55), 3) := by decide +kernel
theorem dX0_shapesAsWell_75 : decode cX0_shapesAsWell 75 = .ok (.iload_n 3, 1) := by decide +kernel
theorem dX0_shapesAsWell_76 : decode cX0_shapesAsWell 76 = .ok (.ireturn, 1) := by decide +kernel
theorem dX0_edgeOfSpan_0 : decode cX0_edgeOfSpan 0 = .ok (.aload_n 0, 1) := by decide +kernel
theorem dX0_edgeOfSpan_1 : decode cX0_edgeOfSpan 1 = .ok (.iload_n 1, 1) := by decide +kernel
theorem dX0_edgeOfSpan_2 : decode cX0_edgeOfSpan 2 = .ok (.iload_n 2, 1) := by decide +kernel
theorem dX0_edgeOfSpan_3 : decode cX0_edgeOfSpan 3 = .ok (.invokevirtual 107, 3) := by decide +kernel
theorem dX0_edgeOfSpan_6 : decode cX0_edgeOfSpan 6 = .ok (.istore 4, 2) := by decide +kernel
theorem dX0_edgeOfSpan_8 : decode cX0_edgeOfSpan 8 = .ok (.iconst (-1), 1) := by decide +kernel
theorem dX0_edgeOfSpan_9 : decode cX0_edgeOfSpan 9 = .ok (.istore 5, 2) := by decide +kernel
theorem dX0_edgeOfSpan_11 : decode cX0_edgeOfSpan 11 = .ok (.iconst 0, 1) := by decide +kernel
theorem dX0_edgeOfSpan_12 : decode cX0_edgeOfSpan 12 = .ok (.istore 6, 2) := by decide +kernel
theorem dX0_edgeOfSpan_14 : decode cX0_edgeOfSpan 14 = .ok (.iload 6, 2) := by decide +kernel
theorem dX0_edgeOfSpan_16 : decode cX0_edgeOfSpan 16 = .ok (.bipush 12, 2) := by decide +kernel
theorem dX0_edgeOfSpan_18 : decode cX0_edgeOfSpan 18 = .ok (.if_icmp .ge 67, 3) := by decide +kernel
theorem dX0_edgeOfSpan_21 : decode cX0_edgeOfSpan 21 = .ok (.iload 4, 2) := by decide +kernel
theorem dX0_edgeOfSpan_23 : decode cX0_edgeOfSpan 23 = .ok (.iload 6, 2) := by decide +kernel
theorem dX0_edgeOfSpan_25 : decode cX0_edgeOfSpan 25 = .ok (.ishr, 1) := by decide +kernel
theorem dX0_edgeOfSpan_26 : decode cX0_edgeOfSpan 26 = .ok (.iconst 1, 1) := by decide +kernel
theorem dX0_edgeOfSpan_27 : decode cX0_edgeOfSpan 27 = .ok (.iand, 1) := by decide +kernel
theorem dX0_edgeOfSpan_28 : decode cX0_edgeOfSpan 28 = .ok (.ifCond .ne 6, 3) := by decide +kernel
theorem dX0_edgeOfSpan_31 : decode cX0_edgeOfSpan 31 = .ok (.goto 48, 3) := by decide +kernel
theorem dX0_edgeOfSpan_34 : decode cX0_edgeOfSpan 34 = .ok (.aload_n 0, 1) := by decide +kernel
theorem dX0_edgeOfSpan_35 : decode cX0_edgeOfSpan 35 = .ok (.getfield 30, 3) := by decide +kernel
theorem dX0_edgeOfSpan_38 : decode cX0_edgeOfSpan 38 = .ok (.iload_n 1, 1) := by decide +kernel
theorem dX0_edgeOfSpan_39 : decode cX0_edgeOfSpan 39 = .ok (.bipush 12, 2) := by decide +kernel
theorem dX0_edgeOfSpan_41 : decode cX0_edgeOfSpan 41 = .ok (.imul, 1) := by decide +kernel
theorem dX0_edgeOfSpan_42 : decode cX0_edgeOfSpan 42 = .ok (.iload 6, 2) := by decide +kernel
theorem dX0_edgeOfSpan_44 : decode cX0_edgeOfSpan 44 = .ok (.iadd, 1) := by decide +kernel
theorem dX0_edgeOfSpan_45 : decode cX0_edgeOfSpan 45 = .ok (.iaload, 1) := by decide +kernel
theorem dX0_edgeOfSpan_46 : decode cX0_edgeOfSpan 46 = .ok (.istore 7, 2) := by decide +kernel
theorem dX0_edgeOfSpan_48 : decode cX0_edgeOfSpan 48 = .ok (.iload 5, 2) := by decide +kernel
theorem dX0_edgeOfSpan_50 : decode cX0_edgeOfSpan 50 = .ok (.iconst (-1), 1) := by decide +kernel
theorem dX0_edgeOfSpan_51 : decode cX0_edgeOfSpan 51 = .ok (.if_icmp .eq 24, 3) := by decide +kernel
theorem dX0_edgeOfSpan_54 : decode cX0_edgeOfSpan 54 = .ok (.iload_n 3, 1) := by decide +kernel
theorem dX0_edgeOfSpan_55 : decode cX0_edgeOfSpan 55 = .ok (.ifCond .eq 13, 3) := by decide +kernel
theorem dX0_edgeOfSpan_58 : decode cX0_edgeOfSpan 58 = .ok (.iload 7, 2) := by decide +kernel
theorem dX0_edgeOfSpan_60 : decode cX0_edgeOfSpan 60 = .ok (.iload 5, 2) := by decide +kernel
theorem dX0_edgeOfSpan_62 : decode cX0_edgeOfSpan 62 = .ok (.if_icmp .le 17, 3) := by decide +kernel
theorem dX0_edgeOfSpan_65 : decode cX0_edgeOfSpan 65 = .ok (.goto 10, 3) := by decide +kernel
theorem dX0_edgeOfSpan_68 : decode cX0_edgeOfSpan 68 = .ok (.iload 7, 2) := by decide +kernel
theorem dX0_edgeOfSpan_70 : decode cX0_edgeOfSpan 70 = .ok (.iload 5, 2) := by decide +kernel
theorem dX0_edgeOfSpan_72 : decode cX0_edgeOfSpan 72 = .ok (.if_icmp .ge 7, 3) := by decide +kernel
theorem dX0_edgeOfSpan_75 : decode cX0_edgeOfSpan 75 = .ok (.iload 7, 2) := by decide +kernel
theorem dX0_edgeOfSpan_77 : decode cX0_edgeOfSpan 77 = .ok (.istore 5, 2) := by decide +kernel
theorem dX0_edgeOfSpan_79 : decode cX0_edgeOfSpan 79 = .ok (.iinc 6 1, 3) := by decide +kernel
theorem dX0_edgeOfSpan_82 : decode cX0_edgeOfSpan 82 = .ok (.goto (-68), 3) := by decide +kernel
theorem dX0_edgeOfSpan_85 : decode cX0_edgeOfSpan 85 = .ok (.iload 5, 2) := by decide +kernel
theorem dX0_edgeOfSpan_87 : decode cX0_edgeOfSpan 87 = .ok (.ireturn, 1) := by decide +kernel
theorem dX0_shapeLeastOff_0 : decode cX0_shapeLeastOff 0 = .ok (.aload_n 0, 1) := by decide +kernel
theorem dX0_shapeLeastOff_1 : decode cX0_shapeLeastOff 1 = .ok (.iload_n 1, 1) := by decide +kernel
theorem dX0_shapeLeastOff_2 : decode cX0_shapeLeastOff 2 = .ok (.iload_n 2, 1) := by decide +kernel
theorem dX0_shapeLeastOff_3 : decode cX0_shapeLeastOff 3 = .ok (.invokevirtual 107, 3) := by decide +kernel
theorem dX0_shapeLeastOff_6 : decode cX0_shapeLeastOff 6 = .ok (.istore 4, 2) := by decide +kernel
theorem dX0_shapeLeastOff_8 : decode cX0_shapeLeastOff 8 = .ok (.iconst (-1), 1) := by decide +kernel
theorem dX0_shapeLeastOff_9 : decode cX0_shapeLeastOff 9 = .ok (.istore 5, 2) := by decide +kernel
theorem dX0_shapeLeastOff_11 : decode cX0_shapeLeastOff 11 = .ok (.iconst 0, 1) := by decide +kernel
theorem dX0_shapeLeastOff_12 : decode cX0_shapeLeastOff 12 = .ok (.istore 6, 2) := by decide +kernel
theorem dX0_shapeLeastOff_14 : decode cX0_shapeLeastOff 14 = .ok (.iconst 0, 1) := by decide +kernel
theorem dX0_shapeLeastOff_15 : decode cX0_shapeLeastOff 15 = .ok (.istore 7, 2) := by decide +kernel
theorem dX0_shapeLeastOff_17 : decode cX0_shapeLeastOff 17 = .ok (.iload 7, 2) := by decide +kernel
theorem dX0_shapeLeastOff_19 : decode cX0_shapeLeastOff 19 = .ok (.bipush 12, 2) := by decide +kernel
theorem dX0_shapeLeastOff_21 : decode cX0_shapeLeastOff 21 = .ok (.if_icmp .ge 61, 3) := by decide +kernel
theorem dX0_shapeLeastOff_24 : decode cX0_shapeLeastOff 24 = .ok (.iload 4, 2) := by decide +kernel
theorem dX0_shapeLeastOff_26 : decode cX0_shapeLeastOff 26 = .ok (.iload 7, 2) := by decide +kernel
theorem dX0_shapeLeastOff_28 : decode cX0_shapeLeastOff 28 = .ok (.ishr, 1) := by decide +kernel
theorem dX0_shapeLeastOff_29 : decode cX0_shapeLeastOff 29 = .ok (.iconst 1, 1) := by decide +kernel
theorem dX0_shapeLeastOff_30 : decode cX0_shapeLeastOff 30 = .ok (.iand, 1) := by decide +kernel
theorem dX0_shapeLeastOff_31 : decode cX0_shapeLeastOff 31 = .ok (.ifCond .ne 6, 3) := by decide +kernel
theorem dX0_shapeLeastOff_34 : decode cX0_shapeLeastOff 34 = .ok (.goto 42, 3) := by decide +kernel
theorem dX0_shapeLeastOff_37 : decode cX0_shapeLeastOff 37 = .ok (.aload_n 0, 1) := by decide +kernel
theorem dX0_shapeLeastOff_38 : decode cX0_shapeLeastOff 38 = .ok (.getfield 30, 3) := by decide +kernel
theorem dX0_shapeLeastOff_41 : decode cX0_shapeLeastOff 41 = .ok (.iload_n 1, 1) := by decide +kernel
theorem dX0_shapeLeastOff_42 : decode cX0_shapeLeastOff 42 = .ok (.bipush 12, 2) := by decide +kernel
theorem dX0_shapeLeastOff_44 : decode cX0_shapeLeastOff 44 = .ok (.imul, 1) := by decide +kernel
theorem dX0_shapeLeastOff_45 : decode cX0_shapeLeastOff 45 = .ok (.iload 7, 2) := by decide +kernel
theorem dX0_shapeLeastOff_47 : decode cX0_shapeLeastOff 47 = .ok (.iadd, 1) := by decide +kernel
theorem dX0_shapeLeastOff_48 : decode cX0_shapeLeastOff 48 = .ok (.iaload, 1) := by decide +kernel
theorem dX0_shapeLeastOff_49 : decode cX0_shapeLeastOff 49 = .ok (.iload_n 3, 1) := by decide +kernel
theorem dX0_shapeLeastOff_50 : decode cX0_shapeLeastOff 50 = .ok (.invokestatic 110, 3) := by decide +kernel
theorem dX0_shapeLeastOff_53 : decode cX0_shapeLeastOff 53 = .ok (.istore 8, 2) := by decide +kernel
theorem dX0_shapeLeastOff_55 : decode cX0_shapeLeastOff 55 = .ok (.iload 5, 2) := by decide +kernel
theorem dX0_shapeLeastOff_57 : decode cX0_shapeLeastOff 57 = .ok (.iconst (-1), 1) := by decide +kernel
theorem dX0_shapeLeastOff_58 : decode cX0_shapeLeastOff 58 = .ok (.if_icmp .eq 10, 3) := by decide +kernel
theorem dX0_shapeLeastOff_61 : decode cX0_shapeLeastOff 61 = .ok (.iload 8, 2) := by decide +kernel
theorem dX0_shapeLeastOff_63 : decode cX0_shapeLeastOff 63 = .ok (.iload 6, 2) := by decide +kernel
theorem dX0_shapeLeastOff_65 : decode cX0_shapeLeastOff 65 = .ok (.if_icmp .ge 11, 3) := by decide +kernel
theorem dX0_shapeLeastOff_68 : decode cX0_shapeLeastOff 68 = .ok (.iload 7, 2) := by decide +kernel
theorem dX0_shapeLeastOff_70 : decode cX0_shapeLeastOff 70 = .ok (.istore 5, 2) := by decide +kernel
theorem dX0_shapeLeastOff_72 : decode cX0_shapeLeastOff 72 = .ok (.iload 8, 2) := by decide +kernel
theorem dX0_shapeLeastOff_74 : decode cX0_shapeLeastOff 74 = .ok (.istore 6, 2) := by decide +kernel
theorem dX0_shapeLeastOff_76 : decode cX0_shapeLeastOff 76 = .ok (.iinc 7 1, 3) := by decide +kernel
theorem dX0_shapeLeastOff_79 : decode cX0_shapeLeastOff 79 = .ok (.goto (-62), 3) := by decide +kernel
theorem dX0_shapeLeastOff_82 : decode cX0_shapeLeastOff 82 = .ok (.iload 5, 2) := by decide +kernel
theorem dX0_shapeLeastOff_84 : decode cX0_shapeLeastOff 84 = .ok (.ireturn, 1) := by decide +kernel
theorem dX0_workOut_0 : decode cX0_workOut 0 = .ok (.aload_n 0, 1) := by decide +kernel
theorem dX0_workOut_1 : decode cX0_workOut 1 = .ok (.getfield 24, 3) := by decide +kernel
theorem dX0_workOut_4 : decode cX0_workOut 4 = .ok (.iload_n 1, 1) := by decide +kernel
theorem dX0_workOut_5 : decode cX0_workOut 5 = .ok (.iaload, 1) := by decide +kernel
theorem dX0_workOut_6 : decode cX0_workOut 6 = .ok (.ifCond .eq 4, 3) := by decide +kernel
theorem dX0_workOut_9 : decode cX0_workOut 9 = .ok (.return_, 1) := by decide +kernel
theorem dX0_workOut_10 : decode cX0_workOut 10 = .ok (.aload_n 0, 1) := by decide +kernel
theorem dX0_workOut_11 : decode cX0_workOut 11 = .ok (.getfield 24, 3) := by decide +kernel
theorem dX0_workOut_14 : decode cX0_workOut 14 = .ok (.iload_n 1, 1) := by decide +kernel
theorem dX0_workOut_15 : decode cX0_workOut 15 = .ok (.iconst 1, 1) := by decide +kernel
theorem dX0_workOut_16 : decode cX0_workOut 16 = .ok (.iastore, 1) := by decide +kernel
theorem dX0_workOut_17 : decode cX0_workOut 17 = .ok (.iconst 0, 1) := by decide +kernel
theorem dX0_workOut_18 : decode cX0_workOut 18 = .ok (.istore_n 2, 1) := by decide +kernel
theorem dX0_workOut_19 : decode cX0_workOut 19 = .ok (.iload_n 2, 1) := by decide +kernel
theorem dX0_workOut_20 : decode cX0_workOut 20 = .ok (.bipush 12, 2) := by decide +kernel
theorem dX0_workOut_22 : decode cX0_workOut 22 = .ok (.if_icmp .ge 22, 3) := by decide +kernel
theorem dX0_workOut_25 : decode cX0_workOut 25 = .ok (.aload_n 0, 1) := by decide +kernel
theorem dX0_workOut_26 : decode cX0_workOut 26 = .ok (.getfield 33, 3) := by decide +kernel
theorem dX0_workOut_29 : decode cX0_workOut 29 = .ok (.iload_n 1, 1) := by decide +kernel
theorem dX0_workOut_30 : decode cX0_workOut 30 = .ok (.bipush 12, 2) := by decide +kernel
theorem dX0_workOut_32 : decode cX0_workOut 32 = .ok (.imul, 1) := by decide +kernel
theorem dX0_workOut_33 : decode cX0_workOut 33 = .ok (.iload_n 2, 1) := by decide +kernel
theorem dX0_workOut_34 : decode cX0_workOut 34 = .ok (.iadd, 1) := by decide +kernel
theorem dX0_workOut_35 : decode cX0_workOut 35 = .ok (.ldc 115, 2) := by decide +kernel
theorem dX0_workOut_37 : decode cX0_workOut 37 = .ok (.iastore, 1) := by decide +kernel
theorem dX0_workOut_38 : decode cX0_workOut 38 = .ok (.iinc 2 1, 3) := by decide +kernel
theorem dX0_workOut_41 : decode cX0_workOut 41 = .ok (.goto (-22), 3) := by decide +kernel
theorem dX0_workOut_44 : decode cX0_workOut 44 = .ok (.aload_n 0, 1) := by decide +kernel
theorem dX0_workOut_45 : decode cX0_workOut 45 = .ok (.aload_n 0, 1) := by decide +kernel
theorem dX0_workOut_46 : decode cX0_workOut 46 = .ok (.getfield 18, 3) := by decide +kernel
theorem dX0_workOut_49 : decode cX0_workOut 49 = .ok (.iload_n 1, 1) := by decide +kernel
theorem dX0_workOut_50 : decode cX0_workOut 50 = .ok (.invokevirtual 116, 3) := by decide +kernel
theorem dX0_workOut_53 : decode cX0_workOut 53 = .ok (.istore_n 2, 1) := by decide +kernel
theorem dX0_workOut_54 : decode cX0_workOut 54 = .ok (.aload_n 0, 1) := by decide +kernel
theorem dX0_workOut_55 : decode cX0_workOut 55 = .ok (.aload_n 0, 1) := by decide +kernel
theorem dX0_workOut_56 : decode cX0_workOut 56 = .ok (.getfield 21, 3) := by decide +kernel
theorem dX0_workOut_59 : decode cX0_workOut 59 = .ok (.iload_n 1, 1) := by decide +kernel
theorem dX0_workOut_60 : decode cX0_workOut 60 = .ok (.invokevirtual 116, 3) := by decide +kernel
theorem dX0_workOut_63 : decode cX0_workOut 63 = .ok (.istore_n 3, 1) := by decide +kernel
theorem dX0_workOut_64 : decode cX0_workOut 64 = .ok (.aload_n 0, 1) := by decide +kernel
theorem dX0_workOut_65 : decode cX0_workOut 65 = .ok (.getfield 46, 3) := by decide +kernel
theorem dX0_workOut_68 : decode cX0_workOut 68 = .ok (.ineg, 1) := by decide +kernel
theorem dX0_workOut_69 : decode cX0_workOut 69 = .ok (.istore 4, 2) := by decide +kernel
theorem dX0_workOut_71 : decode cX0_workOut 71 = .ok (.iload 4, 2) := by decide +kernel
theorem dX0_workOut_73 : decode cX0_workOut 73 = .ok (.aload_n 0, 1) := by decide +kernel
theorem dX0_workOut_74 : decode cX0_workOut 74 = .ok (.getfield 46, 3) := by decide +kernel
theorem dX0_workOut_77 : decode cX0_workOut 77 = .ok (.if_icmp .gt 72, 3) := by decide +kernel
theorem dX0_workOut_80 : decode cX0_workOut 80 = .ok (.aload_n 0, 1) := by decide +kernel
theorem dX0_workOut_81 : decode cX0_workOut 81 = .ok (.getfield 46, 3) := by decide +kernel
theorem dX0_workOut_84 : decode cX0_workOut 84 = .ok (.ineg, 1) := by decide +kernel
theorem dX0_workOut_85 : decode cX0_workOut 85 = .ok (.istore 5, 2) := by decide +kernel
theorem dX0_workOut_87 : decode cX0_workOut 87 = .ok (.iload 5, 2) := by decide +kernel
theorem dX0_workOut_89 : decode cX0_workOut 89 = .ok (.aload_n 0, 1) := by decide +kernel
theorem dX0_workOut_90 : decode cX0_workOut 90 = .ok (.getfield 46, 3) := by decide +kernel
theorem dX0_workOut_93 : decode cX0_workOut 93 = .ok (.if_icmp .gt 50, 3) := by decide +kernel
theorem dX0_workOut_96 : decode cX0_workOut 96 = .ok (.iconst 0, 1) := by decide +kernel
theorem dX0_workOut_97 : decode cX0_workOut 97 = .ok (.istore 6, 2) := by decide +kernel
theorem dX0_workOut_99 : decode cX0_workOut 99 = .ok (.iload 6, 2) := by decide +kernel
theorem dX0_workOut_101 : decode cX0_workOut 101 = .ok (.bipush 12, 2) := by decide +kernel
theorem dX0_workOut_103 : decode cX0_workOut 103 = .ok (.if_icmp .ge 34, 3) := by decide +kernel
theorem dX0_workOut_106 : decode cX0_workOut 106 = .ok (.aload_n 0, 1) := by decide +kernel
theorem dX0_workOut_107 : decode cX0_workOut 107 = .ok (.iload_n 1, 1) := by decide +kernel
theorem dX0_workOut_108 : decode cX0_workOut 108 = .ok (.iload 6, 2) := by decide +kernel
theorem dX0_workOut_110 : decode cX0_workOut 110 = .ok (.iload_n 2, 1) := by decide +kernel
theorem dX0_workOut_111 : decode cX0_workOut 111 = .ok (.iload 4, 2) := by decide +kernel
theorem dX0_workOut_113 : decode cX0_workOut 113 = .ok (.aload_n 0, 1) := by decide +kernel
theorem dX0_workOut_114 : decode cX0_workOut 114 = .ok (.getfield 50, 3) := by decide +kernel
theorem dX0_workOut_117 : decode cX0_workOut 117 = .ok (.imul, 1) := by decide +kernel
theorem dX0_workOut_118 : decode cX0_workOut 118 = .ok (.iadd, 1) := by decide +kernel
theorem dX0_workOut_119 : decode cX0_workOut 119 = .ok (.iload_n 3, 1) := by decide +kernel
theorem dX0_workOut_120 : decode cX0_workOut 120 = .ok (.iload 5, 2) := by decide +kernel
theorem dX0_workOut_122 : decode cX0_workOut 122 = .ok (.aload_n 0, 1) := by decide +kernel
theorem dX0_workOut_123 : decode cX0_workOut 123 = .ok (.getfield 50, 3) := by decide +kernel
theorem dX0_workOut_126 : decode cX0_workOut 126 = .ok (.imul, 1) := by decide +kernel
theorem dX0_workOut_127 : decode cX0_workOut 127 = .ok (.iadd, 1) := by decide +kernel
theorem dX0_workOut_128 : decode cX0_workOut 128 = .ok (.invokevirtual 120, 3) := by decide +kernel
theorem dX0_workOut_131 : decode cX0_workOut 131 = .ok (.iinc 6 1, 3) := by decide +kernel
theorem dX0_workOut_134 : decode cX0_workOut 134 = .ok (.goto (-35), 3) := by decide +kernel
theorem dX0_workOut_137 : decode cX0_workOut 137 = .ok (.iinc 5 1, 3) := by decide +kernel
theorem dX0_workOut_140 : decode cX0_workOut 140 = .ok (.goto (-53), 3) := by decide +kernel
theorem dX0_workOut_143 : decode cX0_workOut 143 = .ok (.iinc 4 1, 3) := by decide +kernel
theorem dX0_workOut_146 : decode cX0_workOut 146 = .ok (.goto (-75), 3) := by decide +kernel
theorem dX0_workOut_149 : decode cX0_workOut 149 = .ok (.aload_n 0, 1) := by decide +kernel
theorem dX0_workOut_150 : decode cX0_workOut 150 = .ok (.getfield 27, 3) := by decide +kernel
theorem dX0_workOut_153 : decode cX0_workOut 153 = .ok (.iload_n 1, 1) := by decide +kernel
theorem dX0_workOut_154 : decode cX0_workOut 154 = .ok (.iconst 0, 1) := by decide +kernel
theorem dX0_workOut_155 : decode cX0_workOut 155 = .ok (.iastore, 1) := by decide +kernel
theorem dX0_workOut_156 : decode cX0_workOut 156 = .ok (.iconst 4, 1) := by decide +kernel
theorem dX0_workOut_157 : decode cX0_workOut 157 = .ok (.istore 4, 2) := by decide +kernel
theorem dX0_workOut_159 : decode cX0_workOut 159 = .ok (.iload 4, 2) := by decide +kernel
theorem dX0_workOut_161 : decode cX0_workOut 161 = .ok (.bipush 12, 2) := by decide +kernel
theorem dX0_workOut_163 : decode cX0_workOut 163 = .ok (.if_icmp .ge 48, 3) := by decide +kernel
theorem dX0_workOut_166 : decode cX0_workOut 166 = .ok (.aload_n 0, 1) := by decide +kernel
theorem dX0_workOut_167 : decode cX0_workOut 167 = .ok (.getfield 33, 3) := by decide +kernel
theorem dX0_workOut_170 : decode cX0_workOut 170 = .ok (.iload_n 1, 1) := by decide +kernel
theorem dX0_workOut_171 : decode cX0_workOut 171 = .ok (.bipush 12, 2) := by decide +kernel
theorem dX0_workOut_173 : decode cX0_workOut 173 = .ok (.imul, 1) := by decide +kernel
theorem dX0_workOut_174 : decode cX0_workOut 174 = .ok (.iload 4, 2) := by decide +kernel
theorem dX0_workOut_176 : decode cX0_workOut 176 = .ok (.iadd, 1) := by decide +kernel
theorem dX0_workOut_177 : decode cX0_workOut 177 = .ok (.iaload, 1) := by decide +kernel
theorem dX0_workOut_178 : decode cX0_workOut 178 = .ok (.aload_n 0, 1) := by decide +kernel
theorem dX0_workOut_179 : decode cX0_workOut 179 = .ok (.getfield 33, 3) := by decide +kernel
theorem dX0_workOut_182 : decode cX0_workOut 182 = .ok (.iload_n 1, 1) := by decide +kernel
theorem dX0_workOut_183 : decode cX0_workOut 183 = .ok (.bipush 12, 2) := by decide +kernel
theorem dX0_workOut_185 : decode cX0_workOut 185 = .ok (.imul, 1) := by decide +kernel
theorem dX0_workOut_186 : decode cX0_workOut 186 = .ok (.aload_n 0, 1) := by decide +kernel
theorem dX0_workOut_187 : decode cX0_workOut 187 = .ok (.getfield 27, 3) := by decide +kernel
theorem dX0_workOut_190 : decode cX0_workOut 190 = .ok (.iload_n 1, 1) := by decide +kernel
theorem dX0_workOut_191 : decode cX0_workOut 191 = .ok (.iaload, 1) := by decide +kernel
theorem dX0_workOut_192 : decode cX0_workOut 192 = .ok (.iadd, 1) := by decide +kernel
theorem dX0_workOut_193 : decode cX0_workOut 193 = .ok (.iaload, 1) := by decide +kernel
theorem dX0_workOut_194 : decode cX0_workOut 194 = .ok (.if_icmp .ge 11, 3) := by decide +kernel
theorem dX0_workOut_197 : decode cX0_workOut 197 = .ok (.aload_n 0, 1) := by decide +kernel
theorem dX0_workOut_198 : decode cX0_workOut 198 = .ok (.getfield 27, 3) := by decide +kernel
theorem dX0_workOut_201 : decode cX0_workOut 201 = .ok (.iload_n 1, 1) := by decide +kernel
theorem dX0_workOut_202 : decode cX0_workOut 202 = .ok (.iload 4, 2) := by decide +kernel
theorem dX0_workOut_204 : decode cX0_workOut 204 = .ok (.iastore, 1) := by decide +kernel
theorem dX0_workOut_205 : decode cX0_workOut 205 = .ok (.iinc 4 1, 3) := by decide +kernel
theorem dX0_workOut_208 : decode cX0_workOut 208 = .ok (.goto (-49), 3) := by decide +kernel
theorem dX0_workOut_211 : decode cX0_workOut 211 = .ok (.return_, 1) := by decide +kernel
theorem dX0_meanOf_0 : decode cX0_meanOf 0 = .ok (.aload_n 0, 1) := by decide +kernel
theorem dX0_meanOf_1 : decode cX0_meanOf 1 = .ok (.getfield 15, 3) := by decide +kernel
theorem dX0_meanOf_4 : decode cX0_meanOf 4 = .ok (.iload_n 2, 1) := by decide +kernel
theorem dX0_meanOf_5 : decode cX0_meanOf 5 = .ok (.iaload, 1) := by decide +kernel
theorem dX0_meanOf_6 : decode cX0_meanOf 6 = .ok (.istore_n 3, 1) := by decide +kernel
theorem dX0_meanOf_7 : decode cX0_meanOf 7 = .ok (.iconst 0, 1) := by decide +kernel
theorem dX0_meanOf_8 : decode cX0_meanOf 8 = .ok (.istore 4, 2) := by decide +kernel
theorem dX0_meanOf_10 : decode cX0_meanOf 10 = .ok (.iconst 0, 1) := by decide +kernel
theorem dX0_meanOf_11 : decode cX0_meanOf 11 = .ok (.istore 5, 2) := by decide +kernel
theorem dX0_meanOf_13 : decode cX0_meanOf 13 = .ok (.iload 5, 2) := by decide +kernel
theorem dX0_meanOf_15 : decode cX0_meanOf 15 = .ok (.iload_n 3, 1) := by decide +kernel
theorem dX0_meanOf_16 : decode cX0_meanOf 16 = .ok (.if_icmp .ge 30, 3) := by decide +kernel
theorem dX0_meanOf_19 : decode cX0_meanOf 19 = .ok (.iload 5, 2) := by decide +kernel
theorem dX0_meanOf_21 : decode cX0_meanOf 21 = .ok (.bipush 10, 2) := by decide +kernel
theorem dX0_meanOf_23 : decode cX0_meanOf 23 = .ok (.if_icmp .ge 23, 3) := by decide +kernel
theorem dX0_meanOf_26 : decode cX0_meanOf 26 = .ok (.iload 4, 2) := by decide +kernel
theorem dX0_meanOf_28 : decode cX0_meanOf 28 = .ok (.aload_n 1, 1) := by decide +kernel
theorem dX0_meanOf_29 : decode cX0_meanOf 29 = .ok (.iload_n 2, 1) := by decide +kernel
theorem dX0_meanOf_30 : decode cX0_meanOf 30 = .ok (.bipush 10, 2) := by decide +kernel
theorem dX0_meanOf_32 : decode cX0_meanOf 32 = .ok (.imul, 1) := by decide +kernel
theorem dX0_meanOf_33 : decode cX0_meanOf 33 = .ok (.iload 5, 2) := by decide +kernel
theorem dX0_meanOf_35 : decode cX0_meanOf 35 = .ok (.iadd, 1) := by decide +kernel
theorem dX0_meanOf_36 : decode cX0_meanOf 36 = .ok (.iaload, 1) := by decide +kernel
theorem dX0_meanOf_37 : decode cX0_meanOf 37 = .ok (.iadd, 1) := by decide +kernel
theorem dX0_meanOf_38 : decode cX0_meanOf 38 = .ok (.istore 4, 2) := by decide +kernel
theorem dX0_meanOf_40 : decode cX0_meanOf 40 = .ok (.iinc 5 1, 3) := by decide +kernel
theorem dX0_meanOf_43 : decode cX0_meanOf 43 = .ok (.goto (-30), 3) := by decide +kernel
theorem dX0_meanOf_46 : decode cX0_meanOf 46 = .ok (.iload_n 3, 1) := by decide +kernel
theorem dX0_meanOf_47 : decode cX0_meanOf 47 = .ok (.ifCond .le 12, 3) := by decide +kernel
theorem dX0_meanOf_50 : decode cX0_meanOf 50 = .ok (.iload 4, 2) := by decide +kernel
theorem dX0_meanOf_52 : decode cX0_meanOf 52 = .ok (.iload_n 3, 1) := by decide +kernel
theorem dX0_meanOf_53 : decode cX0_meanOf 53 = .ok (.invokestatic 124, 3) := by decide +kernel
theorem dX0_meanOf_56 : decode cX0_meanOf 56 = .ok (.goto 4, 3) := by decide +kernel
theorem dX0_meanOf_59 : decode cX0_meanOf 59 = .ok (.iconst 0, 1) := by decide +kernel
theorem dX0_meanOf_60 : decode cX0_meanOf 60 = .ok (.ireturn, 1) := by decide +kernel
theorem dX0_tryMiddle_0 : decode cX0_tryMiddle 0 = .ok (.aload_n 0, 1) := by decide +kernel
theorem dX0_tryMiddle_1 : decode cX0_tryMiddle 1 = .ok (.getfield 15, 3) := by decide +kernel
theorem dX0_tryMiddle_4 : decode cX0_tryMiddle 4 = .ok (.iload_n 1, 1) := by decide +kernel
theorem dX0_tryMiddle_5 : decode cX0_tryMiddle 5 = .ok (.iaload, 1) := by decide +kernel
theorem dX0_tryMiddle_6 : decode cX0_tryMiddle 6 = .ok (.bipush 10, 2) := by decide +kernel
theorem dX0_tryMiddle_8 : decode cX0_tryMiddle 8 = .ok (.invokestatic 129, 3) := by decide +kernel
theorem dX0_tryMiddle_11 : decode cX0_tryMiddle 11 = .ok (.istore 5, 2) := by decide +kernel
theorem dX0_tryMiddle_13 : decode cX0_tryMiddle 13 = .ok (.iload 5, 2) := by decide +kernel
theorem dX0_tryMiddle_15 : decode cX0_tryMiddle 15 = .ok (.ifCond .le 10, 3) := by decide +kernel
theorem dX0_tryMiddle_18 : decode cX0_tryMiddle 18 = .ok (.iload_n 2, 1) := by decide +kernel
theorem dX0_tryMiddle_19 : decode cX0_tryMiddle 19 = .ok (.invokestatic 93, 3) := by decide +kernel
theorem dX0_tryMiddle_22 : decode cX0_tryMiddle 22 = .ok (.ifCond .ne 4, 3) := by decide +kernel
theorem dX0_tryMiddle_25 : decode cX0_tryMiddle 25 = .ok (.return_, 1) := by decide +kernel
theorem dX0_tryMiddle_26 : decode cX0_tryMiddle 26 = .ok (.lconst 0, 1) := by decide +kernel
theorem dX0_tryMiddle_27 : decode cX0_tryMiddle 27 = .ok (.lstore 6, 2) := by decide +kernel
theorem dX0_tryMiddle_29 : decode cX0_tryMiddle 29 = .ok (.iconst 0, 1) := by decide +kernel
theorem dX0_tryMiddle_30 : decode cX0_tryMiddle 30 = .ok (.istore 8, 2) := by decide +kernel
theorem dX0_tryMiddle_32 : decode cX0_tryMiddle 32 = .ok (.iload 8, 2) := by decide +kernel
theorem dX0_tryMiddle_34 : decode cX0_tryMiddle 34 = .ok (.iload 5, 2) := by decide +kernel
theorem dX0_tryMiddle_36 : decode cX0_tryMiddle 36 = .ok (.if_icmp .ge 73, 3) := by decide +kernel
theorem dX0_tryMiddle_39 : decode cX0_tryMiddle 39 = .ok (.iload_n 1, 1) := by decide +kernel
theorem dX0_tryMiddle_40 : decode cX0_tryMiddle 40 = .ok (.bipush 10, 2) := by decide +kernel
theorem dX0_tryMiddle_42 : decode cX0_tryMiddle 42 = .ok (.imul, 1) := by decide +kernel
theorem dX0_tryMiddle_43 : decode cX0_tryMiddle 43 = .ok (.iload 8, 2) := by decide +kernel
theorem dX0_tryMiddle_45 : decode cX0_tryMiddle 45 = .ok (.iadd, 1) := by decide +kernel
theorem dX0_tryMiddle_46 : decode cX0_tryMiddle 46 = .ok (.istore 9, 2) := by decide +kernel
theorem dX0_tryMiddle_48 : decode cX0_tryMiddle 48 = .ok (.aload_n 0, 1) := by decide +kernel
theorem dX0_tryMiddle_49 : decode cX0_tryMiddle 49 = .ok (.getfield 42, 3) := by decide +kernel
theorem dX0_tryMiddle_52 : decode cX0_tryMiddle 52 = .ok (.iload_n 2, 1) := by decide +kernel
theorem dX0_tryMiddle_53 : decode cX0_tryMiddle 53 = .ok (.bipush 10, 2) := by decide +kernel
theorem dX0_tryMiddle_55 : decode cX0_tryMiddle 55 = .ok (.imul, 1) := by decide +kernel
theorem dX0_tryMiddle_56 : decode cX0_tryMiddle 56 = .ok (.iload 8, 2) := by decide +kernel
theorem dX0_tryMiddle_58 : decode cX0_tryMiddle 58 = .ok (.iadd, 1) := by decide +kernel
theorem dX0_tryMiddle_59 : decode cX0_tryMiddle 59 = .ok (.aload_n 0, 1) := by decide +kernel
theorem dX0_tryMiddle_60 : decode cX0_tryMiddle 60 = .ok (.iload 8, 2) := by decide +kernel
theorem dX0_tryMiddle_62 : decode cX0_tryMiddle 62 = .ok (.iload_n 2, 1) := by decide +kernel
theorem dX0_tryMiddle_63 : decode cX0_tryMiddle 63 = .ok (.aload_n 0, 1) := by decide +kernel
theorem dX0_tryMiddle_64 : decode cX0_tryMiddle 64 = .ok (.getfield 18, 3) := by decide +kernel
theorem dX0_tryMiddle_67 : decode cX0_tryMiddle 67 = .ok (.iload 9, 2) := by decide +kernel
theorem dX0_tryMiddle_69 : decode cX0_tryMiddle 69 = .ok (.iaload, 1) := by decide +kernel
theorem dX0_tryMiddle_70 : decode cX0_tryMiddle 70 = .ok (.iload_n 3, 1) := by decide +kernel
theorem dX0_tryMiddle_71 : decode cX0_tryMiddle 71 = .ok (.isub, 1) := by decide +kernel
theorem dX0_tryMiddle_72 : decode cX0_tryMiddle 72 = .ok (.aload_n 0, 1) := by decide +kernel
theorem dX0_tryMiddle_73 : decode cX0_tryMiddle 73 = .ok (.getfield 21, 3) := by decide +kernel
theorem dX0_tryMiddle_76 : decode cX0_tryMiddle 76 = .ok (.iload 9, 2) := by decide +kernel
theorem dX0_tryMiddle_78 : decode cX0_tryMiddle 78 = .ok (.iaload, 1) := by decide +kernel
theorem dX0_tryMiddle_79 : decode cX0_tryMiddle 79 = .ok (.iload 4, 2) := by decide +kernel
theorem dX0_tryMiddle_81 : decode cX0_tryMiddle 81 = .ok (.isub, 1) := by decide +kernel
theorem dX0_tryMiddle_82 : decode cX0_tryMiddle 82 = .ok (.invokevirtual 132, 3) := by decide +kernel
theorem dX0_tryMiddle_85 : decode cX0_tryMiddle 85 = .ok (.lastore, 1) := by decide +kernel
theorem dX0_tryMiddle_86 : decode cX0_tryMiddle 86 = .ok (.lload 6, 2) := by decide +kernel
theorem dX0_tryMiddle_88 : decode cX0_tryMiddle 88 = .ok (.aload_n 0, 1) := by decide +kernel
theorem dX0_tryMiddle_89 : decode cX0_tryMiddle 89 = .ok (.getfield 42, 3) := by decide +kernel
theorem dX0_tryMiddle_92 : decode cX0_tryMiddle 92 = .ok (.iload_n 2, 1) := by decide +kernel
theorem dX0_tryMiddle_93 : decode cX0_tryMiddle 93 = .ok (.bipush 10, 2) := by decide +kernel
theorem dX0_tryMiddle_95 : decode cX0_tryMiddle 95 = .ok (.imul, 1) := by decide +kernel
theorem dX0_tryMiddle_96 : decode cX0_tryMiddle 96 = .ok (.iload 8, 2) := by decide +kernel
theorem dX0_tryMiddle_98 : decode cX0_tryMiddle 98 = .ok (.iadd, 1) := by decide +kernel
theorem dX0_tryMiddle_99 : decode cX0_tryMiddle 99 = .ok (.laload, 1) := by decide +kernel
theorem dX0_tryMiddle_100 : decode cX0_tryMiddle 100 = .ok (.ladd, 1) := by decide +kernel
theorem dX0_tryMiddle_101 : decode cX0_tryMiddle 101 = .ok (.lstore 6, 2) := by decide +kernel
theorem dX0_tryMiddle_103 : decode cX0_tryMiddle 103 = .ok (.iinc 8 1, 3) := by decide +kernel
theorem dX0_tryMiddle_106 : decode cX0_tryMiddle 106 = .ok (.goto (-74), 3) := by decide +kernel
theorem dX0_tryMiddle_109 : decode cX0_tryMiddle 109 = .ok (.lload 6, 2) := by decide +kernel
theorem dX0_tryMiddle_111 : decode cX0_tryMiddle 111 = .ok (.iload 5, 2) := by decide +kernel
theorem dX0_tryMiddle_113 : decode cX0_tryMiddle 113 = .ok (.i2l, 1) := by decide +kernel
theorem dX0_tryMiddle_114 : decode cX0_tryMiddle 114 = .ok (.ldiv, 1) := by decide +kernel
theorem dX0_tryMiddle_115 : decode cX0_tryMiddle 115 = .ok (.l2i, 1) := by decide +kernel
theorem dX0_tryMiddle_116 : decode cX0_tryMiddle 116 = .ok (.istore 8, 2) := by decide +kernel
theorem dX0_tryMiddle_118 : decode cX0_tryMiddle 118 = .ok (.iconst 0, 1) := by decide +kernel
theorem dX0_tryMiddle_119 : decode cX0_tryMiddle 119 = .ok (.istore 9, 2) := by decide +kernel
theorem dX0_tryMiddle_121 : decode cX0_tryMiddle 121 = .ok (.iconst 0, 1) := by decide +kernel
theorem dX0_tryMiddle_122 : decode cX0_tryMiddle 122 = .ok (.istore 10, 2) := by decide +kernel
theorem dX0_tryMiddle_124 : decode cX0_tryMiddle 124 = .ok (.iload 10, 2) := by decide +kernel
theorem dX0_tryMiddle_126 : decode cX0_tryMiddle 126 = .ok (.iload 5, 2) := by decide +kernel
theorem dX0_tryMiddle_128 : decode cX0_tryMiddle 128 = .ok (.if_icmp .ge 34, 3) := by decide +kernel
theorem dX0_tryMiddle_131 : decode cX0_tryMiddle 131 = .ok (.iload 9, 2) := by decide +kernel
theorem dX0_tryMiddle_133 : decode cX0_tryMiddle 133 = .ok (.aload_n 0, 1) := by decide +kernel
theorem dX0_tryMiddle_134 : decode cX0_tryMiddle 134 = .ok (.getfield 42, 3) := by decide +kernel
theorem dX0_tryMiddle_137 : decode cX0_tryMiddle 137 = .ok (.iload_n 2, 1) := by decide +kernel
theorem dX0_tryMiddle_138 : decode cX0_tryMiddle 138 = .ok (.bipush 10, 2) := by decide +kernel
theorem dX0_tryMiddle_140 : decode cX0_tryMiddle 140 = .ok (.imul, 1) := by decide +kernel
theorem dX0_tryMiddle_141 : decode cX0_tryMiddle 141 = .ok (.iload 10, 2) := by decide +kernel
theorem dX0_tryMiddle_143 : decode cX0_tryMiddle 143 = .ok (.iadd, 1) := by decide +kernel
theorem dX0_tryMiddle_144 : decode cX0_tryMiddle 144 = .ok (.laload, 1) := by decide +kernel
theorem dX0_tryMiddle_145 : decode cX0_tryMiddle 145 = .ok (.iload 8, 2) := by decide +kernel
theorem dX0_tryMiddle_147 : decode cX0_tryMiddle 147 = .ok (.i2l, 1) := by decide +kernel
theorem dX0_tryMiddle_148 : decode cX0_tryMiddle 148 = .ok (.lsub, 1) := by decide +kernel
theorem dX0_tryMiddle_149 : decode cX0_tryMiddle 149 = .ok (.invokestatic 136, 3) := by decide +kernel
theorem dX0_tryMiddle_152 : decode cX0_tryMiddle 152 = .ok (.l2i, 1) := by decide +kernel
theorem dX0_tryMiddle_153 : decode cX0_tryMiddle 153 = .ok (.iadd, 1) := by decide +kernel
theorem dX0_tryMiddle_154 : decode cX0_tryMiddle 154 = .ok (.istore 9, 2) := by decide +kernel
theorem dX0_tryMiddle_156 : decode cX0_tryMiddle 156 = .ok (.iinc 10 1, 3) := by decide +kernel
theorem dX0_tryMiddle_159 : decode cX0_tryMiddle 159 = .ok (.goto (-35), 3) := by decide +kernel
theorem dX0_tryMiddle_162 : decode cX0_tryMiddle 162 = .ok (.iload_n 1, 1) := by decide +kernel
theorem dX0_tryMiddle_163 : decode cX0_tryMiddle 163 = .ok (.bipush 12, 2) := by decide +kernel
theorem dX0_tryMiddle_165 : decode cX0_tryMiddle 165 = .ok (.imul, 1) := by decide +kernel
theorem dX0_tryMiddle_166 : decode cX0_tryMiddle 166 = .ok (.iload_n 2, 1) := by decide +kernel
theorem dX0_tryMiddle_167 : decode cX0_tryMiddle 167 = .ok (.iadd, 1) := by decide +kernel
theorem dX0_tryMiddle_168 : decode cX0_tryMiddle 168 = .ok (.istore 10, 2) := by decide +kernel
theorem dX0_tryMiddle_170 : decode cX0_tryMiddle 170 = .ok (.iload 9, 2) := by decide +kernel
theorem dX0_tryMiddle_172 : decode cX0_tryMiddle 172 = .ok (.aload_n 0, 1) := by decide +kernel
theorem dX0_tryMiddle_173 : decode cX0_tryMiddle 173 = .ok (.getfield 33, 3) := by decide +kernel
theorem dX0_tryMiddle_176 : decode cX0_tryMiddle 176 = .ok (.iload 10, 2) := by decide +kernel
theorem dX0_tryMiddle_178 : decode cX0_tryMiddle 178 = .ok (.iaload, 1) := by decide +kernel
theorem dX0_tryMiddle_179 : decode cX0_tryMiddle 179 = .ok (.if_icmp .ge 40, 3) := by decide +kernel
theorem dX0_tryMiddle_182 : decode cX0_tryMiddle 182 = .ok (.aload_n 0, 1) := by decide +kernel
theorem dX0_tryMiddle_183 : decode cX0_tryMiddle 183 = .ok (.getfield 33, 3) := by decide +kernel
theorem dX0_tryMiddle_186 : decode cX0_tryMiddle 186 = .ok (.iload 10, 2) := by decide +kernel
theorem dX0_tryMiddle_188 : decode cX0_tryMiddle 188 = .ok (.iload 9, 2) := by decide +kernel
theorem dX0_tryMiddle_190 : decode cX0_tryMiddle 190 = .ok (.iastore, 1) := by decide +kernel
theorem dX0_tryMiddle_191 : decode cX0_tryMiddle 191 = .ok (.aload_n 0, 1) := by decide +kernel
theorem dX0_tryMiddle_192 : decode cX0_tryMiddle 192 = .ok (.getfield 30, 3) := by decide +kernel
theorem dX0_tryMiddle_195 : decode cX0_tryMiddle 195 = .ok (.iload 10, 2) := by decide +kernel
theorem dX0_tryMiddle_197 : decode cX0_tryMiddle 197 = .ok (.iconst 2, 1) := by decide +kernel
theorem dX0_tryMiddle_198 : decode cX0_tryMiddle 198 = .ok (.iload 8, 2) := by decide +kernel
theorem dX0_tryMiddle_200 : decode cX0_tryMiddle 200 = .ok (.imul, 1) := by decide +kernel
theorem dX0_tryMiddle_201 : decode cX0_tryMiddle 201 = .ok (.iastore, 1) := by decide +kernel
theorem dX0_tryMiddle_202 : decode cX0_tryMiddle 202 = .ok (.aload_n 0, 1) := by decide +kernel
theorem dX0_tryMiddle_203 : decode cX0_tryMiddle 203 = .ok (.getfield 36, 3) := by decide +kernel
theorem dX0_tryMiddle_206 : decode cX0_tryMiddle 206 = .ok (.iload 10, 2) := by decide +kernel
theorem dX0_tryMiddle_208 : decode cX0_tryMiddle 208 = .ok (.iload_n 3, 1) := by decide +kernel
theorem dX0_tryMiddle_209 : decode cX0_tryMiddle 209 = .ok (.iastore, 1) := by decide +kernel
theorem dX0_tryMiddle_210 : decode cX0_tryMiddle 210 = .ok (.aload_n 0, 1) := by decide +kernel
theorem dX0_tryMiddle_211 : decode cX0_tryMiddle 211 = .ok (.getfield 39, 3) := by decide +kernel
theorem dX0_tryMiddle_214 : decode cX0_tryMiddle 214 = .ok (.iload 10, 2) := by decide +kernel
theorem dX0_tryMiddle_216 : decode cX0_tryMiddle 216 = .ok (.iload 4, 2) := by decide +kernel
theorem dX0_tryMiddle_218 : decode cX0_tryMiddle 218 = .ok (.iastore, 1) := by decide +kernel
theorem dX0_tryMiddle_219 : decode cX0_tryMiddle 219 = .ok (.return_, 1) := by decide +kernel
theorem dX0_awayBy_0 : decode cX0_awayBy 0 = .ok (.iload_n 2, 1) := by decide +kernel
theorem dX0_awayBy_1 : decode cX0_awayBy 1 = .ok (.iconst 4, 1) := by decide +kernel
theorem dX0_awayBy_2 : decode cX0_awayBy 2 = .ok (.idiv, 1) := by decide +kernel
theorem dX0_awayBy_3 : decode cX0_awayBy 3 = .ok (.iconst 1, 1) := by decide +kernel
theorem dX0_awayBy_4 : decode cX0_awayBy 4 = .ok (.if_icmp .ne 7, 3) := by decide +kernel
theorem dX0_awayBy_7 : decode cX0_awayBy 7 = .ok (.iconst 1, 1) := by decide +kernel
theorem dX0_awayBy_8 : decode cX0_awayBy 8 = .ok (.goto 4, 3) := by decide +kernel
theorem dX0_awayBy_11 : decode cX0_awayBy 11 = .ok (.iconst 0, 1) := by decide +kernel
theorem dX0_awayBy_12 : decode cX0_awayBy 12 = .ok (.istore 5, 2) := by decide +kernel
theorem dX0_awayBy_14 : decode cX0_awayBy 14 = .ok (.iload_n 2, 1) := by decide +kernel
theorem dX0_awayBy_15 : decode cX0_awayBy 15 = .ok (.iconst 4, 1) := by decide +kernel
theorem dX0_awayBy_16 : decode cX0_awayBy 16 = .ok (.irem, 1) := by decide +kernel
theorem dX0_awayBy_17 : decode cX0_awayBy 17 = .ok (.istore 6, 2) := by decide +kernel
theorem dX0_awayBy_19 : decode cX0_awayBy 19 = .ok (.iload_n 3, 1) := by decide +kernel
theorem dX0_awayBy_20 : decode cX0_awayBy 20 = .ok (.istore 7, 2) := by decide +kernel
theorem dX0_awayBy_22 : decode cX0_awayBy 22 = .ok (.iload 4, 2) := by decide +kernel
theorem dX0_awayBy_24 : decode cX0_awayBy 24 = .ok (.istore 8, 2) := by decide +kernel
theorem dX0_awayBy_26 : decode cX0_awayBy 26 = .ok (.iload_n 2, 1) := by decide +kernel
theorem dX0_awayBy_27 : decode cX0_awayBy 27 = .ok (.ifCond .eq 99, 3) := by decide +kernel
theorem dX0_awayBy_30 : decode cX0_awayBy 30 = .ok (.iload 6, 2) := by decide +kernel
theorem dX0_awayBy_32 : decode cX0_awayBy 32 = .ok (.ifCond .ne 7, 3) := by decide +kernel
theorem dX0_awayBy_35 : decode cX0_awayBy 35 = .ok (.iload_n 3, 1) := by decide +kernel
theorem dX0_awayBy_36 : decode cX0_awayBy 36 = .ok (.ifCond .gt 13, 3) := by decide +kernel
theorem dX0_awayBy_39 : decode cX0_awayBy 39 = .ok (.iload 6, 2) := by decide +kernel
theorem dX0_awayBy_41 : decode cX0_awayBy 41 = .ok (.iconst 2, 1) := by decide +kernel
theorem dX0_awayBy_42 : decode cX0_awayBy 42 = .ok (.if_icmp .ne 30, 3) := by decide +kernel
theorem dX0_awayBy_45 : decode cX0_awayBy 45 = .ok (.iload_n 3, 1) := by decide +kernel
theorem dX0_awayBy_46 : decode cX0_awayBy 46 = .ok (.ifCond .ge 26, 3) := by decide +kernel
theorem dX0_awayBy_49 : decode cX0_awayBy 49 = .ok (.iload 5, 2) := by decide +kernel
theorem dX0_awayBy_51 : decode cX0_awayBy 51 = .ok (.ifCond .eq 11, 3) := by decide +kernel
theorem dX0_awayBy_54 : decode cX0_awayBy 54 = .ok (.iload_n 3, 1) := by decide +kernel
theorem dX0_awayBy_55 : decode cX0_awayBy 55 = .ok (.iconst 4, 1) := by decide +kernel
theorem dX0_awayBy_56 : decode cX0_awayBy 56 = .ok (.imul, 1) := by decide +kernel
theorem dX0_awayBy_57 : decode cX0_awayBy 57 = .ok (.iconst 3, 1) := by decide +kernel
theorem dX0_awayBy_58 : decode cX0_awayBy 58 = .ok (.idiv, 1) := by decide +kernel
theorem dX0_awayBy_59 : decode cX0_awayBy 59 = .ok (.goto 8, 3) := by decide +kernel
theorem dX0_awayBy_62 : decode cX0_awayBy 62 = .ok (.iload_n 3, 1) := by decide +kernel
theorem dX0_awayBy_63 : decode cX0_awayBy 63 = .ok (.iconst 3, 1) := by decide +kernel
theorem dX0_awayBy_64 : decode cX0_awayBy 64 = .ok (.imul, 1) := by decide +kernel
theorem dX0_awayBy_65 : decode cX0_awayBy 65 = .ok (.iconst 4, 1) := by decide +kernel
theorem dX0_awayBy_66 : decode cX0_awayBy 66 = .ok (.idiv, 1) := by decide +kernel
theorem dX0_awayBy_67 : decode cX0_awayBy 67 = .ok (.istore 7, 2) := by decide +kernel
theorem dX0_awayBy_69 : decode cX0_awayBy 69 = .ok (.goto 57, 3) := by decide +kernel
theorem dX0_awayBy_72 : decode cX0_awayBy 72 = .ok (.iload 6, 2) := by decide +kernel
theorem dX0_awayBy_74 : decode cX0_awayBy 74 = .ok (.iconst 1, 1) := by decide +kernel
theorem dX0_awayBy_75 : decode cX0_awayBy 75 = .ok (.if_icmp .ne 8, 3) := by decide +kernel
theorem dX0_awayBy_78 : decode cX0_awayBy 78 = .ok (.iload 4, 2) := by decide +kernel
theorem dX0_awayBy_80 : decode cX0_awayBy 80 = .ok (.ifCond .gt 14, 3) := by decide +kernel
theorem dX0_awayBy_83 : decode cX0_awayBy 83 = .ok (.iload 6, 2) := by decide +kernel
theorem dX0_awayBy_85 : decode cX0_awayBy 85 = .ok (.iconst 3, 1) := by decide +kernel
theorem dX0_awayBy_86 : decode cX0_awayBy 86 = .ok (.if_icmp .ne 33, 3) := by decide +kernel
theorem dX0_awayBy_89 : decode cX0_awayBy 89 = .ok (.iload 4, 2) := by decide +kernel
theorem dX0_awayBy_91 : decode cX0_awayBy 91 = .ok (.ifCond .ge 28, 3) := by decide +kernel
theorem dX0_awayBy_94 : decode cX0_awayBy 94 = .ok (.iload 5, 2) := by decide +kernel
theorem dX0_awayBy_96 : decode cX0_awayBy 96 = .ok (.ifCond .eq 12, 3) := by decide +kernel
theorem dX0_awayBy_99 : decode cX0_awayBy 99 = .ok (.iload 4, 2) := by decide +kernel
theorem dX0_awayBy_101 : decode cX0_awayBy 101 = .ok (.iconst 4, 1) := by decide +kernel
theorem dX0_awayBy_102 : decode cX0_awayBy 102 = .ok (.imul, 1) := by decide +kernel
theorem dX0_awayBy_103 : decode cX0_awayBy 103 = .ok (.iconst 3, 1) := by decide +kernel
theorem dX0_awayBy_104 : decode cX0_awayBy 104 = .ok (.idiv, 1) := by decide +kernel
theorem dX0_awayBy_105 : decode cX0_awayBy 105 = .ok (.goto 9, 3) := by decide +kernel
theorem dX0_awayBy_108 : decode cX0_awayBy 108 = .ok (.iload 4, 2) := by decide +kernel
theorem dX0_awayBy_110 : decode cX0_awayBy 110 = .ok (.iconst 3, 1) := by decide +kernel
theorem dX0_awayBy_111 : decode cX0_awayBy 111 = .ok (.imul, 1) := by decide +kernel
theorem dX0_awayBy_112 : decode cX0_awayBy 112 = .ok (.iconst 4, 1) := by decide +kernel
theorem dX0_awayBy_113 : decode cX0_awayBy 113 = .ok (.idiv, 1) := by decide +kernel
theorem dX0_awayBy_114 : decode cX0_awayBy 114 = .ok (.istore 8, 2) := by decide +kernel
theorem dX0_awayBy_116 : decode cX0_awayBy 116 = .ok (.goto 10, 3) := by decide +kernel
theorem dX0_awayBy_119 : decode cX0_awayBy 119 = .ok (.aload_n 0, 1) := by decide +kernel
theorem dX0_awayBy_120 : decode cX0_awayBy 120 = .ok (.getfield 42, 3) := by decide +kernel
theorem dX0_awayBy_123 : decode cX0_awayBy 123 = .ok (.iload_n 1, 1) := by decide +kernel
theorem dX0_awayBy_124 : decode cX0_awayBy 124 = .ok (.laload, 1) := by decide +kernel
theorem dX0_awayBy_125 : decode cX0_awayBy 125 = .ok (.lreturn, 1) := by decide +kernel
theorem dX0_awayBy_126 : decode cX0_awayBy 126 = .ok (.ldc2_w 140, 3) := by decide +kernel
theorem dX0_awayBy_129 : decode cX0_awayBy 129 = .ok (.iload 7, 2) := by decide +kernel
theorem dX0_awayBy_131 : decode cX0_awayBy 131 = .ok (.iload 7, 2) := by decide +kernel
theorem dX0_awayBy_133 : decode cX0_awayBy 133 = .ok (.imul, 1) := by decide +kernel
theorem dX0_awayBy_134 : decode cX0_awayBy 134 = .ok (.iload 8, 2) := by decide +kernel
theorem dX0_awayBy_136 : decode cX0_awayBy 136 = .ok (.iload 8, 2) := by decide +kernel
theorem dX0_awayBy_138 : decode cX0_awayBy 138 = .ok (.imul, 1) := by decide +kernel
theorem dX0_awayBy_139 : decode cX0_awayBy 139 = .ok (.iadd, 1) := by decide +kernel
theorem dX0_awayBy_140 : decode cX0_awayBy 140 = .ok (.i2l, 1) := by decide +kernel
theorem dX0_awayBy_141 : decode cX0_awayBy 141 = .ok (.lmul, 1) := by decide +kernel
theorem dX0_awayBy_142 : decode cX0_awayBy 142 = .ok (.aload_n 0, 1) := by decide +kernel
theorem dX0_awayBy_143 : decode cX0_awayBy 143 = .ok (.getfield 42, 3) := by decide +kernel
theorem dX0_awayBy_146 : decode cX0_awayBy 146 = .ok (.iload_n 2, 1) := by decide +kernel
theorem dX0_awayBy_147 : decode cX0_awayBy 147 = .ok (.bipush 10, 2) := by decide +kernel
theorem dX0_awayBy_149 : decode cX0_awayBy 149 = .ok (.imul, 1) := by decide +kernel
theorem dX0_awayBy_150 : decode cX0_awayBy 150 = .ok (.iload_n 1, 1) := by decide +kernel
theorem dX0_awayBy_151 : decode cX0_awayBy 151 = .ok (.iadd, 1) := by decide +kernel
theorem dX0_awayBy_152 : decode cX0_awayBy 152 = .ok (.laload, 1) := by decide +kernel
theorem dX0_awayBy_153 : decode cX0_awayBy 153 = .ok (.invokestatic 142, 3) := by decide +kernel
theorem dX0_awayBy_156 : decode cX0_awayBy 156 = .ok (.lreturn, 1) := by decide +kernel
theorem dX1_init_0 : decode cX1_init 0 = .ok (.aload_n 0, 1) := by decide +kernel
theorem dX1_init_1 : decode cX1_init 1 = .ok (.invokespecial 3, 3) := by decide +kernel
theorem dX1_init_4 : decode cX1_init 4 = .ok (.aload_n 0, 1) := by decide +kernel
theorem dX1_init_5 : decode cX1_init 5 = .ok (.invokestatic 9, 3) := by decide +kernel
theorem dX1_init_8 : decode cX1_init 8 = .ok (.putfield 15, 3) := by decide +kernel
theorem dX1_init_11 : decode cX1_init 11 = .ok (.aload_n 0, 1) := by decide +kernel
theorem dX1_init_12 : decode cX1_init 12 = .ok (.iconst 0, 1) := by decide +kernel
theorem dX1_init_13 : decode cX1_init 13 = .ok (.newarray .char, 2) := by decide +kernel
theorem dX1_init_15 : decode cX1_init 15 = .ok (.putfield 19, 3) := by decide +kernel
theorem dX1_init_18 : decode cX1_init 18 = .ok (.aload_n 0, 1) := by decide +kernel
theorem dX1_init_19 : decode cX1_init 19 = .ok (.iconst 0, 1) := by decide +kernel
theorem dX1_init_20 : decode cX1_init 20 = .ok (.putfield 23, 3) := by decide +kernel
theorem dX1_init_23 : decode cX1_init 23 = .ok (.aload_n 0, 1) := by decide +kernel
theorem dX1_init_24 : decode cX1_init 24 = .ok (.iconst 0, 1) := by decide +kernel
theorem dX1_init_25 : decode cX1_init 25 = .ok (.putfield 27, 3) := by decide +kernel
theorem dX1_init_28 : decode cX1_init 28 = .ok (.aload_n 0, 1) := by decide +kernel
theorem dX1_init_29 : decode cX1_init 29 = .ok (.iconst 0, 1) := by decide +kernel
theorem dX1_init_30 : decode cX1_init 30 = .ok (.putfield 30, 3) := by decide +kernel
theorem dX1_init_33 : decode cX1_init 33 = .ok (.aload_n 0, 1) := by decide +kernel
theorem dX1_init_34 : decode cX1_init 34 = .ok (.iconst 0, 1) := by decide +kernel
theorem dX1_init_35 : decode cX1_init 35 = .ok (.putfield 33, 3) := by decide +kernel
theorem dX1_init_38 : decode cX1_init 38 = .ok (.aload_n 0, 1) := by decide +kernel
theorem dX1_init_39 : decode cX1_init 39 = .ok (.iconst 0, 1) := by decide +kernel
theorem dX1_init_40 : decode cX1_init 40 = .ok (.putfield 36, 3) := by decide +kernel
theorem dX1_init_43 : decode cX1_init 43 = .ok (.return_, 1) := by decide +kernel
theorem dX1_lettersOfLanguage_0 : decode cX1_lettersOfLanguage 0 = .ok (.bipush 21, 2) := by decide +kernel
theorem dX1_lettersOfLanguage_2 : decode cX1_lettersOfLanguage 2 = .ok (.newarray .int, 2) := by decide +kernel
theorem dX1_lettersOfLanguage_4 : decode cX1_lettersOfLanguage 4 = .ok (.astore_n 0, 1) := by decide +kernel
theorem dX1_lettersOfLanguage_5 : decode cX1_lettersOfLanguage 5 = .ok (.iconst 0, 1) := by decide +kernel
theorem dX1_lettersOfLanguage_6 : decode cX1_lettersOfLanguage 6 = .ok (.istore_n 1, 1) := by decide +kernel
theorem dX1_lettersOfLanguage_7 : decode cX1_lettersOfLanguage 7 = .ok (.bipush 25, 2) := by decide +kernel
theorem dX1_lettersOfLanguage_9 : decode cX1_lettersOfLanguage 9 = .ok (.istore_n 2, 1) := by decide +kernel
theorem dX1_lettersOfLanguage_10 : decode cX1_lettersOfLanguage 10 = .ok (.iconst 0, 1) := by decide +kernel
theorem dX1_lettersOfLanguage_11 : decode cX1_lettersOfLanguage 11 = .ok (.istore_n 3, 1) := by decide +kernel
theorem dX1_lettersOfLanguage_12 : decode cX1_lettersOfLanguage 12 = .ok (.iload_n 3, 1) := by decide +kernel
theorem dX1_lettersOfLanguage_13 : decode cX1_lettersOfLanguage 13 = .ok (.ldc 39, 2) := by decide +kernel
theorem dX1_lettersOfLanguage_15 : decode cX1_lettersOfLanguage 15 = .ok (.invokevirtual 41, 3) := by decide +kernel
theorem dX1_lettersOfLanguage_18 : decode cX1_lettersOfLanguage 18 = .ok (.if_icmp .ge 57, 3) := by decide +kernel
theorem dX1_lettersOfLanguage_21 : decode cX1_lettersOfLanguage 21 = .ok (.iload_n 1, 1) := by decide +kernel
theorem dX1_lettersOfLanguage_22 : decode cX1_lettersOfLanguage 22 = .ok (.bipush 21, 2) := by decide +kernel
theorem dX1_lettersOfLanguage_24 : decode cX1_lettersOfLanguage 24 = .ok (.if_icmp .ge 51, 3) := by decide +kernel
theorem dX1_lettersOfLanguage_27 : decode cX1_lettersOfLanguage 27 = .ok (.ldc 39, 2) := by decide +kernel
theorem dX1_lettersOfLanguage_29 : decode cX1_lettersOfLanguage 29 = .ok (.iload_n 3, 1) := by decide +kernel
theorem dX1_lettersOfLanguage_30 : decode cX1_lettersOfLanguage 30 = .ok (.invokevirtual 46, 3) := by decide +kernel
theorem dX1_lettersOfLanguage_33 : decode cX1_lettersOfLanguage 33 = .ok (.istore 4, 2) := by decide +kernel
theorem dX1_lettersOfLanguage_35 : decode cX1_lettersOfLanguage 35 = .ok (.iload 4, 2) := by decide +kernel
theorem dX1_lettersOfLanguage_37 : decode cX1_lettersOfLanguage 37 = .ok (.bipush 32, 2) := by decide +kernel
theorem dX1_lettersOfLanguage_39 : decode cX1_lettersOfLanguage 39 = .ok (.if_icmp .ne 12, 3) := by decide +kernel
theorem dX1_lettersOfLanguage_42 : decode cX1_lettersOfLanguage 42 = .ok (.iinc 1 1, 3) := by decide +kernel
theorem dX1_lettersOfLanguage_45 : decode cX1_lettersOfLanguage 45 = .ok (.bipush 25, 2) := by decide +kernel
theorem dX1_lettersOfLanguage_47 : decode cX1_lettersOfLanguage 47 = .ok (.istore_n 2, 1) := by decide +kernel
theorem dX1_lettersOfLanguage_48 : decode cX1_lettersOfLanguage 48 = .ok (.goto 21, 3) := by decide +kernel
theorem dX1_lettersOfLanguage_51 : decode cX1_lettersOfLanguage 51 = .ok (.aload_n 0, 1) := by decide +kernel
theorem dX1_lettersOfLanguage_52 : decode cX1_lettersOfLanguage 52 = .ok (.iload_n 1, 1) := by decide +kernel
theorem dX1_lettersOfLanguage_53 : decode cX1_lettersOfLanguage 53 = .ok (.dup2, 1) := by decide +kernel
theorem dX1_lettersOfLanguage_54 : decode cX1_lettersOfLanguage 54 = .ok (.iaload, 1) := by decide +kernel
theorem dX1_lettersOfLanguage_55 : decode cX1_lettersOfLanguage 55 = .ok (.iload 4, 2) := by decide +kernel
theorem dX1_lettersOfLanguage_57 : decode cX1_lettersOfLanguage 57 = .ok (.bipush 97, 2) := by decide +kernel
theorem dX1_lettersOfLanguage_59 : decode cX1_lettersOfLanguage 59 = .ok (.isub, 1) := by decide +kernel
theorem dX1_lettersOfLanguage_60 : decode cX1_lettersOfLanguage 60 = .ok (.iconst 1, 1) := by decide +kernel
theorem dX1_lettersOfLanguage_61 : decode cX1_lettersOfLanguage 61 = .ok (.iadd, 1) := by decide +kernel
theorem dX1_lettersOfLanguage_62 : decode cX1_lettersOfLanguage 62 = .ok (.iload_n 2, 1) := by decide +kernel
theorem dX1_lettersOfLanguage_63 : decode cX1_lettersOfLanguage 63 = .ok (.ishl, 1) := by decide +kernel
theorem dX1_lettersOfLanguage_64 : decode cX1_lettersOfLanguage 64 = .ok (.ior, 1) := by decide +kernel
theorem dX1_lettersOfLanguage_65 : decode cX1_lettersOfLanguage 65 = .ok (.iastore, 1) := by decide +kernel
theorem dX1_lettersOfLanguage_66 : decode cX1_lettersOfLanguage 66 = .ok (.iinc 2 (-5), 3) := by decide +kernel
theorem dX1_lettersOfLanguage_69 : decode cX1_lettersOfLanguage 69 = .ok (.iinc 3 1, 3) := by decide +kernel
theorem dX1_lettersOfLanguage_72 : decode cX1_lettersOfLanguage 72 = .ok (.goto (-60), 3) := by decide +kernel
theorem dX1_lettersOfLanguage_75 : decode cX1_lettersOfLanguage 75 = .ok (.aload_n 0, 1) := by decide +kernel
theorem dX1_lettersOfLanguage_76 : decode cX1_lettersOfLanguage 76 = .ok (.areturn, 1) := by decide +kernel
theorem dX1_begin_0 : decode cX1_begin 0 = .ok (.aload_n 0, 1) := by decide +kernel
theorem dX1_begin_1 : decode cX1_begin 1 = .ok (.aload_n 1, 1) := by decide +kernel
theorem dX1_begin_2 : decode cX1_begin 2 = .ok (.putfield 19, 3) := by decide +kernel
theorem dX1_begin_5 : decode cX1_begin 5 = .ok (.aload_n 0, 1) := by decide +kernel
theorem dX1_begin_6 : decode cX1_begin 6 = .ok (.iload_n 2, 1) := by decide +kernel
theorem dX1_begin_7 : decode cX1_begin 7 = .ok (.aload_n 1, 1) := by decide +kernel
theorem dX1_begin_8 : decode cX1_begin 8 = .ok (.arraylength, 1) := by decide +kernel
theorem dX1_begin_9 : decode cX1_begin 9 = .ok (.invokestatic 50, 3) := by decide +kernel
theorem dX1_begin_12 : decode cX1_begin 12 = .ok (.putfield 23, 3) := by decide +kernel
theorem dX1_begin_15 : decode cX1_begin 15 = .ok (.aload_n 0, 1) := by decide +kernel
theorem dX1_begin_16 : decode cX1_begin 16 = .ok (.iconst 0, 1) := by decide +kernel
theorem dX1_begin_17 : decode cX1_begin 17 = .ok (.putfield 27, 3) := by decide +kernel
theorem dX1_begin_20 : decode cX1_begin 20 = .ok (.aload_n 0, 1) := by decide +kernel
theorem dX1_begin_21 : decode cX1_begin 21 = .ok (.invokevirtual 56, 3) := by decide +kernel
theorem dX1_begin_24 : decode cX1_begin 24 = .ok (.return_, 1) := by decide +kernel
theorem dX1_advance_0 : decode cX1_advance 0 = .ok (.aload_n 0, 1) := by decide +kernel
theorem dX1_advance_1 : decode cX1_advance 1 = .ok (.getfield 27, 3) := by decide +kernel
theorem dX1_advance_4 : decode cX1_advance 4 = .ok (.aload_n 0, 1) := by decide +kernel
theorem dX1_advance_5 : decode cX1_advance 5 = .ok (.getfield 23, 3) := by decide +kernel
theorem dX1_advance_8 : decode cX1_advance 8 = .ok (.if_icmp .ge 44, 3) := by decide +kernel
theorem dX1_advance_11 : decode cX1_advance 11 = .ok (.aload_n 0, 1) := by decide +kernel
theorem dX1_advance_12 : decode cX1_advance 12 = .ok (.getfield 19, 3) := by decide +kernel
theorem dX1_advance_15 : decode cX1_advance 15 = .ok (.aload_n 0, 1) := by decide +kernel
theorem dX1_advance_16 : decode cX1_advance 16 = .ok (.getfield 27, 3) := by decide +kernel
theorem dX1_advance_19 : decode cX1_advance 19 = .ok (.caload, 1) := by decide +kernel
theorem dX1_advance_20 : decode cX1_advance 20 = .ok (.bipush 32, 2) := by decide +kernel
theorem dX1_advance_22 : decode cX1_advance 22 = .ok (.if_icmp .eq 17, 3) := by decide +kernel
theorem dX1_advance_25 : decode cX1_advance 25 = .ok (.aload_n 0, 1) := by decide +kernel
theorem dX1_advance_26 : decode cX1_advance 26 = .ok (.getfield 19, 3) := by decide +kernel
theorem dX1_advance_29 : decode cX1_advance 29 = .ok (.aload_n 0, 1) := by decide +kernel
theorem dX1_advance_30 : decode cX1_advance 30 = .ok (.getfield 27, 3) := by decide +kernel
theorem dX1_advance_33 : decode cX1_advance 33 = .ok (.caload, 1) := by decide +kernel
theorem dX1_advance_34 : decode cX1_advance 34 = .ok (.bipush 10, 2) := by decide +kernel
theorem dX1_advance_36 : decode cX1_advance 36 = .ok (.if_icmp .ne 16, 3) := by decide +kernel
theorem dX1_advance_39 : decode cX1_advance 39 = .ok (.aload_n 0, 1) := by decide +kernel
theorem dX1_advance_40 : decode cX1_advance 40 = .ok (.dup, 1) := by decide +kernel
theorem dX1_advance_41 : decode cX1_advance 41 = .ok (.getfield 27, 3) := by decide +kernel
theorem dX1_advance_44 : decode cX1_advance 44 = .ok (.iconst 1, 1) := by decide +kernel
theorem dX1_advance_45 : decode cX1_advance 45 = .ok (.iadd, 1) := by decide +kernel
theorem dX1_advance_46 : decode cX1_advance 46 = .ok (.putfield 27, 3) := by decide +kernel
theorem dX1_advance_49 : decode cX1_advance 49 = .ok (.goto (-49), 3) := by decide +kernel
theorem dX1_advance_52 : decode cX1_advance 52 = .ok (.aload_n 0, 1) := by decide +kernel
theorem dX1_advance_53 : decode cX1_advance 53 = .ok (.aload_n 0, 1) := by decide +kernel
theorem dX1_advance_54 : decode cX1_advance 54 = .ok (.getfield 27, 3) := by decide +kernel
theorem dX1_advance_57 : decode cX1_advance 57 = .ok (.putfield 33, 3) := by decide +kernel
theorem dX1_advance_60 : decode cX1_advance 60 = .ok (.aload_n 0, 1) := by decide +kernel
theorem dX1_advance_61 : decode cX1_advance 61 = .ok (.iconst 0, 1) := by decide +kernel
theorem dX1_advance_62 : decode cX1_advance 62 = .ok (.putfield 36, 3) := by decide +kernel
theorem dX1_advance_65 : decode cX1_advance 65 = .ok (.aload_n 0, 1) := by decide +kernel
theorem dX1_advance_66 : decode cX1_advance 66 = .ok (.getfield 27, 3) := by decide +kernel
theorem dX1_advance_69 : decode cX1_advance 69 = .ok (.aload_n 0, 1) := by decide +kernel
theorem dX1_advance_70 : decode cX1_advance 70 = .ok (.getfield 23, 3) := by decide +kernel
theorem dX1_advance_73 : decode cX1_advance 73 = .ok (.if_icmp .lt 9, 3) := by decide +kernel
theorem dX1_advance_76 : decode cX1_advance 76 = .ok (.aload_n 0, 1) := by decide +kernel
theorem dX1_advance_77 : decode cX1_advance 77 = .ok (.iconst 0, 1) := by decide +kernel
theorem dX1_advance_78 : decode cX1_advance 78 = .ok (.putfield 30, 3) := by decide +kernel
theorem dX1_advance_81 : decode cX1_advance 81 = .ok (.return_, 1) := by decide +kernel
theorem dX1_advance_82 : decode cX1_advance 82 = .ok (.aload_n 0, 1) := by decide +kernel
theorem dX1_advance_83 : decode cX1_advance 83 = .ok (.getfield 19, 3) := by decide +kernel
theorem dX1_advance_86 : decode cX1_advance 86 = .ok (.aload_n 0, 1) := by decide +kernel
theorem dX1_advance_87 : decode cX1_advance 87 = .ok (.getfield 27, 3) := by decide +kernel
theorem dX1_advance_90 : decode cX1_advance 90 = .ok (.caload, 1) := by decide +kernel
theorem dX1_advance_91 : decode cX1_advance 91 = .ok (.istore_n 1, 1) := by decide +kernel
theorem dX1_advance_92 : decode cX1_advance 92 = .ok (.iload_n 1, 1) := by decide +kernel
theorem dX1_advance_93 : decode cX1_advance 93 = .ok (.bipush 97, 2) := by decide +kernel
theorem dX1_advance_95 : decode cX1_advance 95 = .ok (.if_icmp .lt 16, 3) := by decide +kernel
theorem dX1_advance_98 : decode cX1_advance 98 = .ok (.iload_n 1, 1) := by decide +kernel
theorem dX1_advance_99 : decode cX1_advance 99 = .ok (.bipush 122, 2) := by decide +kernel
theorem dX1_advance_101 : decode cX1_advance 101 = .ok (.if_icmp .gt 10, 3) := by decide +kernel
theorem dX1_advance_104 : decode cX1_advance 104 = .ok (.aload_n 0, 1) := by decide +kernel
theorem dX1_advance_105 : decode cX1_advance 105 = .ok (.invokevirtual 59, 3) := by decide +kernel
theorem dX1_advance_108 : decode cX1_advance 108 = .ok (.goto 37, 3) := by decide +kernel
theorem dX1_advance_111 : decode cX1_advance 111 = .ok (.iload_n 1, 1) := by decide +kernel
theorem dX1_advance_112 : decode cX1_advance 112 = .ok (.bipush 48, 2) := by decide +kernel
theorem dX1_advance_114 : decode cX1_advance 114 = .ok (.if_icmp .lt 16, 3) := by decide +kernel
theorem dX1_advance_117 : decode cX1_advance 117 = .ok (.iload_n 1, 1) := by decide +kernel
theorem dX1_advance_118 : decode cX1_advance 118 = .ok (.bipush 57, 2) := by decide +kernel
theorem dX1_advance_120 : decode cX1_advance 120 = .ok (.if_icmp .gt 10, 3) := by decide +kernel
theorem dX1_advance_123 : decode cX1_advance 123 = .ok (.aload_n 0, 1) := by decide +kernel
theorem dX1_advance_124 : decode cX1_advance 124 = .ok (.invokevirtual 62, 3) := by decide +kernel
theorem dX1_advance_127 : decode cX1_advance 127 = .ok (.goto 18, 3) := by decide +kernel
theorem dX1_advance_130 : decode cX1_advance 130 = .ok (.aload_n 0, 1) := by decide +kernel
theorem dX1_advance_131 : decode cX1_advance 131 = .ok (.dup, 1) := by decide +kernel
theorem dX1_advance_132 : decode cX1_advance 132 = .ok (.getfield 27, 3) := by decide +kernel
theorem dX1_advance_135 : decode cX1_advance 135 = .ok (.iconst 1, 1) := by decide +kernel
theorem dX1_advance_136 : decode cX1_advance 136 = .ok (.iadd, 1) := by decide +kernel
theorem dX1_advance_137 : decode cX1_advance 137 = .ok (.putfield 27, 3) := by decide +kernel
theorem dX1_advance_140 : decode cX1_advance 140 = .ok (.aload_n 0, 1) := by decide +kernel
theorem dX1_advance_141 : decode cX1_advance 141 = .ok (.iload_n 1, 1) := by decide +kernel
theorem dX1_advance_142 : decode cX1_advance 142 = .ok (.invokevirtual 65, 3) := by decide +kernel
theorem dX1_advance_145 : decode cX1_advance 145 = .ok (.return_, 1) := by decide +kernel
theorem dX1_takeWord_0 : decode cX1_takeWord 0 = .ok (.iconst 0, 1) := by decide +kernel
theorem dX1_takeWord_1 : decode cX1_takeWord 1 = .ok (.istore_n 1, 1) := by decide +kernel
theorem dX1_takeWord_2 : decode cX1_takeWord 2 = .ok (.iconst 0, 1) := by decide +kernel
theorem dX1_takeWord_3 : decode cX1_takeWord 3 = .ok (.istore_n 2, 1) := by decide +kernel
theorem dX1_takeWord_4 : decode cX1_takeWord 4 = .ok (.aload_n 0, 1) := by decide +kernel
theorem dX1_takeWord_5 : decode cX1_takeWord 5 = .ok (.getfield 27, 3) := by decide +kernel
theorem dX1_takeWord_8 : decode cX1_takeWord 8 = .ok (.aload_n 0, 1) := by decide +kernel
theorem dX1_takeWord_9 : decode cX1_takeWord 9 = .ok (.getfield 23, 3) := by decide +kernel
theorem dX1_takeWord_12 : decode cX1_takeWord 12 = .ok (.if_icmp .ge 77, 3) := by decide +kernel
theorem dX1_takeWord_15 : decode cX1_takeWord 15 = .ok (.aload_n 0, 1) := by decide +kernel
theorem dX1_takeWord_16 : decode cX1_takeWord 16 = .ok (.getfield 19, 3) := by decide +kernel
theorem dX1_takeWord_19 : decode cX1_takeWord 19 = .ok (.aload_n 0, 1) := by decide +kernel
theorem dX1_takeWord_20 : decode cX1_takeWord 20 = .ok (.getfield 27, 3) := by decide +kernel
theorem dX1_takeWord_23 : decode cX1_takeWord 23 = .ok (.caload, 1) := by decide +kernel
theorem dX1_takeWord_24 : decode cX1_takeWord 24 = .ok (.bipush 97, 2) := by decide +kernel
theorem dX1_takeWord_26 : decode cX1_takeWord 26 = .ok (.if_icmp .lt 63, 3) := by decide +kernel
theorem dX1_takeWord_29 : decode cX1_takeWord 29 = .ok (.aload_n 0, 1) := by decide +kernel
theorem dX1_takeWord_30 : decode cX1_takeWord 30 = .ok (.getfield 19, 3) := by decide +kernel
theorem dX1_takeWord_33 : decode cX1_takeWord 33 = .ok (.aload_n 0, 1) := by decide +kernel
theorem dX1_takeWord_34 : decode cX1_takeWord 34 = .ok (.getfield 27, 3) := by decide +kernel
theorem dX1_takeWord_37 : decode cX1_takeWord 37 = .ok (.caload, 1) := by decide +kernel
theorem dX1_takeWord_38 : decode cX1_takeWord 38 = .ok (.bipush 122, 2) := by decide +kernel
theorem dX1_takeWord_40 : decode cX1_takeWord 40 = .ok (.if_icmp .gt 49, 3) := by decide +kernel
theorem dX1_takeWord_43 : decode cX1_takeWord 43 = .ok (.iload_n 2, 1) := by decide +kernel
theorem dX1_takeWord_44 : decode cX1_takeWord 44 = .ok (.bipush 6, 2) := by decide +kernel
theorem dX1_takeWord_46 : decode cX1_takeWord 46 = .ok (.if_icmp .ge 27, 3) := by decide +kernel
theorem dX1_takeWord_49 : decode cX1_takeWord 49 = .ok (.iload_n 1, 1) := by decide +kernel
theorem dX1_takeWord_50 : decode cX1_takeWord 50 = .ok (.aload_n 0, 1) := by decide +kernel
theorem dX1_takeWord_51 : decode cX1_takeWord 51 = .ok (.getfield 19, 3) := by decide +kernel
theorem dX1_takeWord_54 : decode cX1_takeWord 54 = .ok (.aload_n 0, 1) := by decide +kernel
theorem dX1_takeWord_55 : decode cX1_takeWord 55 = .ok (.getfield 27, 3) := by decide +kernel
theorem dX1_takeWord_58 : decode cX1_takeWord 58 = .ok (.caload, 1) := by decide +kernel
theorem dX1_takeWord_59 : decode cX1_takeWord 59 = .ok (.bipush 97, 2) := by decide +kernel
theorem dX1_takeWord_61 : decode cX1_takeWord 61 = .ok (.isub, 1) := by decide +kernel
theorem dX1_takeWord_62 : decode cX1_takeWord 62 = .ok (.iconst 1, 1) := by decide +kernel
theorem dX1_takeWord_63 : decode cX1_takeWord 63 = .ok (.iadd, 1) := by decide +kernel
theorem dX1_takeWord_64 : decode cX1_takeWord 64 = .ok (.bipush 25, 2) := by decide +kernel
theorem dX1_takeWord_66 : decode cX1_takeWord 66 = .ok (.iconst 5, 1) := by decide +kernel
theorem dX1_takeWord_67 : decode cX1_takeWord 67 = .ok (.iload_n 2, 1) := by decide +kernel
theorem dX1_takeWord_68 : decode cX1_takeWord 68 = .ok (.imul, 1) := by decide +kernel
theorem dX1_takeWord_69 : decode cX1_takeWord 69 = .ok (.isub, 1) := by decide +kernel
theorem dX1_takeWord_70 : decode cX1_takeWord 70 = .ok (.ishl, 1) := by decide +kernel
theorem dX1_takeWord_71 : decode cX1_takeWord 71 = .ok (.ior, 1) := by decide +kernel
theorem dX1_takeWord_72 : decode cX1_takeWord 72 = .ok (.istore_n 1, 1) := by decide +kernel
theorem dX1_takeWord_73 : decode cX1_takeWord 73 = .ok (.iinc 2 1, 3) := by decide +kernel
theorem dX1_takeWord_76 : decode cX1_takeWord 76 = .ok (.aload_n 0, 1) := by decide +kernel
theorem dX1_takeWord_77 : decode cX1_takeWord 77 = .ok (.dup, 1) := by decide +kernel
theorem dX1_takeWord_78 : decode cX1_takeWord 78 = .ok (.getfield 27, 3) := by decide +kernel
theorem dX1_takeWord_81 : decode cX1_takeWord 81 = .ok (.iconst 1, 1) := by decide +kernel
theorem dX1_takeWord_82 : decode cX1_takeWord 82 = .ok (.iadd, 1) := by decide +kernel
theorem dX1_takeWord_83 : decode cX1_takeWord 83 = .ok (.putfield 27, 3) := by decide +kernel
theorem dX1_takeWord_86 : decode cX1_takeWord 86 = .ok (.goto (-82), 3) := by decide +kernel
theorem dX1_takeWord_89 : decode cX1_takeWord 89 = .ok (.aload_n 0, 1) := by decide +kernel
theorem dX1_takeWord_90 : decode cX1_takeWord 90 = .ok (.iload_n 1, 1) := by decide +kernel
theorem dX1_takeWord_91 : decode cX1_takeWord 91 = .ok (.putfield 36, 3) := by decide +kernel
theorem dX1_takeWord_94 : decode cX1_takeWord 94 = .ok (.aload_n 0, 1) := by decide +kernel
theorem dX1_takeWord_95 : decode cX1_takeWord 95 = .ok (.iload_n 2, 1) := by decide +kernel
theorem dX1_takeWord_96 : decode cX1_takeWord 96 = .ok (.bipush 6, 2) := by decide +kernel
theorem dX1_takeWord_98 : decode cX1_takeWord 98 = .ok (.if_icmp .le 7, 3) := by decide +kernel
theorem dX1_takeWord_101 : decode cX1_takeWord 101 = .ok (.iconst 1, 1) := by decide +kernel
theorem dX1_takeWord_102 : decode cX1_takeWord 102 = .ok (.goto 4, 3) := by decide +kernel
theorem dX1_takeWord_105 : decode cX1_takeWord 105 = .ok (.iconst 2, 1) := by decide +kernel
theorem dX1_takeWord_106 : decode cX1_takeWord 106 = .ok (.putfield 30, 3) := by decide +kernel
theorem dX1_takeWord_109 : decode cX1_takeWord 109 = .ok (.iconst 0, 1) := by decide +kernel
theorem dX1_takeWord_110 : decode cX1_takeWord 110 = .ok (.istore_n 3, 1) := by decide +kernel
theorem dX1_takeWord_111 : decode cX1_takeWord 111 = .ok (.iload_n 3, 1) := by decide +kernel
theorem dX1_takeWord_112 : decode cX1_takeWord 112 = .ok (.aload_n 0, 1) := by decide +kernel
theorem dX1_takeWord_113 : decode cX1_takeWord 113 = .ok (.getfield 15, 3) := by decide +kernel
theorem dX1_takeWord_116 : decode cX1_takeWord 116 = .ok (.arraylength, 1) := by decide +kernel
theorem dX1_takeWord_117 : decode cX1_takeWord 117 = .ok (.if_icmp .ge 35, 3) := by decide +kernel
theorem dX1_takeWord_120 : decode cX1_takeWord 120 = .ok (.aload_n 0, 1) := by decide +kernel
theorem dX1_takeWord_121 : decode cX1_takeWord 121 = .ok (.getfield 30, 3) := by decide +kernel
theorem dX1_takeWord_124 : decode cX1_takeWord 124 = .ok (.iconst 2, 1) := by decide +kernel
theorem dX1_takeWord_125 : decode cX1_takeWord 125 = .ok (.if_icmp .ne 27, 3) := by decide +kernel
theorem dX1_takeWord_128 : decode cX1_takeWord 128 = .ok (.aload_n 0, 1) := by decide +kernel
theorem dX1_takeWord_129 : decode cX1_takeWord 129 = .ok (.getfield 15, 3) := by decide +kernel
theorem dX1_takeWord_132 : decode cX1_takeWord 132 = .ok (.iload_n 3, 1) := by decide +kernel
theorem dX1_takeWord_133 : decode cX1_takeWord 133 = .ok (.iaload, 1) := by decide +kernel
theorem dX1_takeWord_134 : decode cX1_takeWord 134 = .ok (.iload_n 1, 1) := by decide +kernel
theorem dX1_takeWord_135 : decode cX1_takeWord 135 = .ok (.if_icmp .ne 11, 3) := by decide +kernel
theorem dX1_takeWord_138 : decode cX1_takeWord 138 = .ok (.aload_n 0, 1) := by decide +kernel
theorem dX1_takeWord_139 : decode cX1_takeWord 139 = .ok (.bipush 20, 2) := by decide +kernel
theorem dX1_takeWord_141 : decode cX1_takeWord 141 = .ok (.iload_n 3, 1) := by decide +kernel
theorem dX1_takeWord_142 : decode cX1_takeWord 142 = .ok (.iadd, 1) := by decide +kernel
theorem dX1_takeWord_143 : decode cX1_takeWord 143 = .ok (.putfield 30, 3) := by decide +kernel
theorem dX1_takeWord_146 : decode cX1_takeWord 146 = .ok (.iinc 3 1, 3) := by decide +kernel
theorem dX1_takeWord_149 : decode cX1_takeWord 149 = .ok (.goto (-38), 3) := by decide +kernel
theorem dX1_takeWord_152 : decode cX1_takeWord 152 = .ok (.return_, 1) := by decide +kernel
theorem dX1_takeNumber_0 : decode cX1_takeNumber 0 = .ok (.aload_n 0, 1) := by decide +kernel
theorem dX1_takeNumber_1 : decode cX1_takeNumber 1 = .ok (.iconst 3, 1) := by decide +kernel
theorem dX1_takeNumber_2 : decode cX1_takeNumber 2 = .ok (.putfield 30, 3) := by decide +kernel
theorem dX1_takeNumber_5 : decode cX1_takeNumber 5 = .ok (.aload_n 0, 1) := by decide +kernel
theorem dX1_takeNumber_6 : decode cX1_takeNumber 6 = .ok (.getfield 27, 3) := by decide +kernel
theorem dX1_takeNumber_9 : decode cX1_takeNumber 9 = .ok (.aload_n 0, 1) := by decide +kernel
theorem dX1_takeNumber_10 : decode cX1_takeNumber 10 = .ok (.getfield 23, 3) := by decide +kernel
theorem dX1_takeNumber_13 : decode cX1_takeNumber 13 = .ok (.if_icmp .ge 83, 3) := by decide +kernel
theorem dX1_takeNumber_16 : decode cX1_takeNumber 16 = .ok (.aload_n 0, 1) := by decide +kernel
theorem dX1_takeNumber_17 : decode cX1_takeNumber 17 = .ok (.getfield 19, 3) := by decide +kernel
theorem dX1_takeNumber_20 : decode cX1_takeNumber 20 = .ok (.aload_n 0, 1) := by decide +kernel
theorem dX1_takeNumber_21 : decode cX1_takeNumber 21 = .ok (.getfield 27, 3) := by decide +kernel
theorem dX1_takeNumber_24 : decode cX1_takeNumber 24 = .ok (.caload, 1) := by decide +kernel
theorem dX1_takeNumber_25 : decode cX1_takeNumber 25 = .ok (.bipush 48, 2) := by decide +kernel
theorem dX1_takeNumber_27 : decode cX1_takeNumber 27 = .ok (.if_icmp .lt 69, 3) := by decide +kernel
theorem dX1_takeNumber_30 : decode cX1_takeNumber 30 = .ok (.aload_n 0, 1) := by decide +kernel
theorem dX1_takeNumber_31 : decode cX1_takeNumber 31 = .ok (.getfield 19, 3) := by decide +kernel
theorem dX1_takeNumber_34 : decode cX1_takeNumber 34 = .ok (.aload_n 0, 1) := by decide +kernel
theorem dX1_takeNumber_35 : decode cX1_takeNumber 35 = .ok (.getfield 27, 3) := by decide +kernel
theorem dX1_takeNumber_38 : decode cX1_takeNumber 38 = .ok (.caload, 1) := by decide +kernel
theorem dX1_takeNumber_39 : decode cX1_takeNumber 39 = .ok (.bipush 57, 2) := by decide +kernel
theorem dX1_takeNumber_41 : decode cX1_takeNumber 41 = .ok (.if_icmp .gt 55, 3) := by decide +kernel
theorem dX1_takeNumber_44 : decode cX1_takeNumber 44 = .ok (.aload_n 0, 1) := by decide +kernel
theorem dX1_takeNumber_45 : decode cX1_takeNumber 45 = .ok (.aload_n 0, 1) := by decide +kernel
theorem dX1_takeNumber_46 : decode cX1_takeNumber 46 = .ok (.getfield 36, 3) := by decide +kernel
theorem dX1_takeNumber_49 : decode cX1_takeNumber 49 = .ok (.bipush 10, 2) := by decide +kernel
theorem dX1_takeNumber_51 : decode cX1_takeNumber 51 = .ok (.imul, 1) := by decide +kernel
theorem dX1_takeNumber_52 : decode cX1_takeNumber 52 = .ok (.aload_n 0, 1) := by decide +kernel
theorem dX1_takeNumber_53 : decode cX1_takeNumber 53 = .ok (.getfield 19, 3) := by decide +kernel
theorem dX1_takeNumber_56 : decode cX1_takeNumber 56 = .ok (.aload_n 0, 1) := by decide +kernel
theorem dX1_takeNumber_57 : decode cX1_takeNumber 57 = .ok (.getfield 27, 3) := by decide +kernel
theorem dX1_takeNumber_60 : decode cX1_takeNumber 60 = .ok (.caload, 1) := by decide +kernel
theorem dX1_takeNumber_61 : decode cX1_takeNumber 61 = .ok (.bipush 48, 2) := by decide +kernel
theorem dX1_takeNumber_63 : decode cX1_takeNumber 63 = .ok (.isub, 1) := by decide +kernel
theorem dX1_takeNumber_64 : decode cX1_takeNumber 64 = .ok (.iadd, 1) := by decide +kernel
theorem dX1_takeNumber_65 : decode cX1_takeNumber 65 = .ok (.putfield 36, 3) := by decide +kernel
theorem dX1_takeNumber_68 : decode cX1_takeNumber 68 = .ok (.aload_n 0, 1) := by decide +kernel
theorem dX1_takeNumber_69 : decode cX1_takeNumber 69 = .ok (.getfield 36, 3) := by decide +kernel
theorem dX1_takeNumber_72 : decode cX1_takeNumber 72 = .ok (.ldc 69, 2) := by decide +kernel
theorem dX1_takeNumber_74 : decode cX1_takeNumber 74 = .ok (.if_icmp .le 9, 3) := by decide +kernel
theorem dX1_takeNumber_77 : decode cX1_takeNumber 77 = .ok (.aload_n 0, 1) := by decide +kernel
theorem dX1_takeNumber_78 : decode cX1_takeNumber 78 = .ok (.ldc 69, 2) := by decide +kernel
theorem dX1_takeNumber_80 : decode cX1_takeNumber 80 = .ok (.putfield 36, 3) := by decide +kernel
theorem dX1_takeNumber_83 : decode cX1_takeNumber 83 = .ok (.aload_n 0, 1) := by decide +kernel
theorem dX1_takeNumber_84 : decode cX1_takeNumber 84 = .ok (.dup, 1) := by decide +kernel
theorem dX1_takeNumber_85 : decode cX1_takeNumber 85 = .ok (.getfield 27, 3) := by decide +kernel
theorem dX1_takeNumber_88 : decode cX1_takeNumber 88 = .ok (.iconst 1, 1) := by decide +kernel
theorem dX1_takeNumber_89 : decode cX1_takeNumber 89 = .ok (.iadd, 1) := by decide +kernel
theorem dX1_takeNumber_90 : decode cX1_takeNumber 90 = .ok (.putfield 27, 3) := by decide +kernel
theorem dX1_takeNumber_93 : decode cX1_takeNumber 93 = .ok (.goto (-88), 3) := by decide +kernel
theorem dX1_takeNumber_96 : decode cX1_takeNumber 96 = .ok (.return_, 1) := by decide +kernel
theorem dX1_takeSign_0 : decode cX1_takeSign 0 = .ok (.aload_n 0, 1) := by decide +kernel
theorem dX1_takeSign_1 : decode cX1_takeSign 1 = .ok (.getfield 27, 3) := by decide +kernel
theorem dX1_takeSign_4 : decode cX1_takeSign 4 = .ok (.aload_n 0, 1) := by decide +kernel
theorem dX1_takeSign_5 : decode cX1_takeSign 5 = .ok (.getfield 23, 3) := by decide +kernel
theorem dX1_takeSign_8 : decode cX1_takeSign 8 = .ok (.if_icmp .ge 15, 3) := by decide +kernel
theorem dX1_takeSign_11 : decode cX1_takeSign 11 = .ok (.aload_n 0, 1) := by decide +kernel
theorem dX1_takeSign_12 : decode cX1_takeSign 12 = .ok (.getfield 19, 3) := by decide +kernel
theorem dX1_takeSign_15 : decode cX1_takeSign 15 = .ok (.aload_n 0, 1) := by decide +kernel
theorem dX1_takeSign_16 : decode cX1_takeSign 16 = .ok (.getfield 27, 3) := by decide +kernel
theorem dX1_takeSign_19 : decode cX1_takeSign 19 = .ok (.caload, 1) := by decide +kernel
theorem dX1_takeSign_20 : decode cX1_takeSign 20 = .ok (.goto 5, 3) := by decide +kernel
theorem dX1_takeSign_23 : decode cX1_takeSign 23 = .ok (.bipush 32, 2) := by decide +kernel
theorem dX1_takeSign_25 : decode cX1_takeSign 25 = .ok (.istore_n 2, 1) := by decide +kernel
theorem dX1_takeSign_26 : decode cX1_takeSign 26 = .ok (.iload_n 1, 1) := by decide +kernel
theorem dX1_takeSign_27 : decode cX1_takeSign 27 = .ok (.tableswitch 226 40 62 #[113, 121, 148, 130, 226, 139, 226, 157, 226, 226, 226, 226, 226, 226, 226, 226, 226, 226, 226, 105, 175, 166, 206], 105) := by decide +kernel
theorem dX1_takeSign_132 : decode cX1_takeSign 132 = .ok (.aload_n 0, 1) := by decide +kernel
theorem dX1_takeSign_133 : decode cX1_takeSign 133 = .ok (.iconst 4, 1) := by decide +kernel
theorem dX1_takeSign_134 : decode cX1_takeSign 134 = .ok (.putfield 30, 3) := by decide +kernel
theorem dX1_takeSign_137 : decode cX1_takeSign 137 = .ok (.goto 121, 3) := by decide +kernel
theorem dX1_takeSign_140 : decode cX1_takeSign 140 = .ok (.aload_n 0, 1) := by decide +kernel
theorem dX1_takeSign_141 : decode cX1_takeSign 141 = .ok (.iconst 5, 1) := by decide +kernel
theorem dX1_takeSign_142 : decode cX1_takeSign 142 = .ok (.putfield 30, 3) := by decide +kernel
theorem dX1_takeSign_145 : decode cX1_takeSign 145 = .ok (.goto 113, 3) := by decide +kernel
theorem dX1_takeSign_148 : decode cX1_takeSign 148 = .ok (.aload_n 0, 1) := by decide +kernel
theorem dX1_takeSign_149 : decode cX1_takeSign 149 = .ok (.bipush 6, 2) := by decide +kernel
theorem dX1_takeSign_151 : decode cX1_takeSign 151 = .ok (.putfield 30, 3) := by decide +kernel
theorem dX1_takeSign_154 : decode cX1_takeSign 154 = .ok (.goto 104, 3) := by decide +kernel
theorem dX1_takeSign_157 : decode cX1_takeSign 157 = .ok (.aload_n 0, 1) := by decide +kernel
theorem dX1_takeSign_158 : decode cX1_takeSign 158 = .ok (.bipush 7, 2) := by decide +kernel
theorem dX1_takeSign_160 : decode cX1_takeSign 160 = .ok (.putfield 30, 3) := by decide +kernel
theorem dX1_takeSign_163 : decode cX1_takeSign 163 = .ok (.goto 95, 3) := by decide +kernel
theorem dX1_takeSign_166 : decode cX1_takeSign 166 = .ok (.aload_n 0, 1) := by decide +kernel
theorem dX1_takeSign_167 : decode cX1_takeSign 167 = .ok (.bipush 8, 2) := by decide +kernel
theorem dX1_takeSign_169 : decode cX1_takeSign 169 = .ok (.putfield 30, 3) := by decide +kernel
theorem dX1_takeSign_172 : decode cX1_takeSign 172 = .ok (.goto 86, 3) := by decide +kernel
theorem dX1_takeSign_175 : decode cX1_takeSign 175 = .ok (.aload_n 0, 1) := by decide +kernel
theorem dX1_takeSign_176 : decode cX1_takeSign 176 = .ok (.bipush 9, 2) := by decide +kernel
theorem dX1_takeSign_178 : decode cX1_takeSign 178 = .ok (.putfield 30, 3) := by decide +kernel
theorem dX1_takeSign_181 : decode cX1_takeSign 181 = .ok (.goto 77, 3) := by decide +kernel
theorem dX1_takeSign_184 : decode cX1_takeSign 184 = .ok (.aload_n 0, 1) := by decide +kernel
theorem dX1_takeSign_185 : decode cX1_takeSign 185 = .ok (.bipush 10, 2) := by decide +kernel
theorem dX1_takeSign_187 : decode cX1_takeSign 187 = .ok (.putfield 30, 3) := by decide +kernel
theorem dX1_takeSign_190 : decode cX1_takeSign 190 = .ok (.goto 68, 3) := by decide +kernel
theorem dX1_takeSign_193 : decode cX1_takeSign 193 = .ok (.aload_n 0, 1) := by decide +kernel
theorem dX1_takeSign_194 : decode cX1_takeSign 194 = .ok (.bipush 13, 2) := by decide +kernel
theorem dX1_takeSign_196 : decode cX1_takeSign 196 = .ok (.putfield 30, 3) := by decide +kernel
theorem dX1_takeSign_199 : decode cX1_takeSign 199 = .ok (.goto 59, 3) := by decide +kernel
theorem dX1_takeSign_202 : decode cX1_takeSign 202 = .ok (.aload_n 0, 1) := by decide +kernel
theorem dX1_takeSign_203 : decode cX1_takeSign 203 = .ok (.iload_n 2, 1) := by decide +kernel
theorem dX1_takeSign_204 : decode cX1_takeSign 204 = .ok (.bipush 61, 2) := by decide +kernel
theorem dX1_takeSign_206 : decode cX1_takeSign 206 = .ok (.if_icmp .ne 8, 3) := by decide +kernel
theorem dX1_takeSign_209 : decode cX1_takeSign 209 = .ok (.bipush 12, 2) := by decide +kernel
theorem dX1_takeSign_211 : decode cX1_takeSign 211 = .ok (.goto 16, 3) := by decide +kernel
theorem dX1_takeSign_214 : decode cX1_takeSign 214 = .ok (.iload_n 2, 1) := by decide +kernel
theorem dX1_takeSign_215 : decode cX1_takeSign 215 = .ok (.bipush 62, 2) := by decide +kernel
theorem dX1_takeSign_217 : decode cX1_takeSign 217 = .ok (.if_icmp .ne 8, 3) := by decide +kernel
theorem dX1_takeSign_220 : decode cX1_takeSign 220 = .ok (.bipush 14, 2) := by decide +kernel
theorem dX1_takeSign_222 : decode cX1_takeSign 222 = .ok (.goto 5, 3) := by decide +kernel
theorem dX1_takeSign_225 : decode cX1_takeSign 225 = .ok (.bipush 11, 2) := by decide +kernel
theorem dX1_takeSign_227 : decode cX1_takeSign 227 = .ok (.putfield 30, 3) := by decide +kernel
theorem dX1_takeSign_230 : decode cX1_takeSign 230 = .ok (.goto 28, 3) := by decide +kernel
theorem dX1_takeSign_233 : decode cX1_takeSign 233 = .ok (.aload_n 0, 1) := by decide +kernel
theorem dX1_takeSign_234 : decode cX1_takeSign 234 = .ok (.iload_n 2, 1) := by decide +kernel
theorem dX1_takeSign_235 : decode cX1_takeSign 235 = .ok (.bipush 61, 2) := by decide +kernel
theorem dX1_takeSign_237 : decode cX1_takeSign 237 = .ok (.if_icmp .ne 8, 3) := by decide +kernel
theorem dX1_takeSign_240 : decode cX1_takeSign 240 = .ok (.bipush 15, 2) := by decide +kernel
theorem dX1_takeSign_242 : decode cX1_takeSign 242 = .ok (.goto 5, 3) := by decide +kernel
theorem dX1_takeSign_245 : decode cX1_takeSign 245 = .ok (.bipush 16, 2) := by decide +kernel
theorem dX1_takeSign_247 : decode cX1_takeSign 247 = .ok (.putfield 30, 3) := by decide +kernel
theorem dX1_takeSign_250 : decode cX1_takeSign 250 = .ok (.goto 8, 3) := by decide +kernel
theorem dX1_takeSign_253 : decode cX1_takeSign 253 = .ok (.aload_n 0, 1) := by decide +kernel
theorem dX1_takeSign_254 : decode cX1_takeSign 254 = .ok (.iconst 1, 1) := by decide +kernel
theorem dX1_takeSign_255 : decode cX1_takeSign 255 = .ok (.putfield 30, 3) := by decide +kernel
theorem dX1_takeSign_258 : decode cX1_takeSign 258 = .ok (.aload_n 0, 1) := by decide +kernel
theorem dX1_takeSign_259 : decode cX1_takeSign 259 = .ok (.getfield 30, 3) := by decide +kernel
theorem dX1_takeSign_262 : decode cX1_takeSign 262 = .ok (.bipush 12, 2) := by decide +kernel
theorem dX1_takeSign_264 : decode cX1_takeSign 264 = .ok (.if_icmp .eq 21, 3) := by decide +kernel
theorem dX1_takeSign_267 : decode cX1_takeSign 267 = .ok (.aload_n 0, 1) := by decide +kernel
theorem dX1_takeSign_268 : decode cX1_takeSign 268 = .ok (.getfield 30, 3) := by decide +kernel
theorem dX1_takeSign_271 : decode cX1_takeSign 271 = .ok (.bipush 14, 2) := by decide +kernel
theorem dX1_takeSign_273 : decode cX1_takeSign 273 = .ok (.if_icmp .eq 12, 3) := by decide +kernel
theorem dX1_takeSign_276 : decode cX1_takeSign 276 = .ok (.aload_n 0, 1) := by decide +kernel
theorem dX1_takeSign_277 : decode cX1_takeSign 277 = .ok (.getfield 30, 3) := by decide +kernel
theorem dX1_takeSign_280 : decode cX1_takeSign 280 = .ok (.bipush 15, 2) := by decide +kernel
theorem dX1_takeSign_282 : decode cX1_takeSign 282 = .ok (.if_icmp .ne 13, 3) := by decide +kernel
theorem dX1_takeSign_285 : decode cX1_takeSign 285 = .ok (.aload_n 0, 1) := by decide +kernel
theorem dX1_takeSign_286 : decode cX1_takeSign 286 = .ok (.dup, 1) := by decide +kernel
theorem dX1_takeSign_287 : decode cX1_takeSign 287 = .ok (.getfield 27, 3) := by decide +kernel
theorem dX1_takeSign_290 : decode cX1_takeSign 290 = .ok (.iconst 1, 1) := by decide +kernel
theorem dX1_takeSign_291 : decode cX1_takeSign 291 = .ok (.iadd, 1) := by decide +kernel
theorem dX1_takeSign_292 : decode cX1_takeSign 292 = .ok (.putfield 27, 3) := by decide +kernel
theorem dX1_takeSign_295 : decode cX1_takeSign 295 = .ok (.return_, 1) := by decide +kernel
theorem dX2_init_0 : decode cX2_init 0 = .ok (.aload_n 0, 1) := by decide +kernel
theorem dX2_init_1 : decode cX2_init 1 = .ok (.invokespecial 3, 3) := by decide +kernel
theorem dX2_init_4 : decode cX2_init 4 = .ok (.aload_n 0, 1) := by decide +kernel
theorem dX2_init_5 : decode cX2_init 5 = .ok (.iconst 0, 1) := by decide +kernel
theorem dX2_init_6 : decode cX2_init 6 = .ok (.putfield 9, 3) := by decide +kernel
theorem dX2_init_9 : decode cX2_init 9 = .ok (.aload_n 0, 1) := by decide +kernel
theorem dX2_init_10 : decode cX2_init 10 = .ok (.iload_n 1, 1) := by decide +kernel
theorem dX2_init_11 : decode cX2_init 11 = .ok (.iconst 0, 1) := by decide +kernel
theorem dX2_init_12 : decode cX2_init 12 = .ok (.invokestatic 15, 3) := by decide +kernel
theorem dX2_init_15 : decode cX2_init 15 = .ok (.newarray .int, 2) := by decide +kernel
theorem dX2_init_17 : decode cX2_init 17 = .ok (.putfield 21, 3) := by decide +kernel
theorem dX2_init_20 : decode cX2_init 20 = .ok (.return_, 1) := by decide +kernel
theorem dX2_isFull_0 : decode cX2_isFull 0 = .ok (.aload_n 0, 1) := by decide +kernel
theorem dX2_isFull_1 : decode cX2_isFull 1 = .ok (.getfield 9, 3) := by decide +kernel
theorem dX2_isFull_4 : decode cX2_isFull 4 = .ok (.aload_n 0, 1) := by decide +kernel
theorem dX2_isFull_5 : decode cX2_isFull 5 = .ok (.getfield 21, 3) := by decide +kernel
theorem dX2_isFull_8 : decode cX2_isFull 8 = .ok (.arraylength, 1) := by decide +kernel
theorem dX2_isFull_9 : decode cX2_isFull 9 = .ok (.if_icmp .lt 7, 3) := by decide +kernel
theorem dX2_isFull_12 : decode cX2_isFull 12 = .ok (.iconst 1, 1) := by decide +kernel
theorem dX2_isFull_13 : decode cX2_isFull 13 = .ok (.goto 4, 3) := by decide +kernel
theorem dX2_isFull_16 : decode cX2_isFull 16 = .ok (.iconst 0, 1) := by decide +kernel
theorem dX2_isFull_17 : decode cX2_isFull 17 = .ok (.ireturn, 1) := by decide +kernel
theorem dX2_find_0 : decode cX2_find 0 = .ok (.iconst 0, 1) := by decide +kernel
theorem dX2_find_1 : decode cX2_find 1 = .ok (.istore_n 2, 1) := by decide +kernel
theorem dX2_find_2 : decode cX2_find 2 = .ok (.iload_n 2, 1) := by decide +kernel
theorem dX2_find_3 : decode cX2_find 3 = .ok (.aload_n 0, 1) := by decide +kernel
theorem dX2_find_4 : decode cX2_find 4 = .ok (.getfield 9, 3) := by decide +kernel
theorem dX2_find_7 : decode cX2_find 7 = .ok (.if_icmp .ge 30, 3) := by decide +kernel
theorem dX2_find_10 : decode cX2_find 10 = .ok (.iload_n 2, 1) := by decide +kernel
theorem dX2_find_11 : decode cX2_find 11 = .ok (.aload_n 0, 1) := by decide +kernel
theorem dX2_find_12 : decode cX2_find 12 = .ok (.getfield 21, 3) := by decide +kernel
theorem dX2_find_15 : decode cX2_find 15 = .ok (.arraylength, 1) := by decide +kernel
theorem dX2_find_16 : decode cX2_find 16 = .ok (.if_icmp .ge 21, 3) := by decide +kernel
theorem dX2_find_19 : decode cX2_find 19 = .ok (.aload_n 0, 1) := by decide +kernel
theorem dX2_find_20 : decode cX2_find 20 = .ok (.getfield 21, 3) := by decide +kernel
theorem dX2_find_23 : decode cX2_find 23 = .ok (.iload_n 2, 1) := by decide +kernel
theorem dX2_find_24 : decode cX2_find 24 = .ok (.iaload, 1) := by decide +kernel
theorem dX2_find_25 : decode cX2_find 25 = .ok (.iload_n 1, 1) := by decide +kernel
theorem dX2_find_26 : decode cX2_find 26 = .ok (.if_icmp .ne 5, 3) := by decide +kernel
theorem dX2_find_29 : decode cX2_find 29 = .ok (.iload_n 2, 1) := by decide +kernel
theorem dX2_find_30 : decode cX2_find 30 = .ok (.ireturn, 1) := by decide +kernel
theorem dX2_find_31 : decode cX2_find 31 = .ok (.iinc 2 1, 3) := by decide +kernel
theorem dX2_find_34 : decode cX2_find 34 = .ok (.goto (-32), 3) := by decide +kernel
theorem dX2_find_37 : decode cX2_find 37 = .ok (.iconst (-1), 1) := by decide +kernel
theorem dX2_find_38 : decode cX2_find 38 = .ok (.ireturn, 1) := by decide +kernel
theorem dX2_put_0 : decode cX2_put 0 = .ok (.aload_n 0, 1) := by decide +kernel
theorem dX2_put_1 : decode cX2_put 1 = .ok (.invokevirtual 25, 3) := by decide +kernel
theorem dX2_put_4 : decode cX2_put 4 = .ok (.ifCond .eq 5, 3) := by decide +kernel
theorem dX2_put_7 : decode cX2_put 7 = .ok (.iconst (-1), 1) := by decide +kernel
theorem dX2_put_8 : decode cX2_put 8 = .ok (.ireturn, 1) := by decide +kernel
theorem dX2_put_9 : decode cX2_put 9 = .ok (.aload_n 0, 1) := by decide +kernel
theorem dX2_put_10 : decode cX2_put 10 = .ok (.getfield 21, 3) := by decide +kernel
theorem dX2_put_13 : decode cX2_put 13 = .ok (.aload_n 0, 1) := by decide +kernel
theorem dX2_put_14 : decode cX2_put 14 = .ok (.getfield 9, 3) := by decide +kernel
theorem dX2_put_17 : decode cX2_put 17 = .ok (.iload_n 1, 1) := by decide +kernel
theorem dX2_put_18 : decode cX2_put 18 = .ok (.iastore, 1) := by decide +kernel
theorem dX2_put_19 : decode cX2_put 19 = .ok (.aload_n 0, 1) := by decide +kernel
theorem dX2_put_20 : decode cX2_put 20 = .ok (.dup, 1) := by decide +kernel
theorem dX2_put_21 : decode cX2_put 21 = .ok (.getfield 9, 3) := by decide +kernel
theorem dX2_put_24 : decode cX2_put 24 = .ok (.iconst 1, 1) := by decide +kernel
theorem dX2_put_25 : decode cX2_put 25 = .ok (.iadd, 1) := by decide +kernel
theorem dX2_put_26 : decode cX2_put 26 = .ok (.putfield 9, 3) := by decide +kernel
theorem dX2_put_29 : decode cX2_put 29 = .ok (.aload_n 0, 1) := by decide +kernel
theorem dX2_put_30 : decode cX2_put 30 = .ok (.getfield 9, 3) := by decide +kernel
theorem dX2_put_33 : decode cX2_put 33 = .ok (.iconst 1, 1) := by decide +kernel
theorem dX2_put_34 : decode cX2_put 34 = .ok (.isub, 1) := by decide +kernel
theorem dX2_put_35 : decode cX2_put 35 = .ok (.ireturn, 1) := by decide +kernel
theorem dX3_init_0 : decode cX3_init 0 = .ok (.aload_n 0, 1) := by decide +kernel
theorem dX3_init_1 : decode cX3_init 1 = .ok (.invokespecial 3, 3) := by decide +kernel
theorem dX3_init_4 : decode cX3_init 4 = .ok (.aload_n 0, 1) := by decide +kernel
theorem dX3_init_5 : decode cX3_init 5 = .ok (.bipush 60, 2) := by decide +kernel
theorem dX3_init_7 : decode cX3_init 7 = .ok (.newarray .int, 2) := by decide +kernel
theorem dX3_init_9 : decode cX3_init 9 = .ok (.putfield 9, 3) := by decide +kernel
theorem dX3_init_12 : decode cX3_init 12 = .ok (.aload_n 0, 1) := by decide +kernel
theorem dX3_init_13 : decode cX3_init 13 = .ok (.bipush 60, 2) := by decide +kernel
theorem dX3_init_15 : decode cX3_init 15 = .ok (.newarray .int, 2) := by decide +kernel
theorem dX3_init_17 : decode cX3_init 17 = .ok (.putfield 15, 3) := by decide +kernel
theorem dX3_init_20 : decode cX3_init 20 = .ok (.aload_n 0, 1) := by decide +kernel
theorem dX3_init_21 : decode cX3_init 21 = .ok (.bipush 60, 2) := by decide +kernel
theorem dX3_init_23 : decode cX3_init 23 = .ok (.newarray .int, 2) := by decide +kernel
theorem dX3_init_25 : decode cX3_init 25 = .ok (.putfield 18, 3) := by decide +kernel
theorem dX3_init_28 : decode cX3_init 28 = .ok (.aload_n 0, 1) := by decide +kernel
theorem dX3_init_29 : decode cX3_init 29 = .ok (.bipush 60, 2) := by decide +kernel
theorem dX3_init_31 : decode cX3_init 31 = .ok (.newarray .int, 2) := by decide +kernel
theorem dX3_init_33 : decode cX3_init 33 = .ok (.putfield 21, 3) := by decide +kernel
theorem dX3_init_36 : decode cX3_init 36 = .ok (.aload_n 0, 1) := by decide +kernel
theorem dX3_init_37 : decode cX3_init 37 = .ok (.bipush 60, 2) := by decide +kernel
theorem dX3_init_39 : decode cX3_init 39 = .ok (.newarray .int, 2) := by decide +kernel
theorem dX3_init_41 : decode cX3_init 41 = .ok (.putfield 24, 3) := by decide +kernel
theorem dX3_init_44 : decode cX3_init 44 = .ok (.aload_n 0, 1) := by decide +kernel
theorem dX3_init_45 : decode cX3_init 45 = .ok (.iconst 0, 1) := by decide +kernel
theorem dX3_init_46 : decode cX3_init 46 = .ok (.putfield 27, 3) := by decide +kernel
theorem dX3_init_49 : decode cX3_init 49 = .ok (.return_, 1) := by decide +kernel
theorem dX3_put_0 : decode cX3_put 0 = .ok (.aload_n 0, 1) := by decide +kernel
theorem dX3_put_1 : decode cX3_put 1 = .ok (.getfield 27, 3) := by decide +kernel
theorem dX3_put_4 : decode cX3_put 4 = .ok (.bipush 60, 2) := by decide +kernel
theorem dX3_put_6 : decode cX3_put 6 = .ok (.if_icmp .lt 5, 3) := by decide +kernel
theorem dX3_put_9 : decode cX3_put 9 = .ok (.iconst (-1), 1) := by decide +kernel
theorem dX3_put_10 : decode cX3_put 10 = .ok (.ireturn, 1) := by decide +kernel
theorem dX3_put_11 : decode cX3_put 11 = .ok (.aload_n 0, 1) := by decide +kernel
theorem dX3_put_12 : decode cX3_put 12 = .ok (.getfield 9, 3) := by decide +kernel
theorem dX3_put_15 : decode cX3_put 15 = .ok (.aload_n 0, 1) := by decide +kernel
theorem dX3_put_16 : decode cX3_put 16 = .ok (.getfield 27, 3) := by decide +kernel
theorem dX3_put_19 : decode cX3_put 19 = .ok (.iload_n 1, 1) := by decide +kernel
theorem dX3_put_20 : decode cX3_put 20 = .ok (.iastore, 1) := by decide +kernel
theorem dX3_put_21 : decode cX3_put 21 = .ok (.aload_n 0, 1) := by decide +kernel
theorem dX3_put_22 : decode cX3_put 22 = .ok (.getfield 15, 3) := by decide +kernel
theorem dX3_put_25 : decode cX3_put 25 = .ok (.aload_n 0, 1) := by decide +kernel
theorem dX3_put_26 : decode cX3_put 26 = .ok (.getfield 27, 3) := by decide +kernel
theorem dX3_put_29 : decode cX3_put 29 = .ok (.iload_n 2, 1) := by decide +kernel
theorem dX3_put_30 : decode cX3_put 30 = .ok (.iastore, 1) := by decide +kernel
theorem dX3_put_31 : decode cX3_put 31 = .ok (.aload_n 0, 1) := by decide +kernel
theorem dX3_put_32 : decode cX3_put 32 = .ok (.getfield 18, 3) := by decide +kernel
theorem dX3_put_35 : decode cX3_put 35 = .ok (.aload_n 0, 1) := by decide +kernel
theorem dX3_put_36 : decode cX3_put 36 = .ok (.getfield 27, 3) := by decide +kernel
theorem dX3_put_39 : decode cX3_put 39 = .ok (.iload_n 3, 1) := by decide +kernel
theorem dX3_put_40 : decode cX3_put 40 = .ok (.iastore, 1) := by decide +kernel
theorem dX3_put_41 : decode cX3_put 41 = .ok (.aload_n 0, 1) := by decide +kernel
theorem dX3_put_42 : decode cX3_put 42 = .ok (.getfield 21, 3) := by decide +kernel
theorem dX3_put_45 : decode cX3_put 45 = .ok (.aload_n 0, 1) := by decide +kernel
theorem dX3_put_46 : decode cX3_put 46 = .ok (.getfield 27, 3) := by decide +kernel
theorem dX3_put_49 : decode cX3_put 49 = .ok (.iload 4, 2) := by decide +kernel
theorem dX3_put_51 : decode cX3_put 51 = .ok (.iastore, 1) := by decide +kernel
theorem dX3_put_52 : decode cX3_put 52 = .ok (.aload_n 0, 1) := by decide +kernel
theorem dX3_put_53 : decode cX3_put 53 = .ok (.dup, 1) := by decide +kernel
theorem dX3_put_54 : decode cX3_put 54 = .ok (.getfield 27, 3) := by decide +kernel
theorem dX3_put_57 : decode cX3_put 57 = .ok (.iconst 1, 1) := by decide +kernel
theorem dX3_put_58 : decode cX3_put 58 = .ok (.iadd, 1) := by decide +kernel
theorem dX3_put_59 : decode cX3_put 59 = .ok (.putfield 27, 3) := by decide +kernel
theorem dX3_put_62 : decode cX3_put 62 = .ok (.aload_n 0, 1) := by decide +kernel
theorem dX3_put_63 : decode cX3_put 63 = .ok (.getfield 27, 3) := by decide +kernel
theorem dX3_put_66 : decode cX3_put 66 = .ok (.iconst 1, 1) := by decide +kernel
theorem dX3_put_67 : decode cX3_put 67 = .ok (.isub, 1) := by decide +kernel
theorem dX3_put_68 : decode cX3_put 68 = .ok (.ireturn, 1) := by decide +kernel
theorem dX3_bring_0 : decode cX3_bring 0 = .ok (.iload_n 2, 1) := by decide +kernel
theorem dX3_bring_1 : decode cX3_bring 1 = .ok (.aload_n 0, 1) := by decide +kernel
theorem dX3_bring_2 : decode cX3_bring 2 = .ok (.getfield 27, 3) := by decide +kernel
theorem dX3_bring_5 : decode cX3_bring 5 = .ok (.invokestatic 31, 3) := by decide +kernel
theorem dX3_bring_8 : decode cX3_bring 8 = .ok (.istore_n 3, 1) := by decide +kernel
theorem dX3_bring_9 : decode cX3_bring 9 = .ok (.aload_n 0, 1) := by decide +kernel
theorem dX3_bring_10 : decode cX3_bring 10 = .ok (.iload_n 3, 1) := by decide +kernel
theorem dX3_bring_11 : decode cX3_bring 11 = .ok (.invokevirtual 37, 3) := by decide +kernel
theorem dX3_bring_14 : decode cX3_bring 14 = .ok (.iconst 0, 1) := by decide +kernel
theorem dX3_bring_15 : decode cX3_bring 15 = .ok (.istore 4, 2) := by decide +kernel
theorem dX3_bring_17 : decode cX3_bring 17 = .ok (.iload 4, 2) := by decide +kernel
theorem dX3_bring_19 : decode cX3_bring 19 = .ok (.iload_n 3, 1) := by decide +kernel
theorem dX3_bring_20 : decode cX3_bring 20 = .ok (.if_icmp .ge 120, 3) := by decide +kernel
theorem dX3_bring_23 : decode cX3_bring 23 = .ok (.aload_n 0, 1) := by decide +kernel
theorem dX3_bring_24 : decode cX3_bring 24 = .ok (.getfield 15, 3) := by decide +kernel
theorem dX3_bring_27 : decode cX3_bring 27 = .ok (.iload 4, 2) := by decide +kernel
theorem dX3_bring_29 : decode cX3_bring 29 = .ok (.iaload, 1) := by decide +kernel
theorem dX3_bring_30 : decode cX3_bring 30 = .ok (.istore 5, 2) := by decide +kernel
theorem dX3_bring_32 : decode cX3_bring 32 = .ok (.aload_n 0, 1) := by decide +kernel
theorem dX3_bring_33 : decode cX3_bring 33 = .ok (.getfield 24, 3) := by decide +kernel
theorem dX3_bring_36 : decode cX3_bring 36 = .ok (.iload 4, 2) := by decide +kernel
theorem dX3_bring_38 : decode cX3_bring 38 = .ok (.iaload, 1) := by decide +kernel
theorem dX3_bring_39 : decode cX3_bring 39 = .ok (.ifCond .ne 95, 3) := by decide +kernel
theorem dX3_bring_42 : decode cX3_bring 42 = .ok (.aload_n 0, 1) := by decide +kernel
theorem dX3_bring_43 : decode cX3_bring 43 = .ok (.getfield 9, 3) := by decide +kernel
theorem dX3_bring_46 : decode cX3_bring 46 = .ok (.iload 4, 2) := by decide +kernel
theorem dX3_bring_48 : decode cX3_bring 48 = .ok (.iaload, 1) := by decide +kernel
theorem dX3_bring_49 : decode cX3_bring 49 = .ok (.iconst 2, 1) := by decide +kernel
theorem dX3_bring_50 : decode cX3_bring 50 = .ok (.if_icmp .eq 84, 3) := by decide +kernel
theorem dX3_bring_53 : decode cX3_bring 53 = .ok (.iload 5, 2) := by decide +kernel
theorem dX3_bring_55 : decode cX3_bring 55 = .ok (.ifCond .lt 79, 3) := by decide +kernel
theorem dX3_bring_58 : decode cX3_bring 58 = .ok (.iload 5, 2) := by decide +kernel
theorem dX3_bring_60 : decode cX3_bring 60 = .ok (.bipush 6, 2) := by decide +kernel
theorem dX3_bring_62 : decode cX3_bring 62 = .ok (.iadd, 1) := by decide +kernel
theorem dX3_bring_63 : decode cX3_bring 63 = .ok (.aload_n 1, 1) := by decide +kernel
theorem dX3_bring_64 : decode cX3_bring 64 = .ok (.arraylength, 1) := by decide +kernel
theorem dX3_bring_65 : decode cX3_bring 65 = .ok (.if_icmp .le 6, 3) := by decide +kernel
theorem dX3_bring_68 : decode cX3_bring 68 = .ok (.goto 66, 3) := by decide +kernel
theorem dX3_bring_71 : decode cX3_bring 71 = .ok (.aload_n 0, 1) := by decide +kernel
theorem dX3_bring_72 : decode cX3_bring 72 = .ok (.getfield 9, 3) := by decide +kernel
theorem dX3_bring_75 : decode cX3_bring 75 = .ok (.iload 4, 2) := by decide +kernel
theorem dX3_bring_77 : decode cX3_bring 77 = .ok (.iaload, 1) := by decide +kernel
theorem dX3_bring_78 : decode cX3_bring 78 = .ok (.ifCond .ne 32, 3) := by decide +kernel
theorem dX3_bring_81 : decode cX3_bring 81 = .ok (.aload_n 1, 1) := by decide +kernel
theorem dX3_bring_82 : decode cX3_bring 82 = .ok (.iload 5, 2) := by decide +kernel
theorem dX3_bring_84 : decode cX3_bring 84 = .ok (.iconst 0, 1) := by decide +kernel
theorem dX3_bring_85 : decode cX3_bring 85 = .ok (.iadd, 1) := by decide +kernel
theorem dX3_bring_86 : decode cX3_bring 86 = .ok (.aload_n 0, 1) := by decide +kernel
theorem dX3_bring_87 : decode cX3_bring 87 = .ok (.getfield 18, 3) := by decide +kernel
theorem dX3_bring_90 : decode cX3_bring 90 = .ok (.iload 4, 2) := by decide +kernel
theorem dX3_bring_92 : decode cX3_bring 92 = .ok (.iaload, 1) := by decide +kernel
theorem dX3_bring_93 : decode cX3_bring 93 = .ok (.iastore, 1) := by decide +kernel
theorem dX3_bring_94 : decode cX3_bring 94 = .ok (.aload_n 1, 1) := by decide +kernel
theorem dX3_bring_95 : decode cX3_bring 95 = .ok (.iload 5, 2) := by decide +kernel
theorem dX3_bring_97 : decode cX3_bring 97 = .ok (.iconst 1, 1) := by decide +kernel
theorem dX3_bring_98 : decode cX3_bring 98 = .ok (.iadd, 1) := by decide +kernel
theorem dX3_bring_99 : decode cX3_bring 99 = .ok (.aload_n 0, 1) := by decide +kernel
theorem dX3_bring_100 : decode cX3_bring 100 = .ok (.getfield 21, 3) := by decide +kernel
theorem dX3_bring_103 : decode cX3_bring 103 = .ok (.iload 4, 2) := by decide +kernel
theorem dX3_bring_105 : decode cX3_bring 105 = .ok (.iaload, 1) := by decide +kernel
theorem dX3_bring_106 : decode cX3_bring 106 = .ok (.iastore, 1) := by decide +kernel
theorem dX3_bring_107 : decode cX3_bring 107 = .ok (.goto 27, 3) := by decide +kernel
theorem dX3_bring_110 : decode cX3_bring 110 = .ok (.aload_n 0, 1) := by decide +kernel
theorem dX3_bring_111 : decode cX3_bring 111 = .ok (.getfield 9, 3) := by decide +kernel
theorem dX3_bring_114 : decode cX3_bring 114 = .ok (.iload 4, 2) := by decide +kernel
theorem dX3_bring_116 : decode cX3_bring 116 = .ok (.iaload, 1) := by decide +kernel
theorem dX3_bring_117 : decode cX3_bring 117 = .ok (.iconst 1, 1) := by decide +kernel
theorem dX3_bring_118 : decode cX3_bring 118 = .ok (.if_icmp .ne 16, 3) := by decide +kernel
theorem dX3_bring_121 : decode cX3_bring 121 = .ok (.aload_n 1, 1) := by decide +kernel
theorem dX3_bring_122 : decode cX3_bring 122 = .ok (.iload 5, 2) := by decide +kernel
theorem dX3_bring_124 : decode cX3_bring 124 = .ok (.iconst 5, 1) := by decide +kernel
theorem dX3_bring_125 : decode cX3_bring 125 = .ok (.iadd, 1) := by decide +kernel
theorem dX3_bring_126 : decode cX3_bring 126 = .ok (.aload_n 0, 1) := by decide +kernel
theorem dX3_bring_127 : decode cX3_bring 127 = .ok (.getfield 18, 3) := by decide +kernel
theorem dX3_bring_130 : decode cX3_bring 130 = .ok (.iload 4, 2) := by decide +kernel
theorem dX3_bring_132 : decode cX3_bring 132 = .ok (.iaload, 1) := by decide +kernel
theorem dX3_bring_133 : decode cX3_bring 133 = .ok (.iastore, 1) := by decide +kernel
theorem dX3_bring_134 : decode cX3_bring 134 = .ok (.iinc 4 1, 3) := by decide +kernel
theorem dX3_bring_137 : decode cX3_bring 137 = .ok (.goto (-120), 3) := by decide +kernel
theorem dX3_bring_140 : decode cX3_bring 140 = .ok (.return_, 1) := by decide +kernel
theorem dX3_findStruck_0 : decode cX3_findStruck 0 = .ok (.aload_n 0, 1) := by decide +kernel
theorem dX3_findStruck_1 : decode cX3_findStruck 1 = .ok (.getfield 24, 3) := by decide +kernel
theorem dX3_findStruck_4 : decode cX3_findStruck 4 = .ok (.iconst 0, 1) := by decide +kernel
theorem dX3_findStruck_5 : decode cX3_findStruck 5 = .ok (.invokestatic 41, 3) := by decide +kernel
theorem dX3_findStruck_8 : decode cX3_findStruck 8 = .ok (.iload_n 1, 1) := by decide +kernel
theorem dX3_findStruck_9 : decode cX3_findStruck 9 = .ok (.iconst 1, 1) := by decide +kernel
theorem dX3_findStruck_10 : decode cX3_findStruck 10 = .ok (.isub, 1) := by decide +kernel
theorem dX3_findStruck_11 : decode cX3_findStruck 11 = .ok (.istore_n 2, 1) := by decide +kernel
theorem dX3_findStruck_12 : decode cX3_findStruck 12 = .ok (.iload_n 2, 1) := by decide +kernel
theorem dX3_findStruck_13 : decode cX3_findStruck 13 = .ok (.ifCond .lt 52, 3) := by decide +kernel
theorem dX3_findStruck_16 : decode cX3_findStruck 16 = .ok (.aload_n 0, 1) := by decide +kernel
theorem dX3_findStruck_17 : decode cX3_findStruck 17 = .ok (.getfield 15, 3) := by decide +kernel
theorem dX3_findStruck_20 : decode cX3_findStruck 20 = .ok (.iload_n 2, 1) := by decide +kernel
theorem dX3_findStruck_21 : decode cX3_findStruck 21 = .ok (.iaload, 1) := by decide +kernel
theorem dX3_findStruck_22 : decode cX3_findStruck 22 = .ok (.istore_n 3, 1) := by decide +kernel
theorem dX3_findStruck_23 : decode cX3_findStruck 23 = .ok (.aload_n 0, 1) := by decide +kernel
theorem dX3_findStruck_24 : decode cX3_findStruck 24 = .ok (.getfield 9, 3) := by decide +kernel
theorem dX3_findStruck_27 : decode cX3_findStruck 27 = .ok (.iload_n 2, 1) := by decide +kernel
theorem dX3_findStruck_28 : decode cX3_findStruck 28 = .ok (.iaload, 1) := by decide +kernel
theorem dX3_findStruck_29 : decode cX3_findStruck 29 = .ok (.iconst 2, 1) := by decide +kernel
theorem dX3_findStruck_30 : decode cX3_findStruck 30 = .ok (.if_icmp .ne 29, 3) := by decide +kernel
theorem dX3_findStruck_33 : decode cX3_findStruck 33 = .ok (.aload_n 0, 1) := by decide +kernel
theorem dX3_findStruck_34 : decode cX3_findStruck 34 = .ok (.getfield 24, 3) := by decide +kernel
theorem dX3_findStruck_37 : decode cX3_findStruck 37 = .ok (.iload_n 2, 1) := by decide +kernel
theorem dX3_findStruck_38 : decode cX3_findStruck 38 = .ok (.iaload, 1) := by decide +kernel
theorem dX3_findStruck_39 : decode cX3_findStruck 39 = .ok (.ifCond .ne 20, 3) := by decide +kernel
theorem dX3_findStruck_42 : decode cX3_findStruck 42 = .ok (.iload_n 3, 1) := by decide +kernel
theorem dX3_findStruck_43 : decode cX3_findStruck 43 = .ok (.ifCond .lt 16, 3) := by decide +kernel
theorem dX3_findStruck_46 : decode cX3_findStruck 46 = .ok (.iload_n 3, 1) := by decide +kernel
theorem dX3_findStruck_47 : decode cX3_findStruck 47 = .ok (.bipush 60, 2) := by decide +kernel
theorem dX3_findStruck_49 : decode cX3_findStruck 49 = .ok (.if_icmp .ge 10, 3) := by decide +kernel
theorem dX3_findStruck_52 : decode cX3_findStruck 52 = .ok (.aload_n 0, 1) := by decide +kernel
theorem dX3_findStruck_53 : decode cX3_findStruck 53 = .ok (.getfield 24, 3) := by decide +kernel
theorem dX3_findStruck_56 : decode cX3_findStruck 56 = .ok (.iload_n 3, 1) := by decide +kernel
theorem dX3_findStruck_57 : decode cX3_findStruck 57 = .ok (.iconst 1, 1) := by decide +kernel
theorem dX3_findStruck_58 : decode cX3_findStruck 58 = .ok (.iastore, 1) := by decide +kernel
theorem dX3_findStruck_59 : decode cX3_findStruck 59 = .ok (.iinc 2 (-1), 3) := by decide +kernel
theorem dX3_findStruck_62 : decode cX3_findStruck 62 = .ok (.goto (-50), 3) := by decide +kernel
theorem dX3_findStruck_65 : decode cX3_findStruck 65 = .ok (.return_, 1) := by decide +kernel
theorem dX4_init_0 : decode cX4_init 0 = .ok (.aload_n 0, 1) := by decide +kernel
theorem dX4_init_1 : decode cX4_init 1 = .ok (.invokespecial 3, 3) := by decide +kernel
theorem dX4_init_4 : decode cX4_init 4 = .ok (.aload_n 0, 1) := by decide +kernel
theorem dX4_init_5 : decode cX4_init 5 = .ok (.new 9, 3) := by decide +kernel
theorem dX4_init_8 : decode cX4_init 8 = .ok (.dup, 1) := by decide +kernel
theorem dX4_init_9 : decode cX4_init 9 = .ok (.invokespecial 11, 3) := by decide +kernel
theorem dX4_init_12 : decode cX4_init 12 = .ok (.putfield 12, 3) := by decide +kernel
theorem dX4_init_15 : decode cX4_init 15 = .ok (.aload_n 0, 1) := by decide +kernel
theorem dX4_init_16 : decode cX4_init 16 = .ok (.new 18, 3) := by decide +kernel
theorem dX4_init_19 : decode cX4_init 19 = .ok (.dup, 1) := by decide +kernel
theorem dX4_init_20 : decode cX4_init 20 = .ok (.invokespecial 20, 3) := by decide +kernel
theorem dX4_init_23 : decode cX4_init 23 = .ok (.putfield 21, 3) := by decide +kernel
theorem dX4_init_26 : decode cX4_init 26 = .ok (.aload_n 0, 1) := by decide +kernel
theorem dX4_init_27 : decode cX4_init 27 = .ok (.iconst 0, 1) := by decide +kernel
theorem dX4_init_28 : decode cX4_init 28 = .ok (.putfield 25, 3) := by decide +kernel
theorem dX4_init_31 : decode cX4_init 31 = .ok (.aload_n 0, 1) := by decide +kernel
theorem dX4_init_32 : decode cX4_init 32 = .ok (.iconst (-1), 1) := by decide +kernel
theorem dX4_init_33 : decode cX4_init 33 = .ok (.putfield 29, 3) := by decide +kernel
theorem dX4_init_36 : decode cX4_init 36 = .ok (.aload_n 0, 1) := by decide +kernel
theorem dX4_init_37 : decode cX4_init 37 = .ok (.iconst 0, 1) := by decide +kernel
theorem dX4_init_38 : decode cX4_init 38 = .ok (.putfield 32, 3) := by decide +kernel
theorem dX4_init_41 : decode cX4_init 41 = .ok (.aload_n 0, 1) := by decide +kernel
theorem dX4_init_42 : decode cX4_init 42 = .ok (.iconst 0, 1) := by decide +kernel
theorem dX4_init_43 : decode cX4_init 43 = .ok (.putfield 35, 3) := by decide +kernel
theorem dX4_init_46 : decode cX4_init 46 = .ok (.return_, 1) := by decide +kernel
theorem dX4_read_0 : decode cX4_read 0 = .ok (.aload_n 0, 1) := by decide +kernel
theorem dX4_read_1 : decode cX4_read 1 = .ok (.iconst 0, 1) := by decide +kernel
theorem dX4_read_2 : decode cX4_read 2 = .ok (.putfield 25, 3) := by decide +kernel
theorem dX4_read_5 : decode cX4_read 5 = .ok (.aload_n 0, 1) := by decide +kernel
theorem dX4_read_6 : decode cX4_read 6 = .ok (.iconst (-1), 1) := by decide +kernel
theorem dX4_read_7 : decode cX4_read 7 = .ok (.putfield 29, 3) := by decide +kernel
theorem dX4_read_10 : decode cX4_read 10 = .ok (.aload_n 0, 1) := by decide +kernel
theorem dX4_read_11 : decode cX4_read 11 = .ok (.iconst 0, 1) := by decide +kernel
theorem dX4_read_12 : decode cX4_read 12 = .ok (.putfield 32, 3) := by decide +kernel
theorem dX4_read_15 : decode cX4_read 15 = .ok (.aload_n 3, 1) := by decide +kernel
theorem dX4_read_16 : decode cX4_read 16 = .ok (.invokevirtual 38, 3) := by decide +kernel
theorem dX4_read_19 : decode cX4_read 19 = .ok (.aload_n 0, 1) := by decide +kernel
theorem dX4_read_20 : decode cX4_read 20 = .ok (.getfield 12, 3) := by decide +kernel
theorem dX4_read_23 : decode cX4_read 23 = .ok (.aload_n 1, 1) := by decide +kernel
theorem dX4_read_24 : decode cX4_read 24 = .ok (.iload_n 2, 1) := by decide +kernel
theorem dX4_read_25 : decode cX4_read 25 = .ok (.invokevirtual 43, 3) := by decide +kernel
theorem dX4_read_28 : decode cX4_read 28 = .ok (.iconst 0, 1) := by decide +kernel
theorem dX4_read_29 : decode cX4_read 29 = .ok (.istore 4, 2) := by decide +kernel
theorem dX4_read_31 : decode cX4_read 31 = .ok (.iload 4, 2) := by decide +kernel
theorem dX4_read_33 : decode cX4_read 33 = .ok (.iload_n 2, 1) := by decide +kernel
theorem dX4_read_34 : decode cX4_read 34 = .ok (.if_icmp .gt 63, 3) := by decide +kernel
theorem dX4_read_37 : decode cX4_read 37 = .ok (.aload_n 0, 1) := by decide +kernel
theorem dX4_read_38 : decode cX4_read 38 = .ok (.getfield 12, 3) := by decide +kernel
theorem dX4_read_41 : decode cX4_read 41 = .ok (.getfield 47, 3) := by decide +kernel
theorem dX4_read_44 : decode cX4_read 44 = .ok (.ifCond .eq 53, 3) := by decide +kernel
theorem dX4_read_47 : decode cX4_read 47 = .ok (.aload_n 0, 1) := by decide +kernel
theorem dX4_read_48 : decode cX4_read 48 = .ok (.aload_n 3, 1) := by decide +kernel
theorem dX4_read_49 : decode cX4_read 49 = .ok (.invokevirtual 50, 3) := by decide +kernel
theorem dX4_read_52 : decode cX4_read 52 = .ok (.ifCond .ne 5, 3) := by decide +kernel
theorem dX4_read_55 : decode cX4_read 55 = .ok (.iconst 0, 1) := by decide +kernel
theorem dX4_read_56 : decode cX4_read 56 = .ok (.ireturn, 1) := by decide +kernel
theorem dX4_read_57 : decode cX4_read 57 = .ok (.aload_n 0, 1) := by decide +kernel
theorem dX4_read_58 : decode cX4_read 58 = .ok (.getfield 12, 3) := by decide +kernel
theorem dX4_read_61 : decode cX4_read 61 = .ok (.getfield 47, 3) := by decide +kernel
theorem dX4_read_64 : decode cX4_read 64 = .ok (.iconst 4, 1) := by decide +kernel
theorem dX4_read_65 : decode cX4_read 65 = .ok (.if_icmp .eq 9, 3) := by decide +kernel
theorem dX4_read_68 : decode cX4_read 68 = .ok (.aload_n 0, 1) := by decide +kernel
theorem dX4_read_69 : decode cX4_read 69 = .ok (.iconst 1, 1) := by decide +kernel
theorem dX4_read_70 : decode cX4_read 70 = .ok (.invokevirtual 54, 3) := by decide +kernel
theorem dX4_read_73 : decode cX4_read 73 = .ok (.ireturn, 1) := by decide +kernel
theorem dX4_read_74 : decode cX4_read 74 = .ok (.aload_n 0, 1) := by decide +kernel
theorem dX4_read_75 : decode cX4_read 75 = .ok (.getfield 12, 3) := by decide +kernel
theorem dX4_read_78 : decode cX4_read 78 = .ok (.invokevirtual 58, 3) := by decide +kernel
theorem dX4_read_81 : decode cX4_read 81 = .ok (.aload_n 0, 1) := by decide +kernel
theorem dX4_read_82 : decode cX4_read 82 = .ok (.dup, 1) := by decide +kernel
theorem dX4_read_83 : decode cX4_read 83 = .ok (.getfield 32, 3) := by decide +kernel
theorem dX4_read_86 : decode cX4_read 86 = .ok (.iconst 1, 1) := by decide +kernel
theorem dX4_read_87 : decode cX4_read 87 = .ok (.iadd, 1) := by decide +kernel
theorem dX4_read_88 : decode cX4_read 88 = .ok (.putfield 32, 3) := by decide +kernel
theorem dX4_read_91 : decode cX4_read 91 = .ok (.iinc 4 1, 3) := by decide +kernel
theorem dX4_read_94 : decode cX4_read 94 = .ok (.goto (-63), 3) := by decide +kernel
theorem dX4_read_97 : decode cX4_read 97 = .ok (.iconst 1, 1) := by decide +kernel
theorem dX4_read_98 : decode cX4_read 98 = .ok (.ireturn, 1) := by decide +kernel
theorem dX4_refuse_0 : decode cX4_refuse 0 = .ok (.aload_n 0, 1) := by decide +kernel
theorem dX4_refuse_1 : decode cX4_refuse 1 = .ok (.iload_n 1, 1) := by decide +kernel
theorem dX4_refuse_2 : decode cX4_refuse 2 = .ok (.putfield 25, 3) := by decide +kernel
theorem dX4_refuse_5 : decode cX4_refuse 5 = .ok (.aload_n 0, 1) := by decide +kernel
theorem dX4_refuse_6 : decode cX4_refuse 6 = .ok (.aload_n 0, 1) := by decide +kernel
theorem dX4_refuse_7 : decode cX4_refuse 7 = .ok (.getfield 12, 3) := by decide +kernel
theorem dX4_refuse_10 : decode cX4_refuse 10 = .ok (.getfield 61, 3) := by decide +kernel
theorem dX4_refuse_13 : decode cX4_refuse 13 = .ok (.putfield 29, 3) := by decide +kernel
theorem dX4_refuse_16 : decode cX4_refuse 16 = .ok (.iconst 0, 1) := by decide +kernel
theorem dX4_refuse_17 : decode cX4_refuse 17 = .ok (.ireturn, 1) := by decide +kernel
theorem dX4_readLine_0 : decode cX4_readLine 0 = .ok (.aload_n 0, 1) := by decide +kernel
theorem dX4_readLine_1 : decode cX4_readLine 1 = .ok (.getfield 12, 3) := by decide +kernel
theorem dX4_readLine_4 : decode cX4_readLine 4 = .ok (.getfield 47, 3) := by decide +kernel
theorem dX4_readLine_7 : decode cX4_readLine 7 = .ok (.tableswitch 106 20 31 #[61, 70, 106, 106, 106, 106, 76, 82, 88, 106, 94, 100], 61) := by decide +kernel
theorem dX4_readLine_68 : decode cX4_readLine 68 = .ok (.aload_n 0, 1) := by decide +kernel
theorem dX4_readLine_69 : decode cX4_readLine 69 = .ok (.aload_n 1, 1) := by decide +kernel
theorem dX4_readLine_70 : decode cX4_readLine 70 = .ok (.getfield 62, 3) := by decide +kernel
theorem dX4_readLine_73 : decode cX4_readLine 73 = .ok (.invokevirtual 66, 3) := by decide +kernel
theorem dX4_readLine_76 : decode cX4_readLine 76 = .ok (.ireturn, 1) := by decide +kernel
theorem dX4_readLine_77 : decode cX4_readLine 77 = .ok (.aload_n 0, 1) := by decide +kernel
theorem dX4_readLine_78 : decode cX4_readLine 78 = .ok (.aload_n 1, 1) := by decide +kernel
theorem dX4_readLine_79 : decode cX4_readLine 79 = .ok (.invokevirtual 70, 3) := by decide +kernel
theorem dX4_readLine_82 : decode cX4_readLine 82 = .ok (.ireturn, 1) := by decide +kernel
theorem dX4_readLine_83 : decode cX4_readLine 83 = .ok (.aload_n 0, 1) := by decide +kernel
theorem dX4_readLine_84 : decode cX4_readLine 84 = .ok (.aload_n 1, 1) := by decide +kernel
theorem dX4_readLine_85 : decode cX4_readLine 85 = .ok (.invokevirtual 73, 3) := by decide +kernel
theorem dX4_readLine_88 : decode cX4_readLine 88 = .ok (.ireturn, 1) := by decide +kernel
theorem dX4_readLine_89 : decode cX4_readLine 89 = .ok (.aload_n 0, 1) := by decide +kernel
theorem dX4_readLine_90 : decode cX4_readLine 90 = .ok (.aload_n 1, 1) := by decide +kernel
theorem dX4_readLine_91 : decode cX4_readLine 91 = .ok (.invokevirtual 76, 3) := by decide +kernel
theorem dX4_readLine_94 : decode cX4_readLine 94 = .ok (.ireturn, 1) := by decide +kernel
theorem dX4_readLine_95 : decode cX4_readLine 95 = .ok (.aload_n 0, 1) := by decide +kernel
theorem dX4_readLine_96 : decode cX4_readLine 96 = .ok (.aload_n 1, 1) := by decide +kernel
theorem dX4_readLine_97 : decode cX4_readLine 97 = .ok (.invokevirtual 79, 3) := by decide +kernel
theorem dX4_readLine_100 : decode cX4_readLine 100 = .ok (.ireturn, 1) := by decide +kernel
theorem dX4_readLine_101 : decode cX4_readLine 101 = .ok (.aload_n 0, 1) := by decide +kernel
theorem dX4_readLine_102 : decode cX4_readLine 102 = .ok (.aload_n 1, 1) := by decide +kernel
theorem dX4_readLine_103 : decode cX4_readLine 103 = .ok (.invokevirtual 82, 3) := by decide +kernel
theorem dX4_readLine_106 : decode cX4_readLine 106 = .ok (.ireturn, 1) := by decide +kernel
theorem dX4_readLine_107 : decode cX4_readLine 107 = .ok (.aload_n 0, 1) := by decide +kernel
theorem dX4_readLine_108 : decode cX4_readLine 108 = .ok (.aload_n 1, 1) := by decide +kernel
theorem dX4_readLine_109 : decode cX4_readLine 109 = .ok (.invokevirtual 85, 3) := by decide +kernel
theorem dX4_readLine_112 : decode cX4_readLine 112 = .ok (.ireturn, 1) := by decide +kernel
theorem dX4_readLine_113 : decode cX4_readLine 113 = .ok (.aload_n 0, 1) := by decide +kernel
theorem dX4_readLine_114 : decode cX4_readLine 114 = .ok (.iconst 1, 1) := by decide +kernel
theorem dX4_readLine_115 : decode cX4_readLine 115 = .ok (.invokevirtual 54, 3) := by decide +kernel
theorem dX4_readLine_118 : decode cX4_readLine 118 = .ok (.ireturn, 1) := by decide +kernel
theorem dX4_readHead_0 : decode cX4_readHead 0 = .ok (.aload_n 1, 1) := by decide +kernel
theorem dX4_readHead_1 : decode cX4_readHead 1 = .ok (.invokevirtual 88, 3) := by decide +kernel
theorem dX4_readHead_4 : decode cX4_readHead 4 = .ok (.ifCond .eq 9, 3) := by decide +kernel
theorem dX4_readHead_7 : decode cX4_readHead 7 = .ok (.aload_n 0, 1) := by decide +kernel
theorem dX4_readHead_8 : decode cX4_readHead 8 = .ok (.iconst 2, 1) := by decide +kernel
theorem dX4_readHead_9 : decode cX4_readHead 9 = .ok (.invokevirtual 54, 3) := by decide +kernel
theorem dX4_readHead_12 : decode cX4_readHead 12 = .ok (.ireturn, 1) := by decide +kernel
theorem dX4_readHead_13 : decode cX4_readHead 13 = .ok (.aload_n 0, 1) := by decide +kernel
theorem dX4_readHead_14 : decode cX4_readHead 14 = .ok (.getfield 12, 3) := by decide +kernel
theorem dX4_readHead_17 : decode cX4_readHead 17 = .ok (.invokevirtual 58, 3) := by decide +kernel
theorem dX4_readHead_20 : decode cX4_readHead 20 = .ok (.aload_n 0, 1) := by decide +kernel
theorem dX4_readHead_21 : decode cX4_readHead 21 = .ok (.getfield 12, 3) := by decide +kernel
theorem dX4_readHead_24 : decode cX4_readHead 24 = .ok (.getfield 47, 3) := by decide +kernel
theorem dX4_readHead_27 : decode cX4_readHead 27 = .ok (.iconst 2, 1) := by decide +kernel
theorem dX4_readHead_28 : decode cX4_readHead 28 = .ok (.if_icmp .eq 9, 3) := by decide +kernel
theorem dX4_readHead_31 : decode cX4_readHead 31 = .ok (.aload_n 0, 1) := by decide +kernel
theorem dX4_readHead_32 : decode cX4_readHead 32 = .ok (.iconst 1, 1) := by decide +kernel
theorem dX4_readHead_33 : decode cX4_readHead 33 = .ok (.invokevirtual 54, 3) := by decide +kernel
theorem dX4_readHead_36 : decode cX4_readHead 36 = .ok (.ireturn, 1) := by decide +kernel
theorem dX4_readHead_37 : decode cX4_readHead 37 = .ok (.aload_n 1, 1) := by decide +kernel
theorem dX4_readHead_38 : decode cX4_readHead 38 = .ok (.aload_n 0, 1) := by decide +kernel
theorem dX4_readHead_39 : decode cX4_readHead 39 = .ok (.getfield 12, 3) := by decide +kernel
theorem dX4_readHead_42 : decode cX4_readHead 42 = .ok (.getfield 94, 3) := by decide +kernel
theorem dX4_readHead_45 : decode cX4_readHead 45 = .ok (.invokevirtual 97, 3) := by decide +kernel
theorem dX4_readHead_48 : decode cX4_readHead 48 = .ok (.iconst (-1), 1) := by decide +kernel
theorem dX4_readHead_49 : decode cX4_readHead 49 = .ok (.if_icmp .eq 9, 3) := by decide +kernel
theorem dX4_readHead_52 : decode cX4_readHead 52 = .ok (.aload_n 0, 1) := by decide +kernel
theorem dX4_readHead_53 : decode cX4_readHead 53 = .ok (.iconst 3, 1) := by decide +kernel
theorem dX4_readHead_54 : decode cX4_readHead 54 = .ok (.invokevirtual 54, 3) := by decide +kernel
theorem dX4_readHead_57 : decode cX4_readHead 57 = .ok (.ireturn, 1) := by decide +kernel
theorem dX4_readHead_58 : decode cX4_readHead 58 = .ok (.aload_n 0, 1) := by decide +kernel
theorem dX4_readHead_59 : decode cX4_readHead 59 = .ok (.aload_n 1, 1) := by decide +kernel
theorem dX4_readHead_60 : decode cX4_readHead 60 = .ok (.aload_n 0, 1) := by decide +kernel
theorem dX4_readHead_61 : decode cX4_readHead 61 = .ok (.getfield 12, 3) := by decide +kernel
theorem dX4_readHead_64 : decode cX4_readHead 64 = .ok (.getfield 94, 3) := by decide +kernel
theorem dX4_readHead_67 : decode cX4_readHead 67 = .ok (.invokevirtual 101, 3) := by decide +kernel
theorem dX4_readHead_70 : decode cX4_readHead 70 = .ok (.putfield 35, 3) := by decide +kernel
theorem dX4_readHead_73 : decode cX4_readHead 73 = .ok (.aload_n 0, 1) := by decide +kernel
theorem dX4_readHead_74 : decode cX4_readHead 74 = .ok (.getfield 12, 3) := by decide +kernel
theorem dX4_readHead_77 : decode cX4_readHead 77 = .ok (.invokevirtual 58, 3) := by decide +kernel
theorem dX4_readHead_80 : decode cX4_readHead 80 = .ok (.iconst 1, 1) := by decide +kernel
theorem dX4_readHead_81 : decode cX4_readHead 81 = .ok (.ireturn, 1) := by decide +kernel
theorem dX4_readToldName_0 : decode cX4_readToldName 0 = .ok (.aload_n 0, 1) := by decide +kernel
theorem dX4_readToldName_1 : decode cX4_readToldName 1 = .ok (.getfield 12, 3) := by decide +kernel
theorem dX4_readToldName_4 : decode cX4_readToldName 4 = .ok (.getfield 47, 3) := by decide +kernel
theorem dX4_readToldName_7 : decode cX4_readToldName 7 = .ok (.iconst 2, 1) := by decide +kernel
theorem dX4_readToldName_8 : decode cX4_readToldName 8 = .ok (.if_icmp .eq 9, 3) := by decide +kernel
theorem dX4_readToldName_11 : decode cX4_readToldName 11 = .ok (.aload_n 0, 1) := by decide +kernel
theorem dX4_readToldName_12 : decode cX4_readToldName 12 = .ok (.iconst 1, 1) := by decide +kernel
theorem dX4_readToldName_13 : decode cX4_readToldName 13 = .ok (.invokevirtual 54, 3) := by decide +kernel
theorem dX4_readToldName_16 : decode cX4_readToldName 16 = .ok (.ireturn, 1) := by decide +kernel
theorem dX4_readToldName_17 : decode cX4_readToldName 17 = .ok (.aload_n 0, 1) := by decide +kernel
theorem dX4_readToldName_18 : decode cX4_readToldName 18 = .ok (.aload_n 1, 1) := by decide +kernel
theorem dX4_readToldName_19 : decode cX4_readToldName 19 = .ok (.aload_n 0, 1) := by decide +kernel
theorem dX4_readToldName_20 : decode cX4_readToldName 20 = .ok (.getfield 12, 3) := by decide +kernel
theorem dX4_readToldName_23 : decode cX4_readToldName 23 = .ok (.getfield 94, 3) := by decide +kernel
theorem dX4_readToldName_26 : decode cX4_readToldName 26 = .ok (.invokevirtual 97, 3) := by decide +kernel
theorem dX4_readToldName_29 : decode cX4_readToldName 29 = .ok (.putfield 35, 3) := by decide +kernel
theorem dX4_readToldName_32 : decode cX4_readToldName 32 = .ok (.aload_n 0, 1) := by decide +kernel
theorem dX4_readToldName_33 : decode cX4_readToldName 33 = .ok (.getfield 35, 3) := by decide +kernel
theorem dX4_readToldName_36 : decode cX4_readToldName 36 = .ok (.iconst (-1), 1) := by decide +kernel
theorem dX4_readToldName_37 : decode cX4_readToldName 37 = .ok (.if_icmp .ne 9, 3) := by decide +kernel
theorem dX4_readToldName_40 : decode cX4_readToldName 40 = .ok (.aload_n 0, 1) := by decide +kernel
theorem dX4_readToldName_41 : decode cX4_readToldName 41 = .ok (.iconst 4, 1) := by decide +kernel
theorem dX4_readToldName_42 : decode cX4_readToldName 42 = .ok (.invokevirtual 54, 3) := by decide +kernel
theorem dX4_readToldName_45 : decode cX4_readToldName 45 = .ok (.ireturn, 1) := by decide +kernel
theorem dX4_readToldName_46 : decode cX4_readToldName 46 = .ok (.aload_n 0, 1) := by decide +kernel
theorem dX4_readToldName_47 : decode cX4_readToldName 47 = .ok (.getfield 12, 3) := by decide +kernel
theorem dX4_readToldName_50 : decode cX4_readToldName 50 = .ok (.invokevirtual 58, 3) := by decide +kernel
theorem dX4_readToldName_53 : decode cX4_readToldName 53 = .ok (.iconst 1, 1) := by decide +kernel
theorem dX4_readToldName_54 : decode cX4_readToldName 54 = .ok (.ireturn, 1) := by decide +kernel
theorem dX4_readNumber_0 : decode cX4_readNumber 0 = .ok (.iload_n 1, 1) := by decide +kernel
theorem dX4_readNumber_1 : decode cX4_readNumber 1 = .ok (.ifCond .ge 19, 3) := by decide +kernel
theorem dX4_readNumber_4 : decode cX4_readNumber 4 = .ok (.aload_n 0, 1) := by decide +kernel
theorem dX4_readNumber_5 : decode cX4_readNumber 5 = .ok (.getfield 12, 3) := by decide +kernel
theorem dX4_readNumber_8 : decode cX4_readNumber 8 = .ok (.getfield 47, 3) := by decide +kernel
theorem dX4_readNumber_11 : decode cX4_readNumber 11 = .ok (.bipush 8, 2) := by decide +kernel
theorem dX4_readNumber_13 : decode cX4_readNumber 13 = .ok (.if_icmp .ne 7, 3) := by decide +kernel
theorem dX4_readNumber_16 : decode cX4_readNumber 16 = .ok (.iconst 1, 1) := by decide +kernel
theorem dX4_readNumber_17 : decode cX4_readNumber 17 = .ok (.goto 4, 3) := by decide +kernel
theorem dX4_readNumber_20 : decode cX4_readNumber 20 = .ok (.iconst 0, 1) := by decide +kernel
theorem dX4_readNumber_21 : decode cX4_readNumber 21 = .ok (.istore_n 3, 1) := by decide +kernel
theorem dX4_readNumber_22 : decode cX4_readNumber 22 = .ok (.iload_n 3, 1) := by decide +kernel
theorem dX4_readNumber_23 : decode cX4_readNumber 23 = .ok (.ifCond .eq 10, 3) := by decide +kernel
theorem dX4_readNumber_26 : decode cX4_readNumber 26 = .ok (.aload_n 0, 1) := by decide +kernel
theorem dX4_readNumber_27 : decode cX4_readNumber 27 = .ok (.getfield 12, 3) := by decide +kernel
theorem dX4_readNumber_30 : decode cX4_readNumber 30 = .ok (.invokevirtual 58, 3) := by decide +kernel
theorem dX4_readNumber_33 : decode cX4_readNumber 33 = .ok (.aload_n 0, 1) := by decide +kernel
theorem dX4_readNumber_34 : decode cX4_readNumber 34 = .ok (.getfield 12, 3) := by decide +kernel
theorem dX4_readNumber_37 : decode cX4_readNumber 37 = .ok (.getfield 47, 3) := by decide +kernel
theorem dX4_readNumber_40 : decode cX4_readNumber 40 = .ok (.iconst 3, 1) := by decide +kernel
theorem dX4_readNumber_41 : decode cX4_readNumber 41 = .ok (.if_icmp .eq 9, 3) := by decide +kernel
theorem dX4_readNumber_44 : decode cX4_readNumber 44 = .ok (.aload_n 0, 1) := by decide +kernel
theorem dX4_readNumber_45 : decode cX4_readNumber 45 = .ok (.iconst 1, 1) := by decide +kernel
theorem dX4_readNumber_46 : decode cX4_readNumber 46 = .ok (.invokevirtual 54, 3) := by decide +kernel
theorem dX4_readNumber_49 : decode cX4_readNumber 49 = .ok (.ireturn, 1) := by decide +kernel
theorem dX4_readNumber_50 : decode cX4_readNumber 50 = .ok (.aload_n 0, 1) := by decide +kernel
theorem dX4_readNumber_51 : decode cX4_readNumber 51 = .ok (.iload_n 3, 1) := by decide +kernel
theorem dX4_readNumber_52 : decode cX4_readNumber 52 = .ok (.ifCond .eq 14, 3) := by decide +kernel
theorem dX4_readNumber_55 : decode cX4_readNumber 55 = .ok (.aload_n 0, 1) := by decide +kernel
theorem dX4_readNumber_56 : decode cX4_readNumber 56 = .ok (.getfield 12, 3) := by decide +kernel
theorem dX4_readNumber_59 : decode cX4_readNumber 59 = .ok (.getfield 94, 3) := by decide +kernel
theorem dX4_readNumber_62 : decode cX4_readNumber 62 = .ok (.ineg, 1) := by decide +kernel
theorem dX4_readNumber_63 : decode cX4_readNumber 63 = .ok (.goto 10, 3) := by decide +kernel
theorem dX4_readNumber_66 : decode cX4_readNumber 66 = .ok (.aload_n 0, 1) := by decide +kernel
theorem dX4_readNumber_67 : decode cX4_readNumber 67 = .ok (.getfield 12, 3) := by decide +kernel
theorem dX4_readNumber_70 : decode cX4_readNumber 70 = .ok (.getfield 94, 3) := by decide +kernel
theorem dX4_readNumber_73 : decode cX4_readNumber 73 = .ok (.putfield 35, 3) := by decide +kernel
theorem dX4_readNumber_76 : decode cX4_readNumber 76 = .ok (.aload_n 0, 1) := by decide +kernel
theorem dX4_readNumber_77 : decode cX4_readNumber 77 = .ok (.getfield 35, 3) := by decide +kernel
theorem dX4_readNumber_80 : decode cX4_readNumber 80 = .ok (.iload_n 1, 1) := by decide +kernel
theorem dX4_readNumber_81 : decode cX4_readNumber 81 = .ok (.iload_n 2, 1) := by decide +kernel
theorem dX4_readNumber_82 : decode cX4_readNumber 82 = .ok (.invokestatic 104, 3) := by decide +kernel
theorem dX4_readNumber_85 : decode cX4_readNumber 85 = .ok (.ifCond .eq 9, 3) := by decide +kernel
theorem dX4_readNumber_88 : decode cX4_readNumber 88 = .ok (.aload_n 0, 1) := by decide +kernel
theorem dX4_readNumber_89 : decode cX4_readNumber 89 = .ok (.iconst 2, 1) := by decide +kernel
theorem dX4_readNumber_90 : decode cX4_readNumber 90 = .ok (.invokevirtual 54, 3) := by decide +kernel
theorem dX4_readNumber_93 : decode cX4_readNumber 93 = .ok (.ireturn, 1) := by decide +kernel
theorem dX4_readNumber_94 : decode cX4_readNumber 94 = .ok (.aload_n 0, 1) := by decide +kernel
theorem dX4_readNumber_95 : decode cX4_readNumber 95 = .ok (.getfield 12, 3) := by decide +kernel
theorem dX4_readNumber_98 : decode cX4_readNumber 98 = .ok (.invokevirtual 58, 3) := by decide +kernel
theorem dX4_readNumber_101 : decode cX4_readNumber 101 = .ok (.iconst 1, 1) := by decide +kernel
theorem dX4_readNumber_102 : decode cX4_readNumber 102 = .ok (.ireturn, 1) := by decide +kernel
theorem dX4_readRing_0 : decode cX4_readRing 0 = .ok (.aload_n 0, 1) := by decide +kernel
theorem dX4_readRing_1 : decode cX4_readRing 1 = .ok (.aload_n 1, 1) := by decide +kernel
theorem dX4_readRing_2 : decode cX4_readRing 2 = .ok (.getfield 108, 3) := by decide +kernel
theorem dX4_readRing_5 : decode cX4_readRing 5 = .ok (.invokevirtual 66, 3) := by decide +kernel
theorem dX4_readRing_8 : decode cX4_readRing 8 = .ok (.ifCond .ne 5, 3) := by decide +kernel
theorem dX4_readRing_11 : decode cX4_readRing 11 = .ok (.iconst 0, 1) := by decide +kernel
theorem dX4_readRing_12 : decode cX4_readRing 12 = .ok (.ireturn, 1) := by decide +kernel
theorem dX4_readRing_13 : decode cX4_readRing 13 = .ok (.aload_n 0, 1) := by decide +kernel
theorem dX4_readRing_14 : decode cX4_readRing 14 = .ok (.getfield 35, 3) := by decide +kernel
theorem dX4_readRing_17 : decode cX4_readRing 17 = .ok (.istore_n 2, 1) := by decide +kernel
theorem dX4_readRing_18 : decode cX4_readRing 18 = .ok (.aload_n 0, 1) := by decide +kernel
theorem dX4_readRing_19 : decode cX4_readRing 19 = .ok (.aload_n 1, 1) := by decide +kernel
theorem dX4_readRing_20 : decode cX4_readRing 20 = .ok (.getfield 62, 3) := by decide +kernel
theorem dX4_readRing_23 : decode cX4_readRing 23 = .ok (.invokevirtual 111, 3) := by decide +kernel
theorem dX4_readRing_26 : decode cX4_readRing 26 = .ok (.ifCond .eq 11, 3) := by decide +kernel
theorem dX4_readRing_29 : decode cX4_readRing 29 = .ok (.aload_n 1, 1) := by decide +kernel
theorem dX4_readRing_30 : decode cX4_readRing 30 = .ok (.iload_n 2, 1) := by decide +kernel
theorem dX4_readRing_31 : decode cX4_readRing 31 = .ok (.invokevirtual 114, 3) := by decide +kernel
theorem dX4_readRing_34 : decode cX4_readRing 34 = .ok (.ifCond .ne 5, 3) := by decide +kernel
theorem dX4_readRing_37 : decode cX4_readRing 37 = .ok (.iconst 0, 1) := by decide +kernel
theorem dX4_readRing_38 : decode cX4_readRing 38 = .ok (.ireturn, 1) := by decide +kernel
theorem dX4_readRing_39 : decode cX4_readRing 39 = .ok (.aload_n 1, 1) := by decide +kernel
theorem dX4_readRing_40 : decode cX4_readRing 40 = .ok (.getfield 117, 3) := by decide +kernel
theorem dX4_readRing_43 : decode cX4_readRing 43 = .ok (.iload_n 2, 1) := by decide +kernel
theorem dX4_readRing_44 : decode cX4_readRing 44 = .ok (.aload_n 0, 1) := by decide +kernel
theorem dX4_readRing_45 : decode cX4_readRing 45 = .ok (.getfield 35, 3) := by decide +kernel
theorem dX4_readRing_48 : decode cX4_readRing 48 = .ok (.iastore, 1) := by decide +kernel
theorem dX4_readRing_49 : decode cX4_readRing 49 = .ok (.iconst 0, 1) := by decide +kernel
theorem dX4_readRing_50 : decode cX4_readRing 50 = .ok (.istore_n 3, 1) := by decide +kernel
theorem dX4_readRing_51 : decode cX4_readRing 51 = .ok (.iload_n 3, 1) := by decide +kernel
theorem dX4_readRing_52 : decode cX4_readRing 52 = .ok (.bipush 10, 2) := by decide +kernel
theorem dX4_readRing_54 : decode cX4_readRing 54 = .ok (.if_icmp .gt 67, 3) := by decide +kernel
theorem dX4_readRing_57 : decode cX4_readRing 57 = .ok (.aload_n 0, 1) := by decide +kernel
theorem dX4_readRing_58 : decode cX4_readRing 58 = .ok (.getfield 12, 3) := by decide +kernel
theorem dX4_readRing_61 : decode cX4_readRing 61 = .ok (.getfield 47, 3) := by decide +kernel
theorem dX4_readRing_64 : decode cX4_readRing 64 = .ok (.bipush 22, 2) := by decide +kernel
theorem dX4_readRing_66 : decode cX4_readRing 66 = .ok (.if_icmp .ne 55, 3) := by decide +kernel
theorem dX4_readRing_69 : decode cX4_readRing 69 = .ok (.iload_n 3, 1) := by decide +kernel
theorem dX4_readRing_70 : decode cX4_readRing 70 = .ok (.bipush 10, 2) := by decide +kernel
theorem dX4_readRing_72 : decode cX4_readRing 72 = .ok (.if_icmp .ne 9, 3) := by decide +kernel
theorem dX4_readRing_75 : decode cX4_readRing 75 = .ok (.aload_n 0, 1) := by decide +kernel
theorem dX4_readRing_76 : decode cX4_readRing 76 = .ok (.iconst 2, 1) := by decide +kernel
theorem dX4_readRing_77 : decode cX4_readRing 77 = .ok (.invokevirtual 54, 3) := by decide +kernel
theorem dX4_readRing_80 : decode cX4_readRing 80 = .ok (.ireturn, 1) := by decide +kernel
theorem dX4_readRing_81 : decode cX4_readRing 81 = .ok (.aload_n 0, 1) := by decide +kernel
theorem dX4_readRing_82 : decode cX4_readRing 82 = .ok (.getfield 12, 3) := by decide +kernel
theorem dX4_readRing_85 : decode cX4_readRing 85 = .ok (.invokevirtual 58, 3) := by decide +kernel
theorem dX4_readRing_88 : decode cX4_readRing 88 = .ok (.aload_n 0, 1) := by decide +kernel
theorem dX4_readRing_89 : decode cX4_readRing 89 = .ok (.aload_n 1, 1) := by decide +kernel
theorem dX4_readRing_90 : decode cX4_readRing 90 = .ok (.getfield 121, 3) := by decide +kernel
theorem dX4_readRing_93 : decode cX4_readRing 93 = .ok (.iload_n 2, 1) := by decide +kernel
theorem dX4_readRing_94 : decode cX4_readRing 94 = .ok (.iload_n 3, 1) := by decide +kernel
theorem dX4_readRing_95 : decode cX4_readRing 95 = .ok (.invokestatic 124, 3) := by decide +kernel
theorem dX4_readRing_98 : decode cX4_readRing 98 = .ok (.invokevirtual 128, 3) := by decide +kernel
theorem dX4_readRing_101 : decode cX4_readRing 101 = .ok (.ifCond .ne 5, 3) := by decide +kernel
theorem dX4_readRing_104 : decode cX4_readRing 104 = .ok (.iconst 0, 1) := by decide +kernel
theorem dX4_readRing_105 : decode cX4_readRing 105 = .ok (.ireturn, 1) := by decide +kernel
theorem dX4_readRing_106 : decode cX4_readRing 106 = .ok (.aload_n 1, 1) := by decide +kernel
theorem dX4_readRing_107 : decode cX4_readRing 107 = .ok (.getfield 132, 3) := by decide +kernel
theorem dX4_readRing_110 : decode cX4_readRing 110 = .ok (.iload_n 2, 1) := by decide +kernel
theorem dX4_readRing_111 : decode cX4_readRing 111 = .ok (.iload_n 3, 1) := by decide +kernel
theorem dX4_readRing_112 : decode cX4_readRing 112 = .ok (.iconst 1, 1) := by decide +kernel
theorem dX4_readRing_113 : decode cX4_readRing 113 = .ok (.iadd, 1) := by decide +kernel
theorem dX4_readRing_114 : decode cX4_readRing 114 = .ok (.iastore, 1) := by decide +kernel
theorem dX4_readRing_115 : decode cX4_readRing 115 = .ok (.iinc 3 1, 3) := by decide +kernel
theorem dX4_readRing_118 : decode cX4_readRing 118 = .ok (.goto (-67), 3) := by decide +kernel
theorem dX4_readRing_121 : decode cX4_readRing 121 = .ok (.iconst 1, 1) := by decide +kernel
theorem dX4_readRing_122 : decode cX4_readRing 122 = .ok (.ireturn, 1) := by decide +kernel
theorem dX4_readStone_0 : decode cX4_readStone 0 = .ok (.iload_n 2, 1) := by decide +kernel
theorem dX4_readStone_1 : decode cX4_readStone 1 = .ok (.ifCond .lt 12, 3) := by decide +kernel
theorem dX4_readStone_4 : decode cX4_readStone 4 = .ok (.iload_n 2, 1) := by decide +kernel
theorem dX4_readStone_5 : decode cX4_readStone 5 = .ok (.bipush 6, 2) := by decide +kernel
theorem dX4_readStone_7 : decode cX4_readStone 7 = .ok (.iadd, 1) := by decide +kernel
theorem dX4_readStone_8 : decode cX4_readStone 8 = .ok (.aload_n 1, 1) := by decide +kernel
theorem dX4_readStone_9 : decode cX4_readStone 9 = .ok (.arraylength, 1) := by decide +kernel
theorem dX4_readStone_10 : decode cX4_readStone 10 = .ok (.if_icmp .le 5, 3) := by decide +kernel
theorem dX4_readStone_13 : decode cX4_readStone 13 = .ok (.iconst 0, 1) := by decide +kernel
theorem dX4_readStone_14 : decode cX4_readStone 14 = .ok (.ireturn, 1) := by decide +kernel
theorem dX4_readStone_15 : decode cX4_readStone 15 = .ok (.iconst 0, 1) := by decide +kernel
theorem dX4_readStone_16 : decode cX4_readStone 16 = .ok (.istore_n 3, 1) := by decide +kernel
theorem dX4_readStone_17 : decode cX4_readStone 17 = .ok (.iload_n 3, 1) := by decide +kernel
theorem dX4_readStone_18 : decode cX4_readStone 18 = .ok (.bipush 6, 2) := by decide +kernel
theorem dX4_readStone_20 : decode cX4_readStone 20 = .ok (.if_icmp .ge 15, 3) := by decide +kernel
theorem dX4_readStone_23 : decode cX4_readStone 23 = .ok (.aload_n 1, 1) := by decide +kernel
theorem dX4_readStone_24 : decode cX4_readStone 24 = .ok (.iload_n 2, 1) := by decide +kernel
theorem dX4_readStone_25 : decode cX4_readStone 25 = .ok (.iload_n 3, 1) := by decide +kernel
theorem dX4_readStone_26 : decode cX4_readStone 26 = .ok (.iadd, 1) := by decide +kernel
theorem dX4_readStone_27 : decode cX4_readStone 27 = .ok (.iconst 0, 1) := by decide +kernel
theorem dX4_readStone_28 : decode cX4_readStone 28 = .ok (.iastore, 1) := by decide +kernel
theorem dX4_readStone_29 : decode cX4_readStone 29 = .ok (.iinc 3 1, 3) := by decide +kernel
theorem dX4_readStone_32 : decode cX4_readStone 32 = .ok (.goto (-15), 3) := by decide +kernel
theorem dX4_readStone_35 : decode cX4_readStone 35 = .ok (.iconst 0, 1) := by decide +kernel
theorem dX4_readStone_36 : decode cX4_readStone 36 = .ok (.istore_n 3, 1) := by decide +kernel
theorem dX4_readStone_37 : decode cX4_readStone 37 = .ok (.iload_n 3, 1) := by decide +kernel
theorem dX4_readStone_38 : decode cX4_readStone 38 = .ok (.iconst 1, 1) := by decide +kernel
theorem dX4_readStone_39 : decode cX4_readStone 39 = .ok (.if_icmp .gt 33, 3) := by decide +kernel
theorem dX4_readStone_42 : decode cX4_readStone 42 = .ok (.aload_n 0, 1) := by decide +kernel
theorem dX4_readStone_43 : decode cX4_readStone 43 = .ok (.sipush (-999), 3) := by decide +kernel
theorem dX4_readStone_46 : decode cX4_readStone 46 = .ok (.sipush 999, 3) := by decide +kernel
theorem dX4_readStone_49 : decode cX4_readStone 49 = .ok (.invokevirtual 135, 3) := by decide +kernel
theorem dX4_readStone_52 : decode cX4_readStone 52 = .ok (.ifCond .ne 5, 3) := by decide +kernel
theorem dX4_readStone_55 : decode cX4_readStone 55 = .ok (.iconst 0, 1) := by decide +kernel
theorem dX4_readStone_56 : decode cX4_readStone 56 = .ok (.ireturn, 1) := by decide +kernel
theorem dX4_readStone_57 : decode cX4_readStone 57 = .ok (.aload_n 1, 1) := by decide +kernel
theorem dX4_readStone_58 : decode cX4_readStone 58 = .ok (.iload_n 2, 1) := by decide +kernel
theorem dX4_readStone_59 : decode cX4_readStone 59 = .ok (.iload_n 3, 1) := by decide +kernel
theorem dX4_readStone_60 : decode cX4_readStone 60 = .ok (.iadd, 1) := by decide +kernel
theorem dX4_readStone_61 : decode cX4_readStone 61 = .ok (.aload_n 0, 1) := by decide +kernel
theorem dX4_readStone_62 : decode cX4_readStone 62 = .ok (.getfield 35, 3) := by decide +kernel
theorem dX4_readStone_65 : decode cX4_readStone 65 = .ok (.iastore, 1) := by decide +kernel
theorem dX4_readStone_66 : decode cX4_readStone 66 = .ok (.iinc 3 1, 3) := by decide +kernel
theorem dX4_readStone_69 : decode cX4_readStone 69 = .ok (.goto (-32), 3) := by decide +kernel
theorem dX4_readStone_72 : decode cX4_readStone 72 = .ok (.aload_n 0, 1) := by decide +kernel
theorem dX4_readStone_73 : decode cX4_readStone 73 = .ok (.getfield 12, 3) := by decide +kernel
theorem dX4_readStone_76 : decode cX4_readStone 76 = .ok (.getfield 47, 3) := by decide +kernel
theorem dX4_readStone_79 : decode cX4_readStone 79 = .ok (.bipush 23, 2) := by decide +kernel
theorem dX4_readStone_81 : decode cX4_readStone 81 = .ok (.if_icmp .ne 7, 3) := by decide +kernel
theorem dX4_readStone_84 : decode cX4_readStone 84 = .ok (.iconst 1, 1) := by decide +kernel
theorem dX4_readStone_85 : decode cX4_readStone 85 = .ok (.goto 4, 3) := by decide +kernel
theorem dX4_readStone_88 : decode cX4_readStone 88 = .ok (.iconst 0, 1) := by decide +kernel
theorem dX4_readStone_89 : decode cX4_readStone 89 = .ok (.istore_n 3, 1) := by decide +kernel
theorem dX4_readStone_90 : decode cX4_readStone 90 = .ok (.iload_n 3, 1) := by decide +kernel
theorem dX4_readStone_91 : decode cX4_readStone 91 = .ok (.ifCond .eq 10, 3) := by decide +kernel
theorem dX4_readStone_94 : decode cX4_readStone 94 = .ok (.aload_n 0, 1) := by decide +kernel
theorem dX4_readStone_95 : decode cX4_readStone 95 = .ok (.getfield 12, 3) := by decide +kernel
theorem dX4_readStone_98 : decode cX4_readStone 98 = .ok (.invokevirtual 58, 3) := by decide +kernel
theorem dX4_readStone_101 : decode cX4_readStone 101 = .ok (.iconst 2, 1) := by decide +kernel
theorem dX4_readStone_102 : decode cX4_readStone 102 = .ok (.istore 4, 2) := by decide +kernel
theorem dX4_readStone_104 : decode cX4_readStone 104 = .ok (.iload_n 3, 1) := by decide +kernel
theorem dX4_readStone_105 : decode cX4_readStone 105 = .ok (.ifCond .eq 38, 3) := by decide +kernel
theorem dX4_readStone_108 : decode cX4_readStone 108 = .ok (.iload 4, 2) := by decide +kernel
theorem dX4_readStone_110 : decode cX4_readStone 110 = .ok (.iconst 3, 1) := by decide +kernel
theorem dX4_readStone_111 : decode cX4_readStone 111 = .ok (.if_icmp .gt 32, 3) := by decide +kernel
theorem dX4_readStone_114 : decode cX4_readStone 114 = .ok (.aload_n 0, 1) := by decide +kernel
theorem dX4_readStone_115 : decode cX4_readStone 115 = .ok (.bipush (-99), 2) := by decide +kernel
theorem dX4_readStone_117 : decode cX4_readStone 117 = .ok (.bipush 99, 2) := by decide +kernel
theorem dX4_readStone_119 : decode cX4_readStone 119 = .ok (.invokevirtual 135, 3) := by decide +kernel
theorem dX4_readStone_122 : decode cX4_readStone 122 = .ok (.ifCond .ne 5, 3) := by decide +kernel
theorem dX4_readStone_125 : decode cX4_readStone 125 = .ok (.iconst 0, 1) := by decide +kernel
theorem dX4_readStone_126 : decode cX4_readStone 126 = .ok (.ireturn, 1) := by decide +kernel
theorem dX4_readStone_127 : decode cX4_readStone 127 = .ok (.aload_n 1, 1) := by decide +kernel
theorem dX4_readStone_128 : decode cX4_readStone 128 = .ok (.iload_n 2, 1) := by decide +kernel
theorem dX4_readStone_129 : decode cX4_readStone 129 = .ok (.iload 4, 2) := by decide +kernel
theorem dX4_readStone_131 : decode cX4_readStone 131 = .ok (.iadd, 1) := by decide +kernel
theorem dX4_readStone_132 : decode cX4_readStone 132 = .ok (.aload_n 0, 1) := by decide +kernel
theorem dX4_readStone_133 : decode cX4_readStone 133 = .ok (.getfield 35, 3) := by decide +kernel
theorem dX4_readStone_136 : decode cX4_readStone 136 = .ok (.iastore, 1) := by decide +kernel
theorem dX4_readStone_137 : decode cX4_readStone 137 = .ok (.iinc 4 1, 3) := by decide +kernel
theorem dX4_readStone_140 : decode cX4_readStone 140 = .ok (.goto (-36), 3) := by decide +kernel
theorem dX4_readStone_143 : decode cX4_readStone 143 = .ok (.aload_n 0, 1) := by decide +kernel
theorem dX4_readStone_144 : decode cX4_readStone 144 = .ok (.getfield 12, 3) := by decide +kernel
theorem dX4_readStone_147 : decode cX4_readStone 147 = .ok (.getfield 47, 3) := by decide +kernel
theorem dX4_readStone_150 : decode cX4_readStone 150 = .ok (.bipush 24, 2) := by decide +kernel
theorem dX4_readStone_152 : decode cX4_readStone 152 = .ok (.if_icmp .ne 16, 3) := by decide +kernel
theorem dX4_readStone_155 : decode cX4_readStone 155 = .ok (.aload_n 1, 1) := by decide +kernel
theorem dX4_readStone_156 : decode cX4_readStone 156 = .ok (.iload_n 2, 1) := by decide +kernel
theorem dX4_readStone_157 : decode cX4_readStone 157 = .ok (.iconst 4, 1) := by decide +kernel
theorem dX4_readStone_158 : decode cX4_readStone 158 = .ok (.iadd, 1) := by decide +kernel
theorem dX4_readStone_159 : decode cX4_readStone 159 = .ok (.iconst 1, 1) := by decide +kernel
theorem dX4_readStone_160 : decode cX4_readStone 160 = .ok (.iastore, 1) := by decide +kernel
theorem dX4_readStone_161 : decode cX4_readStone 161 = .ok (.aload_n 0, 1) := by decide +kernel
theorem dX4_readStone_162 : decode cX4_readStone 162 = .ok (.getfield 12, 3) := by decide +kernel
theorem dX4_readStone_165 : decode cX4_readStone 165 = .ok (.invokevirtual 58, 3) := by decide +kernel
theorem dX4_readStone_168 : decode cX4_readStone 168 = .ok (.aload_n 0, 1) := by decide +kernel
theorem dX4_readStone_169 : decode cX4_readStone 169 = .ok (.getfield 12, 3) := by decide +kernel
theorem dX4_readStone_172 : decode cX4_readStone 172 = .ok (.getfield 47, 3) := by decide +kernel
theorem dX4_readStone_175 : decode cX4_readStone 175 = .ok (.bipush 25, 2) := by decide +kernel
theorem dX4_readStone_177 : decode cX4_readStone 177 = .ok (.if_icmp .ne 16, 3) := by decide +kernel
theorem dX4_readStone_180 : decode cX4_readStone 180 = .ok (.aload_n 1, 1) := by decide +kernel
theorem dX4_readStone_181 : decode cX4_readStone 181 = .ok (.iload_n 2, 1) := by decide +kernel
theorem dX4_readStone_182 : decode cX4_readStone 182 = .ok (.iconst 5, 1) := by decide +kernel
theorem dX4_readStone_183 : decode cX4_readStone 183 = .ok (.iadd, 1) := by decide +kernel
theorem dX4_readStone_184 : decode cX4_readStone 184 = .ok (.iconst 1, 1) := by decide +kernel
theorem dX4_readStone_185 : decode cX4_readStone 185 = .ok (.iastore, 1) := by decide +kernel
theorem dX4_readStone_186 : decode cX4_readStone 186 = .ok (.aload_n 0, 1) := by decide +kernel
theorem dX4_readStone_187 : decode cX4_readStone 187 = .ok (.getfield 12, 3) := by decide +kernel
theorem dX4_readStone_190 : decode cX4_readStone 190 = .ok (.invokevirtual 58, 3) := by decide +kernel
theorem dX4_readStone_193 : decode cX4_readStone 193 = .ok (.iconst 1, 1) := by decide +kernel
theorem dX4_readStone_194 : decode cX4_readStone 194 = .ok (.ireturn, 1) := by decide +kernel
theorem dX4_readWay_0 : decode cX4_readWay 0 = .ok (.aload_n 0, 1) := by decide +kernel
theorem dX4_readWay_1 : decode cX4_readWay 1 = .ok (.aload_n 1, 1) := by decide +kernel
theorem dX4_readWay_2 : decode cX4_readWay 2 = .ok (.getfield 139, 3) := by decide +kernel
theorem dX4_readWay_5 : decode cX4_readWay 5 = .ok (.invokevirtual 66, 3) := by decide +kernel
theorem dX4_readWay_8 : decode cX4_readWay 8 = .ok (.ifCond .ne 5, 3) := by decide +kernel
theorem dX4_readWay_11 : decode cX4_readWay 11 = .ok (.iconst 0, 1) := by decide +kernel
theorem dX4_readWay_12 : decode cX4_readWay 12 = .ok (.ireturn, 1) := by decide +kernel
theorem dX4_readWay_13 : decode cX4_readWay 13 = .ok (.aload_n 0, 1) := by decide +kernel
theorem dX4_readWay_14 : decode cX4_readWay 14 = .ok (.getfield 35, 3) := by decide +kernel
theorem dX4_readWay_17 : decode cX4_readWay 17 = .ok (.bipush 7, 2) := by decide +kernel
theorem dX4_readWay_19 : decode cX4_readWay 19 = .ok (.imul, 1) := by decide +kernel
theorem dX4_readWay_20 : decode cX4_readWay 20 = .ok (.istore_n 2, 1) := by decide +kernel
theorem dX4_readWay_21 : decode cX4_readWay 21 = .ok (.iload_n 2, 1) := by decide +kernel
theorem dX4_readWay_22 : decode cX4_readWay 22 = .ok (.ifCond .lt 15, 3) := by decide +kernel
theorem dX4_readWay_25 : decode cX4_readWay 25 = .ok (.iload_n 2, 1) := by decide +kernel
theorem dX4_readWay_26 : decode cX4_readWay 26 = .ok (.bipush 7, 2) := by decide +kernel
theorem dX4_readWay_28 : decode cX4_readWay 28 = .ok (.iadd, 1) := by decide +kernel
theorem dX4_readWay_29 : decode cX4_readWay 29 = .ok (.aload_n 1, 1) := by decide +kernel
theorem dX4_readWay_30 : decode cX4_readWay 30 = .ok (.getfield 142, 3) := by decide +kernel
theorem dX4_readWay_33 : decode cX4_readWay 33 = .ok (.arraylength, 1) := by decide +kernel
theorem dX4_readWay_34 : decode cX4_readWay 34 = .ok (.if_icmp .le 5, 3) := by decide +kernel
theorem dX4_readWay_37 : decode cX4_readWay 37 = .ok (.iconst 0, 1) := by decide +kernel
theorem dX4_readWay_38 : decode cX4_readWay 38 = .ok (.ireturn, 1) := by decide +kernel
theorem dX4_readWay_39 : decode cX4_readWay 39 = .ok (.iconst 0, 1) := by decide +kernel
theorem dX4_readWay_40 : decode cX4_readWay 40 = .ok (.istore_n 3, 1) := by decide +kernel
theorem dX4_readWay_41 : decode cX4_readWay 41 = .ok (.iload_n 3, 1) := by decide +kernel
theorem dX4_readWay_42 : decode cX4_readWay 42 = .ok (.bipush 7, 2) := by decide +kernel
theorem dX4_readWay_44 : decode cX4_readWay 44 = .ok (.if_icmp .ge 41, 3) := by decide +kernel
theorem dX4_readWay_47 : decode cX4_readWay 47 = .ok (.aload_n 0, 1) := by decide +kernel
theorem dX4_readWay_48 : decode cX4_readWay 48 = .ok (.iload_n 3, 1) := by decide +kernel
theorem dX4_readWay_49 : decode cX4_readWay 49 = .ok (.ifCond .ne 7, 3) := by decide +kernel
theorem dX4_readWay_52 : decode cX4_readWay 52 = .ok (.iconst 1, 1) := by decide +kernel
theorem dX4_readWay_53 : decode cX4_readWay 53 = .ok (.goto 4, 3) := by decide +kernel
theorem dX4_readWay_56 : decode cX4_readWay 56 = .ok (.iconst 0, 1) := by decide +kernel
theorem dX4_readWay_57 : decode cX4_readWay 57 = .ok (.bipush 99, 2) := by decide +kernel
theorem dX4_readWay_59 : decode cX4_readWay 59 = .ok (.invokevirtual 135, 3) := by decide +kernel
theorem dX4_readWay_62 : decode cX4_readWay 62 = .ok (.ifCond .ne 5, 3) := by decide +kernel
theorem dX4_readWay_65 : decode cX4_readWay 65 = .ok (.iconst 0, 1) := by decide +kernel
theorem dX4_readWay_66 : decode cX4_readWay 66 = .ok (.ireturn, 1) := by decide +kernel
theorem dX4_readWay_67 : decode cX4_readWay 67 = .ok (.aload_n 1, 1) := by decide +kernel
theorem dX4_readWay_68 : decode cX4_readWay 68 = .ok (.getfield 142, 3) := by decide +kernel
theorem dX4_readWay_71 : decode cX4_readWay 71 = .ok (.iload_n 2, 1) := by decide +kernel
theorem dX4_readWay_72 : decode cX4_readWay 72 = .ok (.iload_n 3, 1) := by decide +kernel
theorem dX4_readWay_73 : decode cX4_readWay 73 = .ok (.iadd, 1) := by decide +kernel
theorem dX4_readWay_74 : decode cX4_readWay 74 = .ok (.aload_n 0, 1) := by decide +kernel
theorem dX4_readWay_75 : decode cX4_readWay 75 = .ok (.getfield 35, 3) := by decide +kernel
theorem dX4_readWay_78 : decode cX4_readWay 78 = .ok (.iastore, 1) := by decide +kernel
theorem dX4_readWay_79 : decode cX4_readWay 79 = .ok (.iinc 3 1, 3) := by decide +kernel
theorem dX4_readWay_82 : decode cX4_readWay 82 = .ok (.goto (-41), 3) := by decide +kernel
theorem dX4_readWay_85 : decode cX4_readWay 85 = .ok (.iconst 1, 1) := by decide +kernel
theorem dX4_readWay_86 : decode cX4_readWay 86 = .ok (.ireturn, 1) := by decide +kernel
theorem dX4_readRule_0 : decode cX4_readRule 0 = .ok (.aload_n 1, 1) := by decide +kernel
theorem dX4_readRule_1 : decode cX4_readRule 1 = .ok (.getfield 145, 3) := by decide +kernel
theorem dX4_readRule_4 : decode cX4_readRule 4 = .ok (.ifCond .eq 9, 3) := by decide +kernel
theorem dX4_readRule_7 : decode cX4_readRule 7 = .ok (.aload_n 0, 1) := by decide +kernel
theorem dX4_readRule_8 : decode cX4_readRule 8 = .ok (.iconst 3, 1) := by decide +kernel
theorem dX4_readRule_9 : decode cX4_readRule 9 = .ok (.invokevirtual 54, 3) := by decide +kernel
theorem dX4_readRule_12 : decode cX4_readRule 12 = .ok (.ireturn, 1) := by decide +kernel
theorem dX4_readRule_13 : decode cX4_readRule 13 = .ok (.aload_n 0, 1) := by decide +kernel
theorem dX4_readRule_14 : decode cX4_readRule 14 = .ok (.getfield 12, 3) := by decide +kernel
theorem dX4_readRule_17 : decode cX4_readRule 17 = .ok (.invokevirtual 58, 3) := by decide +kernel
theorem dX4_readRule_20 : decode cX4_readRule 20 = .ok (.aload_n 0, 1) := by decide +kernel
theorem dX4_readRule_21 : decode cX4_readRule 21 = .ok (.getfield 21, 3) := by decide +kernel
theorem dX4_readRule_24 : decode cX4_readRule 24 = .ok (.aload_n 0, 1) := by decide +kernel
theorem dX4_readRule_25 : decode cX4_readRule 25 = .ok (.getfield 12, 3) := by decide +kernel
theorem dX4_readRule_28 : decode cX4_readRule 28 = .ok (.aload_n 1, 1) := by decide +kernel
theorem dX4_readRule_29 : decode cX4_readRule 29 = .ok (.getfield 149, 3) := by decide +kernel
theorem dX4_readRule_32 : decode cX4_readRule 32 = .ok (.invokevirtual 153, 3) := by decide +kernel
theorem dX4_readRule_35 : decode cX4_readRule 35 = .ok (.istore_n 2, 1) := by decide +kernel
theorem dX4_readRule_36 : decode cX4_readRule 36 = .ok (.iload_n 2, 1) := by decide +kernel
theorem dX4_readRule_37 : decode cX4_readRule 37 = .ok (.ifCond .eq 9, 3) := by decide +kernel
theorem dX4_readRule_40 : decode cX4_readRule 40 = .ok (.aload_n 0, 1) := by decide +kernel
theorem dX4_readRule_41 : decode cX4_readRule 41 = .ok (.iload_n 2, 1) := by decide +kernel
theorem dX4_readRule_42 : decode cX4_readRule 42 = .ok (.invokevirtual 54, 3) := by decide +kernel
theorem dX4_readRule_45 : decode cX4_readRule 45 = .ok (.ireturn, 1) := by decide +kernel
theorem dX4_readRule_46 : decode cX4_readRule 46 = .ok (.aload_n 1, 1) := by decide +kernel
theorem dX4_readRule_47 : decode cX4_readRule 47 = .ok (.iconst 1, 1) := by decide +kernel
theorem dX4_readRule_48 : decode cX4_readRule 48 = .ok (.putfield 145, 3) := by decide +kernel
theorem dX4_readRule_51 : decode cX4_readRule 51 = .ok (.iconst 1, 1) := by decide +kernel
theorem dX4_readRule_52 : decode cX4_readRule 52 = .ok (.ireturn, 1) := by decide +kernel
theorem dX4_readSaying_0 : decode cX4_readSaying 0 = .ok (.aload_n 1, 1) := by decide +kernel
theorem dX4_readSaying_1 : decode cX4_readSaying 1 = .ok (.getfield 157, 3) := by decide +kernel
theorem dX4_readSaying_4 : decode cX4_readSaying 4 = .ok (.iconst 4, 1) := by decide +kernel
theorem dX4_readSaying_5 : decode cX4_readSaying 5 = .ok (.imul, 1) := by decide +kernel
theorem dX4_readSaying_6 : decode cX4_readSaying 6 = .ok (.istore_n 2, 1) := by decide +kernel
theorem dX4_readSaying_7 : decode cX4_readSaying 7 = .ok (.iload_n 2, 1) := by decide +kernel
theorem dX4_readSaying_8 : decode cX4_readSaying 8 = .ok (.ifCond .lt 14, 3) := by decide +kernel
theorem dX4_readSaying_11 : decode cX4_readSaying 11 = .ok (.iload_n 2, 1) := by decide +kernel
theorem dX4_readSaying_12 : decode cX4_readSaying 12 = .ok (.iconst 4, 1) := by decide +kernel
theorem dX4_readSaying_13 : decode cX4_readSaying 13 = .ok (.iadd, 1) := by decide +kernel
theorem dX4_readSaying_14 : decode cX4_readSaying 14 = .ok (.aload_n 1, 1) := by decide +kernel
theorem dX4_readSaying_15 : decode cX4_readSaying 15 = .ok (.getfield 160, 3) := by decide +kernel
theorem dX4_readSaying_18 : decode cX4_readSaying 18 = .ok (.arraylength, 1) := by decide +kernel
theorem dX4_readSaying_19 : decode cX4_readSaying 19 = .ok (.if_icmp .le 9, 3) := by decide +kernel
theorem dX4_readSaying_22 : decode cX4_readSaying 22 = .ok (.aload_n 0, 1) := by decide +kernel
theorem dX4_readSaying_23 : decode cX4_readSaying 23 = .ok (.iconst 2, 1) := by decide +kernel
theorem dX4_readSaying_24 : decode cX4_readSaying 24 = .ok (.invokevirtual 54, 3) := by decide +kernel
theorem dX4_readSaying_27 : decode cX4_readSaying 27 = .ok (.ireturn, 1) := by decide +kernel
theorem dX4_readSaying_28 : decode cX4_readSaying 28 = .ok (.aload_n 0, 1) := by decide +kernel
theorem dX4_readSaying_29 : decode cX4_readSaying 29 = .ok (.getfield 12, 3) := by decide +kernel
theorem dX4_readSaying_32 : decode cX4_readSaying 32 = .ok (.invokevirtual 58, 3) := by decide +kernel
theorem dX4_readSaying_35 : decode cX4_readSaying 35 = .ok (.aload_n 0, 1) := by decide +kernel
theorem dX4_readSaying_36 : decode cX4_readSaying 36 = .ok (.aload_n 1, 1) := by decide +kernel
theorem dX4_readSaying_37 : decode cX4_readSaying 37 = .ok (.getfield 163, 3) := by decide +kernel
theorem dX4_readSaying_40 : decode cX4_readSaying 40 = .ok (.invokevirtual 166, 3) := by decide +kernel
theorem dX4_readSaying_43 : decode cX4_readSaying 43 = .ok (.ifCond .ne 5, 3) := by decide +kernel
theorem dX4_readSaying_46 : decode cX4_readSaying 46 = .ok (.iconst 0, 1) := by decide +kernel
theorem dX4_readSaying_47 : decode cX4_readSaying 47 = .ok (.ireturn, 1) := by decide +kernel
theorem dX4_readSaying_48 : decode cX4_readSaying 48 = .ok (.aload_n 1, 1) := by decide +kernel
theorem dX4_readSaying_49 : decode cX4_readSaying 49 = .ok (.getfield 160, 3) := by decide +kernel
theorem dX4_readSaying_52 : decode cX4_readSaying 52 = .ok (.iload_n 2, 1) := by decide +kernel
theorem dX4_readSaying_53 : decode cX4_readSaying 53 = .ok (.iconst 0, 1) := by decide +kernel
theorem dX4_readSaying_54 : decode cX4_readSaying 54 = .ok (.iadd, 1) := by decide +kernel
theorem dX4_readSaying_55 : decode cX4_readSaying 55 = .ok (.aload_n 0, 1) := by decide +kernel
theorem dX4_readSaying_56 : decode cX4_readSaying 56 = .ok (.getfield 35, 3) := by decide +kernel
theorem dX4_readSaying_59 : decode cX4_readSaying 59 = .ok (.iastore, 1) := by decide +kernel
theorem dX4_readSaying_60 : decode cX4_readSaying 60 = .ok (.aload_n 0, 1) := by decide +kernel
theorem dX4_readSaying_61 : decode cX4_readSaying 61 = .ok (.aload_n 1, 1) := by decide +kernel
theorem dX4_readSaying_62 : decode cX4_readSaying 62 = .ok (.getfield 108, 3) := by decide +kernel
theorem dX4_readSaying_65 : decode cX4_readSaying 65 = .ok (.invokevirtual 111, 3) := by decide +kernel
theorem dX4_readSaying_68 : decode cX4_readSaying 68 = .ok (.ifCond .ne 5, 3) := by decide +kernel
theorem dX4_readSaying_71 : decode cX4_readSaying 71 = .ok (.iconst 0, 1) := by decide +kernel
theorem dX4_readSaying_72 : decode cX4_readSaying 72 = .ok (.ireturn, 1) := by decide +kernel
theorem dX4_readSaying_73 : decode cX4_readSaying 73 = .ok (.aload_n 1, 1) := by decide +kernel
theorem dX4_readSaying_74 : decode cX4_readSaying 74 = .ok (.getfield 160, 3) := by decide +kernel
theorem dX4_readSaying_77 : decode cX4_readSaying 77 = .ok (.iload_n 2, 1) := by decide +kernel
theorem dX4_readSaying_78 : decode cX4_readSaying 78 = .ok (.iconst 1, 1) := by decide +kernel
theorem dX4_readSaying_79 : decode cX4_readSaying 79 = .ok (.iadd, 1) := by decide +kernel
theorem dX4_readSaying_80 : decode cX4_readSaying 80 = .ok (.aload_n 0, 1) := by decide +kernel
theorem dX4_readSaying_81 : decode cX4_readSaying 81 = .ok (.getfield 35, 3) := by decide +kernel
theorem dX4_readSaying_84 : decode cX4_readSaying 84 = .ok (.iastore, 1) := by decide +kernel
theorem dX4_readSaying_85 : decode cX4_readSaying 85 = .ok (.aload_n 0, 1) := by decide +kernel
theorem dX4_readSaying_86 : decode cX4_readSaying 86 = .ok (.iconst 1, 1) := by decide +kernel
theorem dX4_readSaying_87 : decode cX4_readSaying 87 = .ok (.ldc 169, 2) := by decide +kernel
theorem dX4_readSaying_89 : decode cX4_readSaying 89 = .ok (.invokevirtual 135, 3) := by decide +kernel
theorem dX4_readSaying_92 : decode cX4_readSaying 92 = .ok (.ifCond .ne 5, 3) := by decide +kernel
theorem dX4_readSaying_95 : decode cX4_readSaying 95 = .ok (.iconst 0, 1) := by decide +kernel
theorem dX4_readSaying_96 : decode cX4_readSaying 96 = .ok (.ireturn, 1) := by decide +kernel
theorem dX4_readSaying_97 : decode cX4_readSaying 97 = .ok (.aload_n 1, 1) := by decide +kernel
theorem dX4_readSaying_98 : decode cX4_readSaying 98 = .ok (.getfield 160, 3) := by decide +kernel
theorem dX4_readSaying_101 : decode cX4_readSaying 101 = .ok (.iload_n 2, 1) := by decide +kernel
theorem dX4_readSaying_102 : decode cX4_readSaying 102 = .ok (.iconst 2, 1) := by decide +kernel
theorem dX4_readSaying_103 : decode cX4_readSaying 103 = .ok (.iadd, 1) := by decide +kernel
theorem dX4_readSaying_104 : decode cX4_readSaying 104 = .ok (.aload_n 0, 1) := by decide +kernel
theorem dX4_readSaying_105 : decode cX4_readSaying 105 = .ok (.getfield 35, 3) := by decide +kernel
theorem dX4_readSaying_108 : decode cX4_readSaying 108 = .ok (.iastore, 1) := by decide +kernel
theorem dX4_readSaying_109 : decode cX4_readSaying 109 = .ok (.aload_n 1, 1) := by decide +kernel
theorem dX4_readSaying_110 : decode cX4_readSaying 110 = .ok (.getfield 160, 3) := by decide +kernel
theorem dX4_readSaying_113 : decode cX4_readSaying 113 = .ok (.iload_n 2, 1) := by decide +kernel
theorem dX4_readSaying_114 : decode cX4_readSaying 114 = .ok (.iconst 3, 1) := by decide +kernel
theorem dX4_readSaying_115 : decode cX4_readSaying 115 = .ok (.iadd, 1) := by decide +kernel
theorem dX4_readSaying_116 : decode cX4_readSaying 116 = .ok (.aload_n 0, 1) := by decide +kernel
theorem dX4_readSaying_117 : decode cX4_readSaying 117 = .ok (.getfield 12, 3) := by decide +kernel
theorem dX4_readSaying_120 : decode cX4_readSaying 120 = .ok (.getfield 47, 3) := by decide +kernel
theorem dX4_readSaying_123 : decode cX4_readSaying 123 = .ok (.bipush 29, 2) := by decide +kernel
theorem dX4_readSaying_125 : decode cX4_readSaying 125 = .ok (.if_icmp .ne 7, 3) := by decide +kernel
theorem dX4_readSaying_128 : decode cX4_readSaying 128 = .ok (.iconst 1, 1) := by decide +kernel
theorem dX4_readSaying_129 : decode cX4_readSaying 129 = .ok (.goto 4, 3) := by decide +kernel
theorem dX4_readSaying_132 : decode cX4_readSaying 132 = .ok (.iconst 0, 1) := by decide +kernel
theorem dX4_readSaying_133 : decode cX4_readSaying 133 = .ok (.iastore, 1) := by decide +kernel
theorem dX4_readSaying_134 : decode cX4_readSaying 134 = .ok (.aload_n 0, 1) := by decide +kernel
theorem dX4_readSaying_135 : decode cX4_readSaying 135 = .ok (.getfield 12, 3) := by decide +kernel
theorem dX4_readSaying_138 : decode cX4_readSaying 138 = .ok (.getfield 47, 3) := by decide +kernel
theorem dX4_readSaying_141 : decode cX4_readSaying 141 = .ok (.bipush 29, 2) := by decide +kernel
theorem dX4_readSaying_143 : decode cX4_readSaying 143 = .ok (.if_icmp .ne 10, 3) := by decide +kernel
theorem dX4_readSaying_146 : decode cX4_readSaying 146 = .ok (.aload_n 0, 1) := by decide +kernel
theorem dX4_readSaying_147 : decode cX4_readSaying 147 = .ok (.getfield 12, 3) := by decide +kernel
theorem dX4_readSaying_150 : decode cX4_readSaying 150 = .ok (.invokevirtual 58, 3) := by decide +kernel
theorem dX4_readSaying_153 : decode cX4_readSaying 153 = .ok (.aload_n 1, 1) := by decide +kernel
theorem dX4_readSaying_154 : decode cX4_readSaying 154 = .ok (.dup, 1) := by decide +kernel
theorem dX4_readSaying_155 : decode cX4_readSaying 155 = .ok (.getfield 157, 3) := by decide +kernel
theorem dX4_readSaying_158 : decode cX4_readSaying 158 = .ok (.iconst 1, 1) := by decide +kernel
theorem dX4_readSaying_159 : decode cX4_readSaying 159 = .ok (.iadd, 1) := by decide +kernel
theorem dX4_readSaying_160 : decode cX4_readSaying 160 = .ok (.putfield 157, 3) := by decide +kernel
theorem dX4_readSaying_163 : decode cX4_readSaying 163 = .ok (.iconst 1, 1) := by decide +kernel
theorem dX4_readSaying_164 : decode cX4_readSaying 164 = .ok (.ireturn, 1) := by decide +kernel
theorem dX4_readMeasurer_0 : decode cX4_readMeasurer 0 = .ok (.aload_n 0, 1) := by decide +kernel
theorem dX4_readMeasurer_1 : decode cX4_readMeasurer 1 = .ok (.getfield 12, 3) := by decide +kernel
theorem dX4_readMeasurer_4 : decode cX4_readMeasurer 4 = .ok (.getfield 47, 3) := by decide +kernel
theorem dX4_readMeasurer_7 : decode cX4_readMeasurer 7 = .ok (.iconst 2, 1) := by decide +kernel
theorem dX4_readMeasurer_8 : decode cX4_readMeasurer 8 = .ok (.if_icmp .eq 9, 3) := by decide +kernel
theorem dX4_readMeasurer_11 : decode cX4_readMeasurer 11 = .ok (.aload_n 0, 1) := by decide +kernel
theorem dX4_readMeasurer_12 : decode cX4_readMeasurer 12 = .ok (.iconst 1, 1) := by decide +kernel
theorem dX4_readMeasurer_13 : decode cX4_readMeasurer 13 = .ok (.invokevirtual 54, 3) := by decide +kernel
theorem dX4_readMeasurer_16 : decode cX4_readMeasurer 16 = .ok (.ireturn, 1) := by decide +kernel
theorem dX4_readMeasurer_17 : decode cX4_readMeasurer 17 = .ok (.aload_n 0, 1) := by decide +kernel
theorem dX4_readMeasurer_18 : decode cX4_readMeasurer 18 = .ok (.aload_n 1, 1) := by decide +kernel
theorem dX4_readMeasurer_19 : decode cX4_readMeasurer 19 = .ok (.aload_n 0, 1) := by decide +kernel
theorem dX4_readMeasurer_20 : decode cX4_readMeasurer 20 = .ok (.getfield 12, 3) := by decide +kernel
theorem dX4_readMeasurer_23 : decode cX4_readMeasurer 23 = .ok (.getfield 94, 3) := by decide +kernel
theorem dX4_readMeasurer_26 : decode cX4_readMeasurer 26 = .ok (.invokevirtual 97, 3) := by decide +kernel
theorem dX4_readMeasurer_29 : decode cX4_readMeasurer 29 = .ok (.putfield 35, 3) := by decide +kernel
theorem dX4_readMeasurer_32 : decode cX4_readMeasurer 32 = .ok (.aload_n 0, 1) := by decide +kernel
theorem dX4_readMeasurer_33 : decode cX4_readMeasurer 33 = .ok (.getfield 35, 3) := by decide +kernel
theorem dX4_readMeasurer_36 : decode cX4_readMeasurer 36 = .ok (.iconst (-1), 1) := by decide +kernel
theorem dX4_readMeasurer_37 : decode cX4_readMeasurer 37 = .ok (.if_icmp .ne 31, 3) := by decide +kernel
theorem dX4_readMeasurer_40 : decode cX4_readMeasurer 40 = .ok (.aload_n 1, 1) := by decide +kernel
theorem dX4_readMeasurer_41 : decode cX4_readMeasurer 41 = .ok (.invokevirtual 88, 3) := by decide +kernel
theorem dX4_readMeasurer_44 : decode cX4_readMeasurer 44 = .ok (.ifCond .eq 9, 3) := by decide +kernel
theorem dX4_readMeasurer_47 : decode cX4_readMeasurer 47 = .ok (.aload_n 0, 1) := by decide +kernel
theorem dX4_readMeasurer_48 : decode cX4_readMeasurer 48 = .ok (.iconst 2, 1) := by decide +kernel
theorem dX4_readMeasurer_49 : decode cX4_readMeasurer 49 = .ok (.invokevirtual 54, 3) := by decide +kernel
theorem dX4_readMeasurer_52 : decode cX4_readMeasurer 52 = .ok (.ireturn, 1) := by decide +kernel
theorem dX4_readMeasurer_53 : decode cX4_readMeasurer 53 = .ok (.aload_n 0, 1) := by decide +kernel
theorem dX4_readMeasurer_54 : decode cX4_readMeasurer 54 = .ok (.aload_n 1, 1) := by decide +kernel
theorem dX4_readMeasurer_55 : decode cX4_readMeasurer 55 = .ok (.aload_n 0, 1) := by decide +kernel
theorem dX4_readMeasurer_56 : decode cX4_readMeasurer 56 = .ok (.getfield 12, 3) := by decide +kernel
theorem dX4_readMeasurer_59 : decode cX4_readMeasurer 59 = .ok (.getfield 94, 3) := by decide +kernel
theorem dX4_readMeasurer_62 : decode cX4_readMeasurer 62 = .ok (.invokevirtual 101, 3) := by decide +kernel
theorem dX4_readMeasurer_65 : decode cX4_readMeasurer 65 = .ok (.putfield 35, 3) := by decide +kernel
theorem dX4_readMeasurer_68 : decode cX4_readMeasurer 68 = .ok (.aload_n 0, 1) := by decide +kernel
theorem dX4_readMeasurer_69 : decode cX4_readMeasurer 69 = .ok (.getfield 12, 3) := by decide +kernel
theorem dX4_readMeasurer_72 : decode cX4_readMeasurer 72 = .ok (.invokevirtual 58, 3) := by decide +kernel
theorem dX4_readMeasurer_75 : decode cX4_readMeasurer 75 = .ok (.iconst 1, 1) := by decide +kernel
theorem dX4_readMeasurer_76 : decode cX4_readMeasurer 76 = .ok (.ireturn, 1) := by decide +kernel
theorem dX4_readGrid_0 : decode cX4_readGrid 0 = .ok (.aload_n 1, 1) := by decide +kernel
theorem dX4_readGrid_1 : decode cX4_readGrid 1 = .ok (.getfield 170, 3) := by decide +kernel
theorem dX4_readGrid_4 : decode cX4_readGrid 4 = .ok (.ifCond .eq 9, 3) := by decide +kernel
theorem dX4_readGrid_7 : decode cX4_readGrid 7 = .ok (.aload_n 0, 1) := by decide +kernel
theorem dX4_readGrid_8 : decode cX4_readGrid 8 = .ok (.iconst 3, 1) := by decide +kernel
theorem dX4_readGrid_9 : decode cX4_readGrid 9 = .ok (.invokevirtual 54, 3) := by decide +kernel
theorem dX4_readGrid_12 : decode cX4_readGrid 12 = .ok (.ireturn, 1) := by decide +kernel
theorem dX4_readGrid_13 : decode cX4_readGrid 13 = .ok (.aload_n 1, 1) := by decide +kernel
theorem dX4_readGrid_14 : decode cX4_readGrid 14 = .ok (.iconst 1, 1) := by decide +kernel
theorem dX4_readGrid_15 : decode cX4_readGrid 15 = .ok (.putfield 170, 3) := by decide +kernel
theorem dX4_readGrid_18 : decode cX4_readGrid 18 = .ok (.aload_n 0, 1) := by decide +kernel
theorem dX4_readGrid_19 : decode cX4_readGrid 19 = .ok (.getfield 12, 3) := by decide +kernel
theorem dX4_readGrid_22 : decode cX4_readGrid 22 = .ok (.invokevirtual 58, 3) := by decide +kernel
theorem dX4_readGrid_25 : decode cX4_readGrid 25 = .ok (.aload_n 0, 1) := by decide +kernel
theorem dX4_readGrid_26 : decode cX4_readGrid 26 = .ok (.iconst 0, 1) := by decide +kernel
theorem dX4_readGrid_27 : decode cX4_readGrid 27 = .ok (.bipush 9, 2) := by decide +kernel
theorem dX4_readGrid_29 : decode cX4_readGrid 29 = .ok (.invokevirtual 135, 3) := by decide +kernel
theorem dX4_readGrid_32 : decode cX4_readGrid 32 = .ok (.ifCond .ne 5, 3) := by decide +kernel
theorem dX4_readGrid_35 : decode cX4_readGrid 35 = .ok (.iconst 0, 1) := by decide +kernel
theorem dX4_readGrid_36 : decode cX4_readGrid 36 = .ok (.ireturn, 1) := by decide +kernel
theorem dX4_readGrid_37 : decode cX4_readGrid 37 = .ok (.aload_n 1, 1) := by decide +kernel
theorem dX4_readGrid_38 : decode cX4_readGrid 38 = .ok (.aload_n 0, 1) := by decide +kernel
theorem dX4_readGrid_39 : decode cX4_readGrid 39 = .ok (.getfield 35, 3) := by decide +kernel
theorem dX4_readGrid_42 : decode cX4_readGrid 42 = .ok (.putfield 173, 3) := by decide +kernel
theorem dX4_readGrid_45 : decode cX4_readGrid 45 = .ok (.aload_n 0, 1) := by decide +kernel
theorem dX4_readGrid_46 : decode cX4_readGrid 46 = .ok (.iconst 1, 1) := by decide +kernel
theorem dX4_readGrid_47 : decode cX4_readGrid 47 = .ok (.bipush 20, 2) := by decide +kernel
theorem dX4_readGrid_49 : decode cX4_readGrid 49 = .ok (.invokevirtual 135, 3) := by decide +kernel
theorem dX4_readGrid_52 : decode cX4_readGrid 52 = .ok (.ifCond .ne 5, 3) := by decide +kernel
theorem dX4_readGrid_55 : decode cX4_readGrid 55 = .ok (.iconst 0, 1) := by decide +kernel
theorem dX4_readGrid_56 : decode cX4_readGrid 56 = .ok (.ireturn, 1) := by decide +kernel
theorem dX4_readGrid_57 : decode cX4_readGrid 57 = .ok (.aload_n 1, 1) := by decide +kernel
theorem dX4_readGrid_58 : decode cX4_readGrid 58 = .ok (.aload_n 0, 1) := by decide +kernel
theorem dX4_readGrid_59 : decode cX4_readGrid 59 = .ok (.getfield 35, 3) := by decide +kernel
theorem dX4_readGrid_62 : decode cX4_readGrid 62 = .ok (.putfield 176, 3) := by decide +kernel
theorem dX4_readGrid_65 : decode cX4_readGrid 65 = .ok (.iconst 1, 1) := by decide +kernel
theorem dX4_readGrid_66 : decode cX4_readGrid 66 = .ok (.ireturn, 1) := by decide +kernel
theorem dX4_readSlack_0 : decode cX4_readSlack 0 = .ok (.aload_n 1, 1) := by decide +kernel
theorem dX4_readSlack_1 : decode cX4_readSlack 1 = .ok (.getfield 179, 3) := by decide +kernel
theorem dX4_readSlack_4 : decode cX4_readSlack 4 = .ok (.ifCond .eq 9, 3) := by decide +kernel
theorem dX4_readSlack_7 : decode cX4_readSlack 7 = .ok (.aload_n 0, 1) := by decide +kernel
theorem dX4_readSlack_8 : decode cX4_readSlack 8 = .ok (.iconst 3, 1) := by decide +kernel
theorem dX4_readSlack_9 : decode cX4_readSlack 9 = .ok (.invokevirtual 54, 3) := by decide +kernel
theorem dX4_readSlack_12 : decode cX4_readSlack 12 = .ok (.ireturn, 1) := by decide +kernel
theorem dX4_readSlack_13 : decode cX4_readSlack 13 = .ok (.aload_n 1, 1) := by decide +kernel
theorem dX4_readSlack_14 : decode cX4_readSlack 14 = .ok (.iconst 1, 1) := by decide +kernel
theorem dX4_readSlack_15 : decode cX4_readSlack 15 = .ok (.putfield 179, 3) := by decide +kernel
theorem dX4_readSlack_18 : decode cX4_readSlack 18 = .ok (.aload_n 0, 1) := by decide +kernel
theorem dX4_readSlack_19 : decode cX4_readSlack 19 = .ok (.getfield 12, 3) := by decide +kernel
theorem dX4_readSlack_22 : decode cX4_readSlack 22 = .ok (.invokevirtual 58, 3) := by decide +kernel
theorem dX4_readSlack_25 : decode cX4_readSlack 25 = .ok (.aload_n 0, 1) := by decide +kernel
theorem dX4_readSlack_26 : decode cX4_readSlack 26 = .ok (.iconst 0, 1) := by decide +kernel
theorem dX4_readSlack_27 : decode cX4_readSlack 27 = .ok (.sipush 9999, 3) := by decide +kernel
theorem dX4_readSlack_30 : decode cX4_readSlack 30 = .ok (.invokevirtual 135, 3) := by decide +kernel
theorem dX4_readSlack_33 : decode cX4_readSlack 33 = .ok (.ifCond .ne 5, 3) := by decide +kernel
theorem dX4_readSlack_36 : decode cX4_readSlack 36 = .ok (.iconst 0, 1) := by decide +kernel
theorem dX4_readSlack_37 : decode cX4_readSlack 37 = .ok (.ireturn, 1) := by decide +kernel
theorem dX4_readSlack_38 : decode cX4_readSlack 38 = .ok (.aload_n 1, 1) := by decide +kernel
theorem dX4_readSlack_39 : decode cX4_readSlack 39 = .ok (.aload_n 0, 1) := by decide +kernel
theorem dX4_readSlack_40 : decode cX4_readSlack 40 = .ok (.getfield 35, 3) := by decide +kernel
theorem dX4_readSlack_43 : decode cX4_readSlack 43 = .ok (.putfield 182, 3) := by decide +kernel
theorem dX4_readSlack_46 : decode cX4_readSlack 46 = .ok (.iconst 1, 1) := by decide +kernel
theorem dX4_readSlack_47 : decode cX4_readSlack 47 = .ok (.ireturn, 1) := by decide +kernel
theorem dX5_init_0 : decode cX5_init 0 = .ok (.aload_n 0, 1) := by decide +kernel
theorem dX5_init_1 : decode cX5_init 1 = .ok (.invokespecial 3, 3) := by decide +kernel
theorem dX5_init_4 : decode cX5_init 4 = .ok (.aload_n 0, 1) := by decide +kernel
theorem dX5_init_5 : decode cX5_init 5 = .ok (.bipush 64, 2) := by decide +kernel
theorem dX5_init_7 : decode cX5_init 7 = .ok (.newarray .int, 2) := by decide +kernel
theorem dX5_init_9 : decode cX5_init 9 = .ok (.putfield 9, 3) := by decide +kernel
theorem dX5_init_12 : decode cX5_init 12 = .ok (.aload_n 0, 1) := by decide +kernel
theorem dX5_init_13 : decode cX5_init 13 = .ok (.bipush 64, 2) := by decide +kernel
theorem dX5_init_15 : decode cX5_init 15 = .ok (.newarray .int, 2) := by decide +kernel
theorem dX5_init_17 : decode cX5_init 17 = .ok (.putfield 15, 3) := by decide +kernel
theorem dX5_init_20 : decode cX5_init 20 = .ok (.aload_n 0, 1) := by decide +kernel
theorem dX5_init_21 : decode cX5_init 21 = .ok (.bipush 64, 2) := by decide +kernel
theorem dX5_init_23 : decode cX5_init 23 = .ok (.newarray .long, 2) := by decide +kernel
theorem dX5_init_25 : decode cX5_init 25 = .ok (.putfield 18, 3) := by decide +kernel
theorem dX5_init_28 : decode cX5_init 28 = .ok (.aload_n 0, 1) := by decide +kernel
theorem dX5_init_29 : decode cX5_init 29 = .ok (.bipush 6, 2) := by decide +kernel
theorem dX5_init_31 : decode cX5_init 31 = .ok (.newarray .long, 2) := by decide +kernel
theorem dX5_init_33 : decode cX5_init 33 = .ok (.putfield 22, 3) := by decide +kernel
theorem dX5_init_36 : decode cX5_init 36 = .ok (.aload_n 0, 1) := by decide +kernel
theorem dX5_init_37 : decode cX5_init 37 = .ok (.iconst 0, 1) := by decide +kernel
theorem dX5_init_38 : decode cX5_init 38 = .ok (.putfield 25, 3) := by decide +kernel
theorem dX5_init_41 : decode cX5_init 41 = .ok (.return_, 1) := by decide +kernel
theorem dX5_put_0 : decode cX5_put 0 = .ok (.aload_n 0, 1) := by decide +kernel
theorem dX5_put_1 : decode cX5_put 1 = .ok (.getfield 25, 3) := by decide +kernel
theorem dX5_put_4 : decode cX5_put 4 = .ok (.bipush 64, 2) := by decide +kernel
theorem dX5_put_6 : decode cX5_put 6 = .ok (.if_icmp .ge 33, 3) := by decide +kernel
theorem dX5_put_9 : decode cX5_put 9 = .ok (.aload_n 0, 1) := by decide +kernel
theorem dX5_put_10 : decode cX5_put 10 = .ok (.getfield 9, 3) := by decide +kernel
theorem dX5_put_13 : decode cX5_put 13 = .ok (.aload_n 0, 1) := by decide +kernel
theorem dX5_put_14 : decode cX5_put 14 = .ok (.getfield 25, 3) := by decide +kernel
theorem dX5_put_17 : decode cX5_put 17 = .ok (.iload_n 1, 1) := by decide +kernel
theorem dX5_put_18 : decode cX5_put 18 = .ok (.iastore, 1) := by decide +kernel
theorem dX5_put_19 : decode cX5_put 19 = .ok (.aload_n 0, 1) := by decide +kernel
theorem dX5_put_20 : decode cX5_put 20 = .ok (.getfield 15, 3) := by decide +kernel
theorem dX5_put_23 : decode cX5_put 23 = .ok (.aload_n 0, 1) := by decide +kernel
theorem dX5_put_24 : decode cX5_put 24 = .ok (.getfield 25, 3) := by decide +kernel
theorem dX5_put_27 : decode cX5_put 27 = .ok (.iload_n 2, 1) := by decide +kernel
theorem dX5_put_28 : decode cX5_put 28 = .ok (.iastore, 1) := by decide +kernel
theorem dX5_put_29 : decode cX5_put 29 = .ok (.aload_n 0, 1) := by decide +kernel
theorem dX5_put_30 : decode cX5_put 30 = .ok (.dup, 1) := by decide +kernel
theorem dX5_put_31 : decode cX5_put 31 = .ok (.getfield 25, 3) := by decide +kernel
theorem dX5_put_34 : decode cX5_put 34 = .ok (.iconst 1, 1) := by decide +kernel
theorem dX5_put_35 : decode cX5_put 35 = .ok (.iadd, 1) := by decide +kernel
theorem dX5_put_36 : decode cX5_put 36 = .ok (.putfield 25, 3) := by decide +kernel
theorem dX5_put_39 : decode cX5_put 39 = .ok (.return_, 1) := by decide +kernel
theorem dX5_holds_0 : decode cX5_holds 0 = .ok (.aload_n 0, 1) := by decide +kernel
theorem dX5_holds_1 : decode cX5_holds 1 = .ok (.getfield 22, 3) := by decide +kernel
theorem dX5_holds_4 : decode cX5_holds 4 = .ok (.iconst 0, 1) := by decide +kernel
theorem dX5_holds_5 : decode cX5_holds 5 = .ok (.iload_n 1, 1) := by decide +kernel
theorem dX5_holds_6 : decode cX5_holds 6 = .ok (.i2l, 1) := by decide +kernel
theorem dX5_holds_7 : decode cX5_holds 7 = .ok (.lastore, 1) := by decide +kernel
theorem dX5_holds_8 : decode cX5_holds 8 = .ok (.aload_n 0, 1) := by decide +kernel
theorem dX5_holds_9 : decode cX5_holds 9 = .ok (.getfield 22, 3) := by decide +kernel
theorem dX5_holds_12 : decode cX5_holds 12 = .ok (.iconst 1, 1) := by decide +kernel
theorem dX5_holds_13 : decode cX5_holds 13 = .ok (.iload_n 2, 1) := by decide +kernel
theorem dX5_holds_14 : decode cX5_holds 14 = .ok (.i2l, 1) := by decide +kernel
theorem dX5_holds_15 : decode cX5_holds 15 = .ok (.lastore, 1) := by decide +kernel
theorem dX5_holds_16 : decode cX5_holds 16 = .ok (.aload_n 0, 1) := by decide +kernel
theorem dX5_holds_17 : decode cX5_holds 17 = .ok (.getfield 22, 3) := by decide +kernel
theorem dX5_holds_20 : decode cX5_holds 20 = .ok (.iconst 2, 1) := by decide +kernel
theorem dX5_holds_21 : decode cX5_holds 21 = .ok (.iload_n 3, 1) := by decide +kernel
theorem dX5_holds_22 : decode cX5_holds 22 = .ok (.i2l, 1) := by decide +kernel
theorem dX5_holds_23 : decode cX5_holds 23 = .ok (.lastore, 1) := by decide +kernel
theorem dX5_holds_24 : decode cX5_holds 24 = .ok (.aload_n 0, 1) := by decide +kernel
theorem dX5_holds_25 : decode cX5_holds 25 = .ok (.getfield 22, 3) := by decide +kernel
theorem dX5_holds_28 : decode cX5_holds 28 = .ok (.iconst 3, 1) := by decide +kernel
theorem dX5_holds_29 : decode cX5_holds 29 = .ok (.iload 4, 2) := by decide +kernel
theorem dX5_holds_31 : decode cX5_holds 31 = .ok (.i2l, 1) := by decide +kernel
theorem dX5_holds_32 : decode cX5_holds 32 = .ok (.lastore, 1) := by decide +kernel
theorem dX5_holds_33 : decode cX5_holds 33 = .ok (.aload_n 0, 1) := by decide +kernel
theorem dX5_holds_34 : decode cX5_holds 34 = .ok (.getfield 22, 3) := by decide +kernel
theorem dX5_holds_37 : decode cX5_holds 37 = .ok (.iconst 4, 1) := by decide +kernel
theorem dX5_holds_38 : decode cX5_holds 38 = .ok (.iload 5, 2) := by decide +kernel
theorem dX5_holds_40 : decode cX5_holds 40 = .ok (.i2l, 1) := by decide +kernel
theorem dX5_holds_41 : decode cX5_holds 41 = .ok (.lastore, 1) := by decide +kernel
theorem dX5_holds_42 : decode cX5_holds 42 = .ok (.aload_n 0, 1) := by decide +kernel
theorem dX5_holds_43 : decode cX5_holds 43 = .ok (.getfield 22, 3) := by decide +kernel
theorem dX5_holds_46 : decode cX5_holds 46 = .ok (.iconst 5, 1) := by decide +kernel
theorem dX5_holds_47 : decode cX5_holds 47 = .ok (.iload 6, 2) := by decide +kernel
theorem dX5_holds_49 : decode cX5_holds 49 = .ok (.i2l, 1) := by decide +kernel
theorem dX5_holds_50 : decode cX5_holds 50 = .ok (.lastore, 1) := by decide +kernel
theorem dX5_holds_51 : decode cX5_holds 51 = .ok (.iconst 0, 1) := by decide +kernel
theorem dX5_holds_52 : decode cX5_holds 52 = .ok (.istore 7, 2) := by decide +kernel
theorem dX5_holds_54 : decode cX5_holds 54 = .ok (.iconst 0, 1) := by decide +kernel
theorem dX5_holds_55 : decode cX5_holds 55 = .ok (.istore 8, 2) := by decide +kernel
theorem dX5_holds_57 : decode cX5_holds 57 = .ok (.iload 8, 2) := by decide +kernel
theorem dX5_holds_59 : decode cX5_holds 59 = .ok (.aload_n 0, 1) := by decide +kernel
theorem dX5_holds_60 : decode cX5_holds 60 = .ok (.getfield 25, 3) := by decide +kernel
theorem dX5_holds_63 : decode cX5_holds 63 = .ok (.if_icmp .ge 197, 3) := by decide +kernel
theorem dX5_holds_66 : decode cX5_holds 66 = .ok (.iload 8, 2) := by decide +kernel
theorem dX5_holds_68 : decode cX5_holds 68 = .ok (.bipush 64, 2) := by decide +kernel
theorem dX5_holds_70 : decode cX5_holds 70 = .ok (.if_icmp .ge 190, 3) := by decide +kernel
theorem dX5_holds_73 : decode cX5_holds 73 = .ok (.aload_n 0, 1) := by decide +kernel
theorem dX5_holds_74 : decode cX5_holds 74 = .ok (.getfield 9, 3) := by decide +kernel
theorem dX5_holds_77 : decode cX5_holds 77 = .ok (.iload 8, 2) := by decide +kernel
theorem dX5_holds_79 : decode cX5_holds 79 = .ok (.iaload, 1) := by decide +kernel
theorem dX5_holds_80 : decode cX5_holds 80 = .ok (.istore 9, 2) := by decide +kernel
theorem dX5_holds_82 : decode cX5_holds 82 = .ok (.iload 9, 2) := by decide +kernel
theorem dX5_holds_84 : decode cX5_holds 84 = .ok (.invokestatic 29, 3) := by decide +kernel
theorem dX5_holds_87 : decode cX5_holds 87 = .ok (.ifCond .eq 52, 3) := by decide +kernel
theorem dX5_holds_90 : decode cX5_holds 90 = .ok (.iload 7, 2) := by decide +kernel
theorem dX5_holds_92 : decode cX5_holds 92 = .ok (.bipush 64, 2) := by decide +kernel
theorem dX5_holds_94 : decode cX5_holds 94 = .ok (.if_icmp .lt 5, 3) := by decide +kernel
theorem dX5_holds_97 : decode cX5_holds 97 = .ok (.iconst 0, 1) := by decide +kernel
theorem dX5_holds_98 : decode cX5_holds 98 = .ok (.ireturn, 1) := by decide +kernel
theorem dX5_holds_99 : decode cX5_holds 99 = .ok (.aload_n 0, 1) := by decide +kernel
theorem dX5_holds_100 : decode cX5_holds 100 = .ok (.getfield 18, 3) := by decide +kernel
theorem dX5_holds_103 : decode cX5_holds 103 = .ok (.iload 7, 2) := by decide +kernel
theorem dX5_holds_105 : decode cX5_holds 105 = .ok (.iload 9, 2) := by decide +kernel
theorem dX5_holds_107 : decode cX5_holds 107 = .ok (.iconst 3, 1) := by decide +kernel
theorem dX5_holds_108 : decode cX5_holds 108 = .ok (.if_icmp .ne 14, 3) := by decide +kernel
theorem dX5_holds_111 : decode cX5_holds 111 = .ok (.aload_n 0, 1) := by decide +kernel
theorem dX5_holds_112 : decode cX5_holds 112 = .ok (.getfield 15, 3) := by decide +kernel
theorem dX5_holds_115 : decode cX5_holds 115 = .ok (.iload 8, 2) := by decide +kernel
theorem dX5_holds_117 : decode cX5_holds 117 = .ok (.iaload, 1) := by decide +kernel
theorem dX5_holds_118 : decode cX5_holds 118 = .ok (.i2l, 1) := by decide +kernel
theorem dX5_holds_119 : decode cX5_holds 119 = .ok (.goto 13, 3) := by decide +kernel
theorem dX5_holds_122 : decode cX5_holds 122 = .ok (.aload_n 0, 1) := by decide +kernel
theorem dX5_holds_123 : decode cX5_holds 123 = .ok (.getfield 22, 3) := by decide +kernel
theorem dX5_holds_126 : decode cX5_holds 126 = .ok (.iload 9, 2) := by decide +kernel
theorem dX5_holds_128 : decode cX5_holds 128 = .ok (.bipush 35, 2) := by decide +kernel
theorem dX5_holds_130 : decode cX5_holds 130 = .ok (.isub, 1) := by decide +kernel
theorem dX5_holds_131 : decode cX5_holds 131 = .ok (.laload, 1) := by decide +kernel
theorem dX5_holds_132 : decode cX5_holds 132 = .ok (.lastore, 1) := by decide +kernel
theorem dX5_holds_133 : decode cX5_holds 133 = .ok (.iinc 7 1, 3) := by decide +kernel
theorem dX5_holds_136 : decode cX5_holds 136 = .ok (.goto 118, 3) := by decide +kernel
theorem dX5_holds_139 : decode cX5_holds 139 = .ok (.iload 9, 2) := by decide +kernel
theorem dX5_holds_141 : decode cX5_holds 141 = .ok (.bipush 34, 2) := by decide +kernel
theorem dX5_holds_143 : decode cX5_holds 143 = .ok (.if_icmp .ne 42, 3) := by decide +kernel
theorem dX5_holds_146 : decode cX5_holds 146 = .ok (.iload 7, 2) := by decide +kernel
theorem dX5_holds_148 : decode cX5_holds 148 = .ok (.iconst 1, 1) := by decide +kernel
theorem dX5_holds_149 : decode cX5_holds 149 = .ok (.if_icmp .ge 5, 3) := by decide +kernel
theorem dX5_holds_152 : decode cX5_holds 152 = .ok (.iconst 0, 1) := by decide +kernel
theorem dX5_holds_153 : decode cX5_holds 153 = .ok (.ireturn, 1) := by decide +kernel
theorem dX5_holds_154 : decode cX5_holds 154 = .ok (.aload_n 0, 1) := by decide +kernel
theorem dX5_holds_155 : decode cX5_holds 155 = .ok (.getfield 18, 3) := by decide +kernel
theorem dX5_holds_158 : decode cX5_holds 158 = .ok (.iload 7, 2) := by decide +kernel
theorem dX5_holds_160 : decode cX5_holds 160 = .ok (.iconst 1, 1) := by decide +kernel
theorem dX5_holds_161 : decode cX5_holds 161 = .ok (.isub, 1) := by decide +kernel
theorem dX5_holds_162 : decode cX5_holds 162 = .ok (.aload_n 0, 1) := by decide +kernel
theorem dX5_holds_163 : decode cX5_holds 163 = .ok (.getfield 18, 3) := by decide +kernel
theorem dX5_holds_166 : decode cX5_holds 166 = .ok (.iload 7, 2) := by decide +kernel
theorem dX5_holds_168 : decode cX5_holds 168 = .ok (.iconst 1, 1) := by decide +kernel
theorem dX5_holds_169 : decode cX5_holds 169 = .ok (.isub, 1) := by decide +kernel
theorem dX5_holds_170 : decode cX5_holds 170 = .ok (.laload, 1) := by decide +kernel
theorem dX5_holds_171 : decode cX5_holds 171 = .ok (.lconst 0, 1) := by decide +kernel
theorem dX5_holds_172 : decode cX5_holds 172 = .ok (.lcmp, 1) := by decide +kernel
theorem dX5_holds_173 : decode cX5_holds 173 = .ok (.ifCond .ne 7, 3) := by decide +kernel
theorem dX5_holds_176 : decode cX5_holds 176 = .ok (.lconst 1, 1) := by decide +kernel
theorem dX5_holds_177 : decode cX5_holds 177 = .ok (.goto 4, 3) := by decide +kernel
theorem dX5_holds_180 : decode cX5_holds 180 = .ok (.lconst 0, 1) := by decide +kernel
theorem dX5_holds_181 : decode cX5_holds 181 = .ok (.lastore, 1) := by decide +kernel
theorem dX5_holds_182 : decode cX5_holds 182 = .ok (.goto 72, 3) := by decide +kernel
theorem dX5_holds_185 : decode cX5_holds 185 = .ok (.iload 7, 2) := by decide +kernel
theorem dX5_holds_187 : decode cX5_holds 187 = .ok (.iconst 2, 1) := by decide +kernel
theorem dX5_holds_188 : decode cX5_holds 188 = .ok (.if_icmp .lt 29, 3) := by decide +kernel
theorem dX5_holds_191 : decode cX5_holds 191 = .ok (.iload 9, 2) := by decide +kernel
theorem dX5_holds_193 : decode cX5_holds 193 = .ok (.aload_n 0, 1) := by decide +kernel
theorem dX5_holds_194 : decode cX5_holds 194 = .ok (.getfield 18, 3) := by decide +kernel
theorem dX5_holds_197 : decode cX5_holds 197 = .ok (.iload 7, 2) := by decide +kernel
theorem dX5_holds_199 : decode cX5_holds 199 = .ok (.iconst 2, 1) := by decide +kernel
theorem dX5_holds_200 : decode cX5_holds 200 = .ok (.isub, 1) := by decide +kernel
theorem dX5_holds_201 : decode cX5_holds 201 = .ok (.laload, 1) := by decide +kernel
theorem dX5_holds_202 : decode cX5_holds 202 = .ok (.aload_n 0, 1) := by decide +kernel
theorem dX5_holds_203 : decode cX5_holds 203 = .ok (.getfield 18, 3) := by decide +kernel
theorem dX5_holds_206 : decode cX5_holds 206 = .ok (.iload 7, 2) := by decide +kernel
theorem dX5_holds_208 : decode cX5_holds 208 = .ok (.iconst 1, 1) := by decide +kernel
theorem dX5_holds_209 : decode cX5_holds 209 = .ok (.isub, 1) := by decide +kernel
theorem dX5_holds_210 : decode cX5_holds 210 = .ok (.laload, 1) := by decide +kernel
theorem dX5_holds_211 : decode cX5_holds 211 = .ok (.invokestatic 33, 3) := by decide +kernel
theorem dX5_holds_214 : decode cX5_holds 214 = .ok (.ifCond .eq 5, 3) := by decide +kernel
theorem dX5_holds_217 : decode cX5_holds 217 = .ok (.iconst 0, 1) := by decide +kernel
theorem dX5_holds_218 : decode cX5_holds 218 = .ok (.ireturn, 1) := by decide +kernel
theorem dX5_holds_219 : decode cX5_holds 219 = .ok (.aload_n 0, 1) := by decide +kernel
theorem dX5_holds_220 : decode cX5_holds 220 = .ok (.getfield 18, 3) := by decide +kernel
theorem dX5_holds_223 : decode cX5_holds 223 = .ok (.iload 7, 2) := by decide +kernel
theorem dX5_holds_225 : decode cX5_holds 225 = .ok (.iconst 2, 1) := by decide +kernel
theorem dX5_holds_226 : decode cX5_holds 226 = .ok (.isub, 1) := by decide +kernel
theorem dX5_holds_227 : decode cX5_holds 227 = .ok (.iload 9, 2) := by decide +kernel
theorem dX5_holds_229 : decode cX5_holds 229 = .ok (.aload_n 0, 1) := by decide +kernel
theorem dX5_holds_230 : decode cX5_holds 230 = .ok (.getfield 18, 3) := by decide +kernel
theorem dX5_holds_233 : decode cX5_holds 233 = .ok (.iload 7, 2) := by decide +kernel
theorem dX5_holds_235 : decode cX5_holds 235 = .ok (.iconst 2, 1) := by decide +kernel
theorem dX5_holds_236 : decode cX5_holds 236 = .ok (.isub, 1) := by decide +kernel
theorem dX5_holds_237 : decode cX5_holds 237 = .ok (.laload, 1) := by decide +kernel
theorem dX5_holds_238 : decode cX5_holds 238 = .ok (.aload_n 0, 1) := by decide +kernel
theorem dX5_holds_239 : decode cX5_holds 239 = .ok (.getfield 18, 3) := by decide +kernel
theorem dX5_holds_242 : decode cX5_holds 242 = .ok (.iload 7, 2) := by decide +kernel
theorem dX5_holds_244 : decode cX5_holds 244 = .ok (.iconst 1, 1) := by decide +kernel
theorem dX5_holds_245 : decode cX5_holds 245 = .ok (.isub, 1) := by decide +kernel
theorem dX5_holds_246 : decode cX5_holds 246 = .ok (.laload, 1) := by decide +kernel
theorem dX5_holds_247 : decode cX5_holds 247 = .ok (.invokestatic 37, 3) := by decide +kernel
theorem dX5_holds_250 : decode cX5_holds 250 = .ok (.lastore, 1) := by decide +kernel
theorem dX5_holds_251 : decode cX5_holds 251 = .ok (.iinc 7 (-1), 3) := by decide +kernel
theorem dX5_holds_254 : decode cX5_holds 254 = .ok (.iinc 8 1, 3) := by decide +kernel
theorem dX5_holds_257 : decode cX5_holds 257 = .ok (.goto (-200), 3) := by decide +kernel
theorem dX5_holds_260 : decode cX5_holds 260 = .ok (.iload 7, 2) := by decide +kernel
theorem dX5_holds_262 : decode cX5_holds 262 = .ok (.iconst 1, 1) := by decide +kernel
theorem dX5_holds_263 : decode cX5_holds 263 = .ok (.if_icmp .ne 18, 3) := by decide +kernel
theorem dX5_holds_266 : decode cX5_holds 266 = .ok (.aload_n 0, 1) := by decide +kernel
theorem dX5_holds_267 : decode cX5_holds 267 = .ok (.getfield 18, 3) := by decide +kernel
theorem dX5_holds_270 : decode cX5_holds 270 = .ok (.iconst 0, 1) := by decide +kernel
theorem dX5_holds_271 : decode cX5_holds 271 = .ok (.laload, 1) := by decide +kernel
theorem dX5_holds_272 : decode cX5_holds 272 = .ok (.lconst 0, 1) := by decide +kernel
theorem dX5_holds_273 : decode cX5_holds 273 = .ok (.lcmp, 1) := by decide +kernel
theorem dX5_holds_274 : decode cX5_holds 274 = .ok (.ifCond .eq 7, 3) := by decide +kernel
theorem dX5_holds_277 : decode cX5_holds 277 = .ok (.iconst 1, 1) := by decide +kernel
theorem dX5_holds_278 : decode cX5_holds 278 = .ok (.goto 4, 3) := by decide +kernel
theorem dX5_holds_281 : decode cX5_holds 281 = .ok (.iconst 0, 1) := by decide +kernel
theorem dX5_holds_282 : decode cX5_holds 282 = .ok (.ireturn, 1) := by decide +kernel
theorem dX5_isOperand_0 : decode cX5_isOperand 0 = .ok (.iload_n 0, 1) := by decide +kernel
theorem dX5_isOperand_1 : decode cX5_isOperand 1 = .ok (.iconst 3, 1) := by decide +kernel
theorem dX5_isOperand_2 : decode cX5_isOperand 2 = .ok (.if_icmp .eq 15, 3) := by decide +kernel
theorem dX5_isOperand_5 : decode cX5_isOperand 5 = .ok (.iload_n 0, 1) := by decide +kernel
theorem dX5_isOperand_6 : decode cX5_isOperand 6 = .ok (.bipush 35, 2) := by decide +kernel
theorem dX5_isOperand_8 : decode cX5_isOperand 8 = .ok (.if_icmp .lt 13, 3) := by decide +kernel
theorem dX5_isOperand_11 : decode cX5_isOperand 11 = .ok (.iload_n 0, 1) := by decide +kernel
theorem dX5_isOperand_12 : decode cX5_isOperand 12 = .ok (.bipush 40, 2) := by decide +kernel
theorem dX5_isOperand_14 : decode cX5_isOperand 14 = .ok (.if_icmp .gt 7, 3) := by decide +kernel
theorem dX5_isOperand_17 : decode cX5_isOperand 17 = .ok (.iconst 1, 1) := by decide +kernel
theorem dX5_isOperand_18 : decode cX5_isOperand 18 = .ok (.goto 4, 3) := by decide +kernel
theorem dX5_isOperand_21 : decode cX5_isOperand 21 = .ok (.iconst 0, 1) := by decide +kernel
theorem dX5_isOperand_22 : decode cX5_isOperand 22 = .ok (.ireturn, 1) := by decide +kernel
theorem dX5_isError_0 : decode cX5_isError 0 = .ok (.iload_n 0, 1) := by decide +kernel
theorem dX5_isError_1 : decode cX5_isError 1 = .ok (.tableswitch 109 7 10 #[31, 50, 69, 97], 31) := by decide +kernel
theorem dX5_isError_32 : decode cX5_isError 32 = .ok (.lload_n 1, 1) := by decide +kernel
theorem dX5_isError_33 : decode cX5_isError 33 = .ok (.lload_n 3, 1) := by decide +kernel
theorem dX5_isError_34 : decode cX5_isError 34 = .ok (.ladd, 1) := by decide +kernel
theorem dX5_isError_35 : decode cX5_isError 35 = .ok (.invokestatic 41, 3) := by decide +kernel
theorem dX5_isError_38 : decode cX5_isError 38 = .ok (.ldc2_w 47, 3) := by decide +kernel
theorem dX5_isError_41 : decode cX5_isError 41 = .ok (.lcmp, 1) := by decide +kernel
theorem dX5_isError_42 : decode cX5_isError 42 = .ok (.ifCond .le 7, 3) := by decide +kernel
theorem dX5_isError_45 : decode cX5_isError 45 = .ok (.iconst 1, 1) := by decide +kernel
theorem dX5_isError_46 : decode cX5_isError 46 = .ok (.goto 4, 3) := by decide +kernel
theorem dX5_isError_49 : decode cX5_isError 49 = .ok (.iconst 0, 1) := by decide +kernel
theorem dX5_isError_50 : decode cX5_isError 50 = .ok (.ireturn, 1) := by decide +kernel
theorem dX5_isError_51 : decode cX5_isError 51 = .ok (.lload_n 1, 1) := by decide +kernel
theorem dX5_isError_52 : decode cX5_isError 52 = .ok (.lload_n 3, 1) := by decide +kernel
theorem dX5_isError_53 : decode cX5_isError 53 = .ok (.lsub, 1) := by decide +kernel
theorem dX5_isError_54 : decode cX5_isError 54 = .ok (.invokestatic 41, 3) := by decide +kernel
theorem dX5_isError_57 : decode cX5_isError 57 = .ok (.ldc2_w 47, 3) := by decide +kernel
theorem dX5_isError_60 : decode cX5_isError 60 = .ok (.lcmp, 1) := by decide +kernel
theorem dX5_isError_61 : decode cX5_isError 61 = .ok (.ifCond .le 7, 3) := by decide +kernel
theorem dX5_isError_64 : decode cX5_isError 64 = .ok (.iconst 1, 1) := by decide +kernel
theorem dX5_isError_65 : decode cX5_isError 65 = .ok (.goto 4, 3) := by decide +kernel
theorem dX5_isError_68 : decode cX5_isError 68 = .ok (.iconst 0, 1) := by decide +kernel
theorem dX5_isError_69 : decode cX5_isError 69 = .ok (.ireturn, 1) := by decide +kernel
theorem dX5_isError_70 : decode cX5_isError 70 = .ok (.lload_n 1, 1) := by decide +kernel
theorem dX5_isError_71 : decode cX5_isError 71 = .ok (.lconst 0, 1) := by decide +kernel
theorem dX5_isError_72 : decode cX5_isError 72 = .ok (.lcmp, 1) := by decide +kernel
theorem dX5_isError_73 : decode cX5_isError 73 = .ok (.ifCond .eq 23, 3) := by decide +kernel
theorem dX5_isError_76 : decode cX5_isError 76 = .ok (.lload_n 3, 1) := by decide +kernel
theorem dX5_isError_77 : decode cX5_isError 77 = .ok (.invokestatic 41, 3) := by decide +kernel
theorem dX5_isError_80 : decode cX5_isError 80 = .ok (.ldc2_w 47, 3) := by decide +kernel
theorem dX5_isError_83 : decode cX5_isError 83 = .ok (.lload_n 1, 1) := by decide +kernel
theorem dX5_isError_84 : decode cX5_isError 84 = .ok (.invokestatic 41, 3) := by decide +kernel
theorem dX5_isError_87 : decode cX5_isError 87 = .ok (.ldiv, 1) := by decide +kernel
theorem dX5_isError_88 : decode cX5_isError 88 = .ok (.lcmp, 1) := by decide +kernel
theorem dX5_isError_89 : decode cX5_isError 89 = .ok (.ifCond .le 7, 3) := by decide +kernel
theorem dX5_isError_92 : decode cX5_isError 92 = .ok (.iconst 1, 1) := by decide +kernel
theorem dX5_isError_93 : decode cX5_isError 93 = .ok (.goto 4, 3) := by decide +kernel
theorem dX5_isError_96 : decode cX5_isError 96 = .ok (.iconst 0, 1) := by decide +kernel
theorem dX5_isError_97 : decode cX5_isError 97 = .ok (.ireturn, 1) := by decide +kernel
theorem dX5_isError_98 : decode cX5_isError 98 = .ok (.lload_n 3, 1) := by decide +kernel
theorem dX5_isError_99 : decode cX5_isError 99 = .ok (.lconst 0, 1) := by decide +kernel
theorem dX5_isError_100 : decode cX5_isError 100 = .ok (.lcmp, 1) := by decide +kernel
theorem dX5_isError_101 : decode cX5_isError 101 = .ok (.ifCond .ne 7, 3) := by decide +kernel
theorem dX5_isError_104 : decode cX5_isError 104 = .ok (.iconst 1, 1) := by decide +kernel
theorem dX5_isError_105 : decode cX5_isError 105 = .ok (.goto 4, 3) := by decide +kernel
theorem dX5_isError_108 : decode cX5_isError 108 = .ok (.iconst 0, 1) := by decide +kernel
theorem dX5_isError_109 : decode cX5_isError 109 = .ok (.ireturn, 1) := by decide +kernel
theorem dX5_isError_110 : decode cX5_isError 110 = .ok (.iconst 0, 1) := by decide +kernel
theorem dX5_isError_111 : decode cX5_isError 111 = .ok (.ireturn, 1) := by decide +kernel
theorem dX5_join_0 : decode cX5_join 0 = .ok (.iload_n 0, 1) := by decide +kernel
theorem dX5_join_1 : decode cX5_join 1 = .ok (.tableswitch 257 7 33 #[123, 127, 131, 135, 149, 161, 173, 185, 197, 209, 257, 257, 257, 257, 257, 257, 257, 257, 257, 257, 257, 257, 257, 257, 257, 239, 221], 123) := by decide +kernel
theorem dX5_join_124 : decode cX5_join 124 = .ok (.lload_n 1, 1) := by decide +kernel
theorem dX5_join_125 : decode cX5_join 125 = .ok (.lload_n 3, 1) := by decide +kernel
theorem dX5_join_126 : decode cX5_join 126 = .ok (.ladd, 1) := by decide +kernel
theorem dX5_join_127 : decode cX5_join 127 = .ok (.lreturn, 1) := by decide +kernel
theorem dX5_join_128 : decode cX5_join 128 = .ok (.lload_n 1, 1) := by decide +kernel
theorem dX5_join_129 : decode cX5_join 129 = .ok (.lload_n 3, 1) := by decide +kernel
theorem dX5_join_130 : decode cX5_join 130 = .ok (.lsub, 1) := by decide +kernel
theorem dX5_join_131 : decode cX5_join 131 = .ok (.lreturn, 1) := by decide +kernel
theorem dX5_join_132 : decode cX5_join 132 = .ok (.lload_n 1, 1) := by decide +kernel
theorem dX5_join_133 : decode cX5_join 133 = .ok (.lload_n 3, 1) := by decide +kernel
theorem dX5_join_134 : decode cX5_join 134 = .ok (.lmul, 1) := by decide +kernel
theorem dX5_join_135 : decode cX5_join 135 = .ok (.lreturn, 1) := by decide +kernel
theorem dX5_join_136 : decode cX5_join 136 = .ok (.lload_n 3, 1) := by decide +kernel
theorem dX5_join_137 : decode cX5_join 137 = .ok (.lconst 0, 1) := by decide +kernel
theorem dX5_join_138 : decode cX5_join 138 = .ok (.lcmp, 1) := by decide +kernel
theorem dX5_join_139 : decode cX5_join 139 = .ok (.ifCond .ne 7, 3) := by decide +kernel
theorem dX5_join_142 : decode cX5_join 142 = .ok (.lconst 0, 1) := by decide +kernel
theorem dX5_join_143 : decode cX5_join 143 = .ok (.goto 6, 3) := by decide +kernel
theorem dX5_join_146 : decode cX5_join 146 = .ok (.lload_n 1, 1) := by decide +kernel
theorem dX5_join_147 : decode cX5_join 147 = .ok (.lload_n 3, 1) := by decide +kernel
theorem dX5_join_148 : decode cX5_join 148 = .ok (.ldiv, 1) := by decide +kernel
theorem dX5_join_149 : decode cX5_join 149 = .ok (.lreturn, 1) := by decide +kernel
theorem dX5_join_150 : decode cX5_join 150 = .ok (.lload_n 1, 1) := by decide +kernel
theorem dX5_join_151 : decode cX5_join 151 = .ok (.lload_n 3, 1) := by decide +kernel
theorem dX5_join_152 : decode cX5_join 152 = .ok (.lcmp, 1) := by decide +kernel
theorem dX5_join_153 : decode cX5_join 153 = .ok (.ifCond .ge 7, 3) := by decide +kernel
theorem dX5_join_156 : decode cX5_join 156 = .ok (.lconst 1, 1) := by decide +kernel
theorem dX5_join_157 : decode cX5_join 157 = .ok (.goto 4, 3) := by decide +kernel
theorem dX5_join_160 : decode cX5_join 160 = .ok (.lconst 0, 1) := by decide +kernel
theorem dX5_join_161 : decode cX5_join 161 = .ok (.lreturn, 1) := by decide +kernel
theorem dX5_join_162 : decode cX5_join 162 = .ok (.lload_n 1, 1) := by decide +kernel
theorem dX5_join_163 : decode cX5_join 163 = .ok (.lload_n 3, 1) := by decide +kernel
theorem dX5_join_164 : decode cX5_join 164 = .ok (.lcmp, 1) := by decide +kernel
theorem dX5_join_165 : decode cX5_join 165 = .ok (.ifCond .gt 7, 3) := by decide +kernel
theorem dX5_join_168 : decode cX5_join 168 = .ok (.lconst 1, 1) := by decide +kernel
theorem dX5_join_169 : decode cX5_join 169 = .ok (.goto 4, 3) := by decide +kernel
theorem dX5_join_172 : decode cX5_join 172 = .ok (.lconst 0, 1) := by decide +kernel
theorem dX5_join_173 : decode cX5_join 173 = .ok (.lreturn, 1) := by decide +kernel
theorem dX5_join_174 : decode cX5_join 174 = .ok (.lload_n 1, 1) := by decide +kernel
theorem dX5_join_175 : decode cX5_join 175 = .ok (.lload_n 3, 1) := by decide +kernel
theorem dX5_join_176 : decode cX5_join 176 = .ok (.lcmp, 1) := by decide +kernel
theorem dX5_join_177 : decode cX5_join 177 = .ok (.ifCond .ne 7, 3) := by decide +kernel
theorem dX5_join_180 : decode cX5_join 180 = .ok (.lconst 1, 1) := by decide +kernel
theorem dX5_join_181 : decode cX5_join 181 = .ok (.goto 4, 3) := by decide +kernel
theorem dX5_join_184 : decode cX5_join 184 = .ok (.lconst 0, 1) := by decide +kernel
theorem dX5_join_185 : decode cX5_join 185 = .ok (.lreturn, 1) := by decide +kernel
theorem dX5_join_186 : decode cX5_join 186 = .ok (.lload_n 1, 1) := by decide +kernel
theorem dX5_join_187 : decode cX5_join 187 = .ok (.lload_n 3, 1) := by decide +kernel
theorem dX5_join_188 : decode cX5_join 188 = .ok (.lcmp, 1) := by decide +kernel
theorem dX5_join_189 : decode cX5_join 189 = .ok (.ifCond .eq 7, 3) := by decide +kernel
theorem dX5_join_192 : decode cX5_join 192 = .ok (.lconst 1, 1) := by decide +kernel
theorem dX5_join_193 : decode cX5_join 193 = .ok (.goto 4, 3) := by decide +kernel
theorem dX5_join_196 : decode cX5_join 196 = .ok (.lconst 0, 1) := by decide +kernel
theorem dX5_join_197 : decode cX5_join 197 = .ok (.lreturn, 1) := by decide +kernel
theorem dX5_join_198 : decode cX5_join 198 = .ok (.lload_n 1, 1) := by decide +kernel
theorem dX5_join_199 : decode cX5_join 199 = .ok (.lload_n 3, 1) := by decide +kernel
theorem dX5_join_200 : decode cX5_join 200 = .ok (.lcmp, 1) := by decide +kernel
theorem dX5_join_201 : decode cX5_join 201 = .ok (.ifCond .lt 7, 3) := by decide +kernel
theorem dX5_join_204 : decode cX5_join 204 = .ok (.lconst 1, 1) := by decide +kernel
theorem dX5_join_205 : decode cX5_join 205 = .ok (.goto 4, 3) := by decide +kernel
theorem dX5_join_208 : decode cX5_join 208 = .ok (.lconst 0, 1) := by decide +kernel
theorem dX5_join_209 : decode cX5_join 209 = .ok (.lreturn, 1) := by decide +kernel
theorem dX5_join_210 : decode cX5_join 210 = .ok (.lload_n 1, 1) := by decide +kernel
theorem dX5_join_211 : decode cX5_join 211 = .ok (.lload_n 3, 1) := by decide +kernel
theorem dX5_join_212 : decode cX5_join 212 = .ok (.lcmp, 1) := by decide +kernel
theorem dX5_join_213 : decode cX5_join 213 = .ok (.ifCond .le 7, 3) := by decide +kernel
theorem dX5_join_216 : decode cX5_join 216 = .ok (.lconst 1, 1) := by decide +kernel
theorem dX5_join_217 : decode cX5_join 217 = .ok (.goto 4, 3) := by decide +kernel
theorem dX5_join_220 : decode cX5_join 220 = .ok (.lconst 0, 1) := by decide +kernel
theorem dX5_join_221 : decode cX5_join 221 = .ok (.lreturn, 1) := by decide +kernel
theorem dX5_join_222 : decode cX5_join 222 = .ok (.lload_n 1, 1) := by decide +kernel
theorem dX5_join_223 : decode cX5_join 223 = .ok (.lconst 0, 1) := by decide +kernel
theorem dX5_join_224 : decode cX5_join 224 = .ok (.lcmp, 1) := by decide +kernel
theorem dX5_join_225 : decode cX5_join 225 = .ok (.ifCond .eq 13, 3) := by decide +kernel
theorem dX5_join_228 : decode cX5_join 228 = .ok (.lload_n 3, 1) := by decide +kernel
theorem dX5_join_229 : decode cX5_join 229 = .ok (.lconst 0, 1) := by decide +kernel
theorem dX5_join_230 : decode cX5_join 230 = .ok (.lcmp, 1) := by decide +kernel
theorem dX5_join_231 : decode cX5_join 231 = .ok (.ifCond .eq 7, 3) := by decide +kernel
theorem dX5_join_234 : decode cX5_join 234 = .ok (.lconst 1, 1) := by decide +kernel
theorem dX5_join_235 : decode cX5_join 235 = .ok (.goto 4, 3) := by decide +kernel
theorem dX5_join_238 : decode cX5_join 238 = .ok (.lconst 0, 1) := by decide +kernel
theorem dX5_join_239 : decode cX5_join 239 = .ok (.lreturn, 1) := by decide +kernel
theorem dX5_join_240 : decode cX5_join 240 = .ok (.lload_n 1, 1) := by decide +kernel
theorem dX5_join_241 : decode cX5_join 241 = .ok (.lconst 0, 1) := by decide +kernel
theorem dX5_join_242 : decode cX5_join 242 = .ok (.lcmp, 1) := by decide +kernel
theorem dX5_join_243 : decode cX5_join 243 = .ok (.ifCond .ne 9, 3) := by decide +kernel
theorem dX5_join_246 : decode cX5_join 246 = .ok (.lload_n 3, 1) := by decide +kernel
theorem dX5_join_247 : decode cX5_join 247 = .ok (.lconst 0, 1) := by decide +kernel
theorem dX5_join_248 : decode cX5_join 248 = .ok (.lcmp, 1) := by decide +kernel
theorem dX5_join_249 : decode cX5_join 249 = .ok (.ifCond .eq 7, 3) := by decide +kernel
theorem dX5_join_252 : decode cX5_join 252 = .ok (.lconst 1, 1) := by decide +kernel
theorem dX5_join_253 : decode cX5_join 253 = .ok (.goto 4, 3) := by decide +kernel
theorem dX5_join_256 : decode cX5_join 256 = .ok (.lconst 0, 1) := by decide +kernel
theorem dX5_join_257 : decode cX5_join 257 = .ok (.lreturn, 1) := by decide +kernel
theorem dX5_join_258 : decode cX5_join 258 = .ok (.lconst 0, 1) := by decide +kernel
theorem dX5_join_259 : decode cX5_join 259 = .ok (.lreturn, 1) := by decide +kernel
theorem dX6_init_0 : decode cX6_init 0 = .ok (.aload_n 0, 1) := by decide +kernel
theorem dX6_init_1 : decode cX6_init 1 = .ok (.invokespecial 3, 3) := by decide +kernel
theorem dX6_init_4 : decode cX6_init 4 = .ok (.aload_n 0, 1) := by decide +kernel
theorem dX6_init_5 : decode cX6_init 5 = .ok (.bipush 72, 2) := by decide +kernel
theorem dX6_init_7 : decode cX6_init 7 = .ok (.newarray .int, 2) := by decide +kernel
theorem dX6_init_9 : decode cX6_init 9 = .ok (.putfield 9, 3) := by decide +kernel
theorem dX6_init_12 : decode cX6_init 12 = .ok (.aload_n 0, 1) := by decide +kernel
theorem dX6_init_13 : decode cX6_init 13 = .ok (.iconst 0, 1) := by decide +kernel
theorem dX6_init_14 : decode cX6_init 14 = .ok (.putfield 15, 3) := by decide +kernel
theorem dX6_init_17 : decode cX6_init 17 = .ok (.aload_n 0, 1) := by decide +kernel
theorem dX6_init_18 : decode cX6_init 18 = .ok (.iconst 0, 1) := by decide +kernel
theorem dX6_init_19 : decode cX6_init 19 = .ok (.putfield 19, 3) := by decide +kernel
theorem dX6_init_22 : decode cX6_init 22 = .ok (.aload_n 0, 1) := by decide +kernel
theorem dX6_init_23 : decode cX6_init 23 = .ok (.iconst 0, 1) := by decide +kernel
theorem dX6_init_24 : decode cX6_init 24 = .ok (.putfield 22, 3) := by decide +kernel
theorem dX6_init_27 : decode cX6_init 27 = .ok (.aload_n 0, 1) := by decide +kernel
theorem dX6_init_28 : decode cX6_init 28 = .ok (.iconst 1, 1) := by decide +kernel
theorem dX6_init_29 : decode cX6_init 29 = .ok (.putfield 25, 3) := by decide +kernel
theorem dX6_init_32 : decode cX6_init 32 = .ok (.aload_n 0, 1) := by decide +kernel
theorem dX6_init_33 : decode cX6_init 33 = .ok (.iconst 0, 1) := by decide +kernel
theorem dX6_init_34 : decode cX6_init 34 = .ok (.putfield 29, 3) := by decide +kernel
theorem dX6_init_37 : decode cX6_init 37 = .ok (.return_, 1) := by decide +kernel
theorem dX6_read_0 : decode cX6_read 0 = .ok (.aload_n 2, 1) := by decide +kernel
theorem dX6_read_1 : decode cX6_read 1 = .ok (.iconst 0, 1) := by decide +kernel
theorem dX6_read_2 : decode cX6_read 2 = .ok (.putfield 32, 3) := by decide +kernel
theorem dX6_read_5 : decode cX6_read 5 = .ok (.aload_n 0, 1) := by decide +kernel
theorem dX6_read_6 : decode cX6_read 6 = .ok (.iconst 0, 1) := by decide +kernel
theorem dX6_read_7 : decode cX6_read 7 = .ok (.putfield 15, 3) := by decide +kernel
theorem dX6_read_10 : decode cX6_read 10 = .ok (.aload_n 0, 1) := by decide +kernel
theorem dX6_read_11 : decode cX6_read 11 = .ok (.iconst 0, 1) := by decide +kernel
theorem dX6_read_12 : decode cX6_read 12 = .ok (.putfield 19, 3) := by decide +kernel
theorem dX6_read_15 : decode cX6_read 15 = .ok (.aload_n 0, 1) := by decide +kernel
theorem dX6_read_16 : decode cX6_read 16 = .ok (.iconst 0, 1) := by decide +kernel
theorem dX6_read_17 : decode cX6_read 17 = .ok (.putfield 22, 3) := by decide +kernel
theorem dX6_read_20 : decode cX6_read 20 = .ok (.aload_n 0, 1) := by decide +kernel
theorem dX6_read_21 : decode cX6_read 21 = .ok (.iconst 1, 1) := by decide +kernel
theorem dX6_read_22 : decode cX6_read 22 = .ok (.putfield 25, 3) := by decide +kernel
theorem dX6_read_25 : decode cX6_read 25 = .ok (.aload_n 0, 1) := by decide +kernel
theorem dX6_read_26 : decode cX6_read 26 = .ok (.iconst 0, 1) := by decide +kernel
theorem dX6_read_27 : decode cX6_read 27 = .ok (.putfield 29, 3) := by decide +kernel
theorem dX6_read_30 : decode cX6_read 30 = .ok (.iconst 0, 1) := by decide +kernel
theorem dX6_read_31 : decode cX6_read 31 = .ok (.istore_n 3, 1) := by decide +kernel
theorem dX6_read_32 : decode cX6_read 32 = .ok (.iload_n 3, 1) := by decide +kernel
theorem dX6_read_33 : decode cX6_read 33 = .ok (.sipush 900, 3) := by decide +kernel
theorem dX6_read_36 : decode cX6_read 36 = .ok (.if_icmp .gt 62, 3) := by decide +kernel
theorem dX6_read_39 : decode cX6_read 39 = .ok (.aload_n 0, 1) := by decide +kernel
theorem dX6_read_40 : decode cX6_read 40 = .ok (.getfield 29, 3) := by decide +kernel
theorem dX6_read_43 : decode cX6_read 43 = .ok (.ifCond .ne 55, 3) := by decide +kernel
theorem dX6_read_46 : decode cX6_read 46 = .ok (.aload_n 0, 1) := by decide +kernel
theorem dX6_read_47 : decode cX6_read 47 = .ok (.getfield 25, 3) := by decide +kernel
theorem dX6_read_50 : decode cX6_read 50 = .ok (.ifCond .eq 12, 3) := by decide +kernel
theorem dX6_read_53 : decode cX6_read 53 = .ok (.aload_n 0, 1) := by decide +kernel
theorem dX6_read_54 : decode cX6_read 54 = .ok (.aload_n 1, 1) := by decide +kernel
theorem dX6_read_55 : decode cX6_read 55 = .ok (.aload_n 2, 1) := by decide +kernel
theorem dX6_read_56 : decode cX6_read 56 = .ok (.invokevirtual 35, 3) := by decide +kernel
theorem dX6_read_59 : decode cX6_read 59 = .ok (.goto 12, 3) := by decide +kernel
theorem dX6_read_62 : decode cX6_read 62 = .ok (.aload_n 0, 1) := by decide +kernel
theorem dX6_read_63 : decode cX6_read 63 = .ok (.aload_n 1, 1) := by decide +kernel
theorem dX6_read_64 : decode cX6_read 64 = .ok (.getfield 39, 3) := by decide +kernel
theorem dX6_read_67 : decode cX6_read 67 = .ok (.aload_n 2, 1) := by decide +kernel
theorem dX6_read_68 : decode cX6_read 68 = .ok (.invokevirtual 44, 3) := by decide +kernel
theorem dX6_read_71 : decode cX6_read 71 = .ok (.istore 4, 2) := by decide +kernel
theorem dX6_read_73 : decode cX6_read 73 = .ok (.iload 4, 2) := by decide +kernel
theorem dX6_read_75 : decode cX6_read 75 = .ok (.ifCond .eq 6, 3) := by decide +kernel
theorem dX6_read_78 : decode cX6_read 78 = .ok (.iload 4, 2) := by decide +kernel
theorem dX6_read_80 : decode cX6_read 80 = .ok (.ireturn, 1) := by decide +kernel
theorem dX6_read_81 : decode cX6_read 81 = .ok (.aload_n 0, 1) := by decide +kernel
theorem dX6_read_82 : decode cX6_read 82 = .ok (.getfield 29, 3) := by decide +kernel
theorem dX6_read_85 : decode cX6_read 85 = .ok (.ifCond .ne 7, 3) := by decide +kernel
theorem dX6_read_88 : decode cX6_read 88 = .ok (.aload_n 1, 1) := by decide +kernel
theorem dX6_read_89 : decode cX6_read 89 = .ok (.invokevirtual 48, 3) := by decide +kernel
theorem dX6_read_92 : decode cX6_read 92 = .ok (.iinc 3 1, 3) := by decide +kernel
theorem dX6_read_95 : decode cX6_read 95 = .ok (.goto (-63), 3) := by decide +kernel
theorem dX6_read_98 : decode cX6_read 98 = .ok (.iconst 0, 1) := by decide +kernel
theorem dX6_read_99 : decode cX6_read 99 = .ok (.ireturn, 1) := by decide +kernel
theorem dX6_takeOperand_0 : decode cX6_takeOperand 0 = .ok (.aload_n 1, 1) := by decide +kernel
theorem dX6_takeOperand_1 : decode cX6_takeOperand 1 = .ok (.getfield 39, 3) := by decide +kernel
theorem dX6_takeOperand_4 : decode cX6_takeOperand 4 = .ok (.istore_n 3, 1) := by decide +kernel
theorem dX6_takeOperand_5 : decode cX6_takeOperand 5 = .ok (.iload_n 3, 1) := by decide +kernel
theorem dX6_takeOperand_6 : decode cX6_takeOperand 6 = .ok (.iconst 5, 1) := by decide +kernel
theorem dX6_takeOperand_7 : decode cX6_takeOperand 7 = .ok (.if_icmp .ne 31, 3) := by decide +kernel
theorem dX6_takeOperand_10 : decode cX6_takeOperand 10 = .ok (.aload_n 0, 1) := by decide +kernel
theorem dX6_takeOperand_11 : decode cX6_takeOperand 11 = .ok (.getfield 19, 3) := by decide +kernel
theorem dX6_takeOperand_14 : decode cX6_takeOperand 14 = .ok (.bipush 8, 2) := by decide +kernel
theorem dX6_takeOperand_16 : decode cX6_takeOperand 16 = .ok (.if_icmp .lt 5, 3) := by decide +kernel
theorem dX6_takeOperand_19 : decode cX6_takeOperand 19 = .ok (.iconst 2, 1) := by decide +kernel
theorem dX6_takeOperand_20 : decode cX6_takeOperand 20 = .ok (.ireturn, 1) := by decide +kernel
theorem dX6_takeOperand_21 : decode cX6_takeOperand 21 = .ok (.aload_n 0, 1) := by decide +kernel
theorem dX6_takeOperand_22 : decode cX6_takeOperand 22 = .ok (.dup, 1) := by decide +kernel
theorem dX6_takeOperand_23 : decode cX6_takeOperand 23 = .ok (.getfield 19, 3) := by decide +kernel
theorem dX6_takeOperand_26 : decode cX6_takeOperand 26 = .ok (.iconst 1, 1) := by decide +kernel
theorem dX6_takeOperand_27 : decode cX6_takeOperand 27 = .ok (.iadd, 1) := by decide +kernel
theorem dX6_takeOperand_28 : decode cX6_takeOperand 28 = .ok (.putfield 19, 3) := by decide +kernel
theorem dX6_takeOperand_31 : decode cX6_takeOperand 31 = .ok (.aload_n 0, 1) := by decide +kernel
theorem dX6_takeOperand_32 : decode cX6_takeOperand 32 = .ok (.iload_n 3, 1) := by decide +kernel
theorem dX6_takeOperand_33 : decode cX6_takeOperand 33 = .ok (.invokevirtual 51, 3) := by decide +kernel
theorem dX6_takeOperand_36 : decode cX6_takeOperand 36 = .ok (.iconst 0, 1) := by decide +kernel
theorem dX6_takeOperand_37 : decode cX6_takeOperand 37 = .ok (.ireturn, 1) := by decide +kernel
theorem dX6_takeOperand_38 : decode cX6_takeOperand 38 = .ok (.iload_n 3, 1) := by decide +kernel
theorem dX6_takeOperand_39 : decode cX6_takeOperand 39 = .ok (.bipush 34, 2) := by decide +kernel
theorem dX6_takeOperand_41 : decode cX6_takeOperand 41 = .ok (.if_icmp .ne 32, 3) := by decide +kernel
theorem dX6_takeOperand_44 : decode cX6_takeOperand 44 = .ok (.aload_n 0, 1) := by decide +kernel
theorem dX6_takeOperand_45 : decode cX6_takeOperand 45 = .ok (.getfield 15, 3) := by decide +kernel
theorem dX6_takeOperand_48 : decode cX6_takeOperand 48 = .ok (.ifCond .eq 21, 3) := by decide +kernel
theorem dX6_takeOperand_51 : decode cX6_takeOperand 51 = .ok (.aload_n 0, 1) := by decide +kernel
theorem dX6_takeOperand_52 : decode cX6_takeOperand 52 = .ok (.getfield 9, 3) := by decide +kernel
theorem dX6_takeOperand_55 : decode cX6_takeOperand 55 = .ok (.aload_n 0, 1) := by decide +kernel
theorem dX6_takeOperand_56 : decode cX6_takeOperand 56 = .ok (.getfield 15, 3) := by decide +kernel
theorem dX6_takeOperand_59 : decode cX6_takeOperand 59 = .ok (.iconst 1, 1) := by decide +kernel
theorem dX6_takeOperand_60 : decode cX6_takeOperand 60 = .ok (.isub, 1) := by decide +kernel
theorem dX6_takeOperand_61 : decode cX6_takeOperand 61 = .ok (.iaload, 1) := by decide +kernel
theorem dX6_takeOperand_62 : decode cX6_takeOperand 62 = .ok (.invokestatic 55, 3) := by decide +kernel
theorem dX6_takeOperand_65 : decode cX6_takeOperand 65 = .ok (.iconst 3, 1) := by decide +kernel
theorem dX6_takeOperand_66 : decode cX6_takeOperand 66 = .ok (.if_icmp .gt 7, 3) := by decide +kernel
theorem dX6_takeOperand_69 : decode cX6_takeOperand 69 = .ok (.iconst 1, 1) := by decide +kernel
theorem dX6_takeOperand_70 : decode cX6_takeOperand 70 = .ok (.goto 4, 3) := by decide +kernel
theorem dX6_takeOperand_73 : decode cX6_takeOperand 73 = .ok (.iconst 0, 1) := by decide +kernel
theorem dX6_takeOperand_74 : decode cX6_takeOperand 74 = .ok (.istore 4, 2) := by decide +kernel
theorem dX6_takeOperand_76 : decode cX6_takeOperand 76 = .ok (.iload 4, 2) := by decide +kernel
theorem dX6_takeOperand_78 : decode cX6_takeOperand 78 = .ok (.ifCond .ne 12, 3) := by decide +kernel
theorem dX6_takeOperand_81 : decode cX6_takeOperand 81 = .ok (.iload_n 3, 1) := by decide +kernel
theorem dX6_takeOperand_82 : decode cX6_takeOperand 82 = .ok (.invokestatic 59, 3) := by decide +kernel
theorem dX6_takeOperand_85 : decode cX6_takeOperand 85 = .ok (.ifCond .ne 5, 3) := by decide +kernel
theorem dX6_takeOperand_88 : decode cX6_takeOperand 88 = .ok (.iconst 1, 1) := by decide +kernel
theorem dX6_takeOperand_89 : decode cX6_takeOperand 89 = .ok (.ireturn, 1) := by decide +kernel
theorem dX6_takeOperand_90 : decode cX6_takeOperand 90 = .ok (.aload_n 0, 1) := by decide +kernel
theorem dX6_takeOperand_91 : decode cX6_takeOperand 91 = .ok (.getfield 22, 3) := by decide +kernel
theorem dX6_takeOperand_94 : decode cX6_takeOperand 94 = .ok (.bipush 64, 2) := by decide +kernel
theorem dX6_takeOperand_96 : decode cX6_takeOperand 96 = .ok (.if_icmp .ge 18, 3) := by decide +kernel
theorem dX6_takeOperand_99 : decode cX6_takeOperand 99 = .ok (.iload_n 3, 1) := by decide +kernel
theorem dX6_takeOperand_100 : decode cX6_takeOperand 100 = .ok (.iconst 3, 1) := by decide +kernel
theorem dX6_takeOperand_101 : decode cX6_takeOperand 101 = .ok (.if_icmp .ne 15, 3) := by decide +kernel
theorem dX6_takeOperand_104 : decode cX6_takeOperand 104 = .ok (.aload_n 1, 1) := by decide +kernel
theorem dX6_takeOperand_105 : decode cX6_takeOperand 105 = .ok (.getfield 63, 3) := by decide +kernel
theorem dX6_takeOperand_108 : decode cX6_takeOperand 108 = .ok (.sipush 9999, 3) := by decide +kernel
theorem dX6_takeOperand_111 : decode cX6_takeOperand 111 = .ok (.if_icmp .le 5, 3) := by decide +kernel
theorem dX6_takeOperand_114 : decode cX6_takeOperand 114 = .ok (.iconst 2, 1) := by decide +kernel
theorem dX6_takeOperand_115 : decode cX6_takeOperand 115 = .ok (.ireturn, 1) := by decide +kernel
theorem dX6_takeOperand_116 : decode cX6_takeOperand 116 = .ok (.aload_n 0, 1) := by decide +kernel
theorem dX6_takeOperand_117 : decode cX6_takeOperand 117 = .ok (.dup, 1) := by decide +kernel
theorem dX6_takeOperand_118 : decode cX6_takeOperand 118 = .ok (.getfield 22, 3) := by decide +kernel
theorem dX6_takeOperand_121 : decode cX6_takeOperand 121 = .ok (.iconst 1, 1) := by decide +kernel
theorem dX6_takeOperand_122 : decode cX6_takeOperand 122 = .ok (.iadd, 1) := by decide +kernel
theorem dX6_takeOperand_123 : decode cX6_takeOperand 123 = .ok (.putfield 22, 3) := by decide +kernel
theorem dX6_takeOperand_126 : decode cX6_takeOperand 126 = .ok (.iload 4, 2) := by decide +kernel
theorem dX6_takeOperand_128 : decode cX6_takeOperand 128 = .ok (.ifCond .eq 11, 3) := by decide +kernel
theorem dX6_takeOperand_131 : decode cX6_takeOperand 131 = .ok (.aload_n 0, 1) := by decide +kernel
theorem dX6_takeOperand_132 : decode cX6_takeOperand 132 = .ok (.iload_n 3, 1) := by decide +kernel
theorem dX6_takeOperand_133 : decode cX6_takeOperand 133 = .ok (.invokevirtual 51, 3) := by decide +kernel
theorem dX6_takeOperand_136 : decode cX6_takeOperand 136 = .ok (.goto 17, 3) := by decide +kernel
theorem dX6_takeOperand_139 : decode cX6_takeOperand 139 = .ok (.aload_n 2, 1) := by decide +kernel
theorem dX6_takeOperand_140 : decode cX6_takeOperand 140 = .ok (.iload_n 3, 1) := by decide +kernel
theorem dX6_takeOperand_141 : decode cX6_takeOperand 141 = .ok (.aload_n 1, 1) := by decide +kernel
theorem dX6_takeOperand_142 : decode cX6_takeOperand 142 = .ok (.getfield 63, 3) := by decide +kernel
theorem dX6_takeOperand_145 : decode cX6_takeOperand 145 = .ok (.invokevirtual 66, 3) := by decide +kernel
theorem dX6_takeOperand_148 : decode cX6_takeOperand 148 = .ok (.aload_n 0, 1) := by decide +kernel
theorem dX6_takeOperand_149 : decode cX6_takeOperand 149 = .ok (.iconst 0, 1) := by decide +kernel
theorem dX6_takeOperand_150 : decode cX6_takeOperand 150 = .ok (.putfield 25, 3) := by decide +kernel
theorem dX6_takeOperand_153 : decode cX6_takeOperand 153 = .ok (.iconst 0, 1) := by decide +kernel
theorem dX6_takeOperand_154 : decode cX6_takeOperand 154 = .ok (.ireturn, 1) := by decide +kernel
theorem dX6_takeSign_0 : decode cX6_takeSign 0 = .ok (.iload_n 1, 1) := by decide +kernel
theorem dX6_takeSign_1 : decode cX6_takeSign 1 = .ok (.bipush 6, 2) := by decide +kernel
theorem dX6_takeSign_3 : decode cX6_takeSign 3 = .ok (.if_icmp .ne 42, 3) := by decide +kernel
theorem dX6_takeSign_6 : decode cX6_takeSign 6 = .ok (.aload_n 0, 1) := by decide +kernel
theorem dX6_takeSign_7 : decode cX6_takeSign 7 = .ok (.getfield 19, 3) := by decide +kernel
theorem dX6_takeSign_10 : decode cX6_takeSign 10 = .ok (.ifCond .le 35, 3) := by decide +kernel
theorem dX6_takeSign_13 : decode cX6_takeSign 13 = .ok (.aload_n 0, 1) := by decide +kernel
theorem dX6_takeSign_14 : decode cX6_takeSign 14 = .ok (.iconst 1, 1) := by decide +kernel
theorem dX6_takeSign_15 : decode cX6_takeSign 15 = .ok (.aload_n 2, 1) := by decide +kernel
theorem dX6_takeSign_16 : decode cX6_takeSign 16 = .ok (.invokevirtual 70, 3) := by decide +kernel
theorem dX6_takeSign_19 : decode cX6_takeSign 19 = .ok (.aload_n 0, 1) := by decide +kernel
theorem dX6_takeSign_20 : decode cX6_takeSign 20 = .ok (.aload_n 0, 1) := by decide +kernel
theorem dX6_takeSign_21 : decode cX6_takeSign 21 = .ok (.getfield 15, 3) := by decide +kernel
theorem dX6_takeSign_24 : decode cX6_takeSign 24 = .ok (.iconst 1, 1) := by decide +kernel
theorem dX6_takeSign_25 : decode cX6_takeSign 25 = .ok (.isub, 1) := by decide +kernel
theorem dX6_takeSign_26 : decode cX6_takeSign 26 = .ok (.iconst 0, 1) := by decide +kernel
theorem dX6_takeSign_27 : decode cX6_takeSign 27 = .ok (.invokestatic 74, 3) := by decide +kernel
theorem dX6_takeSign_30 : decode cX6_takeSign 30 = .ok (.putfield 15, 3) := by decide +kernel
theorem dX6_takeSign_33 : decode cX6_takeSign 33 = .ok (.aload_n 0, 1) := by decide +kernel
theorem dX6_takeSign_34 : decode cX6_takeSign 34 = .ok (.dup, 1) := by decide +kernel
theorem dX6_takeSign_35 : decode cX6_takeSign 35 = .ok (.getfield 19, 3) := by decide +kernel
theorem dX6_takeSign_38 : decode cX6_takeSign 38 = .ok (.iconst 1, 1) := by decide +kernel
theorem dX6_takeSign_39 : decode cX6_takeSign 39 = .ok (.isub, 1) := by decide +kernel
theorem dX6_takeSign_40 : decode cX6_takeSign 40 = .ok (.putfield 19, 3) := by decide +kernel
theorem dX6_takeSign_43 : decode cX6_takeSign 43 = .ok (.iconst 0, 1) := by decide +kernel
theorem dX6_takeSign_44 : decode cX6_takeSign 44 = .ok (.ireturn, 1) := by decide +kernel
theorem dX6_takeSign_45 : decode cX6_takeSign 45 = .ok (.iload_n 1, 1) := by decide +kernel
theorem dX6_takeSign_46 : decode cX6_takeSign 46 = .ok (.bipush 34, 2) := by decide +kernel
theorem dX6_takeSign_48 : decode cX6_takeSign 48 = .ok (.if_icmp .ne 7, 3) := by decide +kernel
theorem dX6_takeSign_51 : decode cX6_takeSign 51 = .ok (.iconst 0, 1) := by decide +kernel
theorem dX6_takeSign_52 : decode cX6_takeSign 52 = .ok (.goto 7, 3) := by decide +kernel
theorem dX6_takeSign_55 : decode cX6_takeSign 55 = .ok (.iload_n 1, 1) := by decide +kernel
theorem dX6_takeSign_56 : decode cX6_takeSign 56 = .ok (.invokestatic 55, 3) := by decide +kernel
theorem dX6_takeSign_59 : decode cX6_takeSign 59 = .ok (.istore_n 3, 1) := by decide +kernel
theorem dX6_takeSign_60 : decode cX6_takeSign 60 = .ok (.iload_n 3, 1) := by decide +kernel
theorem dX6_takeSign_61 : decode cX6_takeSign 61 = .ok (.ifCond .ne 38, 3) := by decide +kernel
theorem dX6_takeSign_64 : decode cX6_takeSign 64 = .ok (.aload_n 0, 1) := by decide +kernel
theorem dX6_takeSign_65 : decode cX6_takeSign 65 = .ok (.iconst 1, 1) := by decide +kernel
theorem dX6_takeSign_66 : decode cX6_takeSign 66 = .ok (.aload_n 2, 1) := by decide +kernel
theorem dX6_takeSign_67 : decode cX6_takeSign 67 = .ok (.invokevirtual 70, 3) := by decide +kernel
theorem dX6_takeSign_70 : decode cX6_takeSign 70 = .ok (.aload_n 0, 1) := by decide +kernel
theorem dX6_takeSign_71 : decode cX6_takeSign 71 = .ok (.aload_n 0, 1) := by decide +kernel
theorem dX6_takeSign_72 : decode cX6_takeSign 72 = .ok (.getfield 19, 3) := by decide +kernel
theorem dX6_takeSign_75 : decode cX6_takeSign 75 = .ok (.ifCond .ne 7, 3) := by decide +kernel
theorem dX6_takeSign_78 : decode cX6_takeSign 78 = .ok (.iconst 1, 1) := by decide +kernel
theorem dX6_takeSign_79 : decode cX6_takeSign 79 = .ok (.goto 4, 3) := by decide +kernel
theorem dX6_takeSign_82 : decode cX6_takeSign 82 = .ok (.iconst 0, 1) := by decide +kernel
theorem dX6_takeSign_83 : decode cX6_takeSign 83 = .ok (.putfield 29, 3) := by decide +kernel
theorem dX6_takeSign_86 : decode cX6_takeSign 86 = .ok (.aload_n 0, 1) := by decide +kernel
theorem dX6_takeSign_87 : decode cX6_takeSign 87 = .ok (.getfield 29, 3) := by decide +kernel
theorem dX6_takeSign_90 : decode cX6_takeSign 90 = .ok (.ifCond .eq 7, 3) := by decide +kernel
theorem dX6_takeSign_93 : decode cX6_takeSign 93 = .ok (.iconst 0, 1) := by decide +kernel
theorem dX6_takeSign_94 : decode cX6_takeSign 94 = .ok (.goto 4, 3) := by decide +kernel
theorem dX6_takeSign_97 : decode cX6_takeSign 97 = .ok (.iconst 1, 1) := by decide +kernel
theorem dX6_takeSign_98 : decode cX6_takeSign 98 = .ok (.ireturn, 1) := by decide +kernel
theorem dX6_takeSign_99 : decode cX6_takeSign 99 = .ok (.iload_n 3, 1) := by decide +kernel
theorem dX6_takeSign_100 : decode cX6_takeSign 100 = .ok (.iconst 4, 1) := by decide +kernel
theorem dX6_takeSign_101 : decode cX6_takeSign 101 = .ok (.if_icmp .ne 36, 3) := by decide +kernel
theorem dX6_takeSign_104 : decode cX6_takeSign 104 = .ok (.aload_n 0, 1) := by decide +kernel
theorem dX6_takeSign_105 : decode cX6_takeSign 105 = .ok (.iconst 5, 1) := by decide +kernel
theorem dX6_takeSign_106 : decode cX6_takeSign 106 = .ok (.aload_n 2, 1) := by decide +kernel
theorem dX6_takeSign_107 : decode cX6_takeSign 107 = .ok (.invokevirtual 70, 3) := by decide +kernel
theorem dX6_takeSign_110 : decode cX6_takeSign 110 = .ok (.aload_n 0, 1) := by decide +kernel
theorem dX6_takeSign_111 : decode cX6_takeSign 111 = .ok (.getfield 15, 3) := by decide +kernel
theorem dX6_takeSign_114 : decode cX6_takeSign 114 = .ok (.ifCond .le 23, 3) := by decide +kernel
theorem dX6_takeSign_117 : decode cX6_takeSign 117 = .ok (.aload_n 0, 1) := by decide +kernel
theorem dX6_takeSign_118 : decode cX6_takeSign 118 = .ok (.getfield 9, 3) := by decide +kernel
theorem dX6_takeSign_121 : decode cX6_takeSign 121 = .ok (.aload_n 0, 1) := by decide +kernel
theorem dX6_takeSign_122 : decode cX6_takeSign 122 = .ok (.getfield 15, 3) := by decide +kernel
theorem dX6_takeSign_125 : decode cX6_takeSign 125 = .ok (.iconst 1, 1) := by decide +kernel
theorem dX6_takeSign_126 : decode cX6_takeSign 126 = .ok (.isub, 1) := by decide +kernel
theorem dX6_takeSign_127 : decode cX6_takeSign 127 = .ok (.iaload, 1) := by decide +kernel
theorem dX6_takeSign_128 : decode cX6_takeSign 128 = .ok (.invokestatic 55, 3) := by decide +kernel
theorem dX6_takeSign_131 : decode cX6_takeSign 131 = .ok (.iconst 4, 1) := by decide +kernel
theorem dX6_takeSign_132 : decode cX6_takeSign 132 = .ok (.if_icmp .ne 5, 3) := by decide +kernel
theorem dX6_takeSign_135 : decode cX6_takeSign 135 = .ok (.iconst 1, 1) := by decide +kernel
theorem dX6_takeSign_136 : decode cX6_takeSign 136 = .ok (.ireturn, 1) := by decide +kernel
theorem dX6_takeSign_137 : decode cX6_takeSign 137 = .ok (.aload_n 0, 1) := by decide +kernel
theorem dX6_takeSign_138 : decode cX6_takeSign 138 = .ok (.getfield 22, 3) := by decide +kernel
theorem dX6_takeSign_141 : decode cX6_takeSign 141 = .ok (.bipush 64, 2) := by decide +kernel
theorem dX6_takeSign_143 : decode cX6_takeSign 143 = .ok (.if_icmp .lt 5, 3) := by decide +kernel
theorem dX6_takeSign_146 : decode cX6_takeSign 146 = .ok (.iconst 2, 1) := by decide +kernel
theorem dX6_takeSign_147 : decode cX6_takeSign 147 = .ok (.ireturn, 1) := by decide +kernel
theorem dX6_takeSign_148 : decode cX6_takeSign 148 = .ok (.aload_n 0, 1) := by decide +kernel
theorem dX6_takeSign_149 : decode cX6_takeSign 149 = .ok (.dup, 1) := by decide +kernel
theorem dX6_takeSign_150 : decode cX6_takeSign 150 = .ok (.getfield 22, 3) := by decide +kernel
theorem dX6_takeSign_153 : decode cX6_takeSign 153 = .ok (.iconst 1, 1) := by decide +kernel
theorem dX6_takeSign_154 : decode cX6_takeSign 154 = .ok (.iadd, 1) := by decide +kernel
theorem dX6_takeSign_155 : decode cX6_takeSign 155 = .ok (.putfield 22, 3) := by decide +kernel
theorem dX6_takeSign_158 : decode cX6_takeSign 158 = .ok (.aload_n 0, 1) := by decide +kernel
theorem dX6_takeSign_159 : decode cX6_takeSign 159 = .ok (.iload_n 3, 1) := by decide +kernel
theorem dX6_takeSign_160 : decode cX6_takeSign 160 = .ok (.aload_n 2, 1) := by decide +kernel
theorem dX6_takeSign_161 : decode cX6_takeSign 161 = .ok (.invokevirtual 70, 3) := by decide +kernel
theorem dX6_takeSign_164 : decode cX6_takeSign 164 = .ok (.aload_n 0, 1) := by decide +kernel
theorem dX6_takeSign_165 : decode cX6_takeSign 165 = .ok (.iload_n 1, 1) := by decide +kernel
theorem dX6_takeSign_166 : decode cX6_takeSign 166 = .ok (.invokevirtual 51, 3) := by decide +kernel
theorem dX6_takeSign_169 : decode cX6_takeSign 169 = .ok (.aload_n 0, 1) := by decide +kernel
theorem dX6_takeSign_170 : decode cX6_takeSign 170 = .ok (.iconst 1, 1) := by decide +kernel
theorem dX6_takeSign_171 : decode cX6_takeSign 171 = .ok (.putfield 25, 3) := by decide +kernel
theorem dX6_takeSign_174 : decode cX6_takeSign 174 = .ok (.iconst 0, 1) := by decide +kernel
theorem dX6_takeSign_175 : decode cX6_takeSign 175 = .ok (.ireturn, 1) := by decide +kernel
theorem dX6_push_0 : decode cX6_push 0 = .ok (.aload_n 0, 1) := by decide +kernel
theorem dX6_push_1 : decode cX6_push 1 = .ok (.getfield 15, 3) := by decide +kernel
theorem dX6_push_4 : decode cX6_push 4 = .ok (.aload_n 0, 1) := by decide +kernel
theorem dX6_push_5 : decode cX6_push 5 = .ok (.getfield 9, 3) := by decide +kernel
theorem dX6_push_8 : decode cX6_push 8 = .ok (.arraylength, 1) := by decide +kernel
theorem dX6_push_9 : decode cX6_push 9 = .ok (.if_icmp .ge 23, 3) := by decide +kernel
theorem dX6_push_12 : decode cX6_push 12 = .ok (.aload_n 0, 1) := by decide +kernel
theorem dX6_push_13 : decode cX6_push 13 = .ok (.getfield 9, 3) := by decide +kernel
theorem dX6_push_16 : decode cX6_push 16 = .ok (.aload_n 0, 1) := by decide +kernel
theorem dX6_push_17 : decode cX6_push 17 = .ok (.getfield 15, 3) := by decide +kernel
theorem dX6_push_20 : decode cX6_push 20 = .ok (.iload_n 1, 1) := by decide +kernel
theorem dX6_push_21 : decode cX6_push 21 = .ok (.iastore, 1) := by decide +kernel
theorem dX6_push_22 : decode cX6_push 22 = .ok (.aload_n 0, 1) := by decide +kernel
theorem dX6_push_23 : decode cX6_push 23 = .ok (.dup, 1) := by decide +kernel
theorem dX6_push_24 : decode cX6_push 24 = .ok (.getfield 15, 3) := by decide +kernel
theorem dX6_push_27 : decode cX6_push 27 = .ok (.iconst 1, 1) := by decide +kernel
theorem dX6_push_28 : decode cX6_push 28 = .ok (.iadd, 1) := by decide +kernel
theorem dX6_push_29 : decode cX6_push 29 = .ok (.putfield 15, 3) := by decide +kernel
theorem dX6_push_32 : decode cX6_push 32 = .ok (.return_, 1) := by decide +kernel
theorem dX6_settle_0 : decode cX6_settle 0 = .ok (.aload_n 0, 1) := by decide +kernel
theorem dX6_settle_1 : decode cX6_settle 1 = .ok (.getfield 15, 3) := by decide +kernel
theorem dX6_settle_4 : decode cX6_settle 4 = .ok (.ifCond .le 48, 3) := by decide +kernel
theorem dX6_settle_7 : decode cX6_settle 7 = .ok (.aload_n 0, 1) := by decide +kernel
theorem dX6_settle_8 : decode cX6_settle 8 = .ok (.getfield 9, 3) := by decide +kernel
theorem dX6_settle_11 : decode cX6_settle 11 = .ok (.aload_n 0, 1) := by decide +kernel
theorem dX6_settle_12 : decode cX6_settle 12 = .ok (.getfield 15, 3) := by decide +kernel
theorem dX6_settle_15 : decode cX6_settle 15 = .ok (.iconst 1, 1) := by decide +kernel
theorem dX6_settle_16 : decode cX6_settle 16 = .ok (.isub, 1) := by decide +kernel
theorem dX6_settle_17 : decode cX6_settle 17 = .ok (.iaload, 1) := by decide +kernel
theorem dX6_settle_18 : decode cX6_settle 18 = .ok (.invokestatic 55, 3) := by decide +kernel
theorem dX6_settle_21 : decode cX6_settle 21 = .ok (.iload_n 1, 1) := by decide +kernel
theorem dX6_settle_22 : decode cX6_settle 22 = .ok (.if_icmp .lt 30, 3) := by decide +kernel
theorem dX6_settle_25 : decode cX6_settle 25 = .ok (.aload_n 0, 1) := by decide +kernel
theorem dX6_settle_26 : decode cX6_settle 26 = .ok (.dup, 1) := by decide +kernel
theorem dX6_settle_27 : decode cX6_settle 27 = .ok (.getfield 15, 3) := by decide +kernel
theorem dX6_settle_30 : decode cX6_settle 30 = .ok (.iconst 1, 1) := by decide +kernel
theorem dX6_settle_31 : decode cX6_settle 31 = .ok (.isub, 1) := by decide +kernel
theorem dX6_settle_32 : decode cX6_settle 32 = .ok (.putfield 15, 3) := by decide +kernel
theorem dX6_settle_35 : decode cX6_settle 35 = .ok (.aload_n 2, 1) := by decide +kernel
theorem dX6_settle_36 : decode cX6_settle 36 = .ok (.aload_n 0, 1) := by decide +kernel
theorem dX6_settle_37 : decode cX6_settle 37 = .ok (.getfield 9, 3) := by decide +kernel
theorem dX6_settle_40 : decode cX6_settle 40 = .ok (.aload_n 0, 1) := by decide +kernel
theorem dX6_settle_41 : decode cX6_settle 41 = .ok (.getfield 15, 3) := by decide +kernel
theorem dX6_settle_44 : decode cX6_settle 44 = .ok (.iaload, 1) := by decide +kernel
theorem dX6_settle_45 : decode cX6_settle 45 = .ok (.iconst 0, 1) := by decide +kernel
theorem dX6_settle_46 : decode cX6_settle 46 = .ok (.invokevirtual 66, 3) := by decide +kernel
theorem dX6_settle_49 : decode cX6_settle 49 = .ok (.goto (-49), 3) := by decide +kernel
theorem dX6_settle_52 : decode cX6_settle 52 = .ok (.return_, 1) := by decide +kernel
theorem dX6_rankOf_0 : decode cX6_rankOf 0 = .ok (.iload_n 0, 1) := by decide +kernel
theorem dX6_rankOf_1 : decode cX6_rankOf 1 = .ok (.tableswitch 140 7 34 #[135, 135, 137, 137, 133, 133, 133, 133, 133, 133, 140, 140, 140, 140, 140, 140, 140, 140, 140, 140, 140, 140, 140, 140, 140, 127, 129, 131], 127) := by decide +kernel
theorem dX6_rankOf_128 : decode cX6_rankOf 128 = .ok (.iconst 1, 1) := by decide +kernel
theorem dX6_rankOf_129 : decode cX6_rankOf 129 = .ok (.ireturn, 1) := by decide +kernel
theorem dX6_rankOf_130 : decode cX6_rankOf 130 = .ok (.iconst 2, 1) := by decide +kernel
theorem dX6_rankOf_131 : decode cX6_rankOf 131 = .ok (.ireturn, 1) := by decide +kernel
theorem dX6_rankOf_132 : decode cX6_rankOf 132 = .ok (.iconst 3, 1) := by decide +kernel
theorem dX6_rankOf_133 : decode cX6_rankOf 133 = .ok (.ireturn, 1) := by decide +kernel
theorem dX6_rankOf_134 : decode cX6_rankOf 134 = .ok (.iconst 4, 1) := by decide +kernel
theorem dX6_rankOf_135 : decode cX6_rankOf 135 = .ok (.ireturn, 1) := by decide +kernel
theorem dX6_rankOf_136 : decode cX6_rankOf 136 = .ok (.iconst 5, 1) := by decide +kernel
theorem dX6_rankOf_137 : decode cX6_rankOf 137 = .ok (.ireturn, 1) := by decide +kernel
theorem dX6_rankOf_138 : decode cX6_rankOf 138 = .ok (.bipush 6, 2) := by decide +kernel
theorem dX6_rankOf_140 : decode cX6_rankOf 140 = .ok (.ireturn, 1) := by decide +kernel
theorem dX6_rankOf_141 : decode cX6_rankOf 141 = .ok (.iconst 0, 1) := by decide +kernel
theorem dX6_rankOf_142 : decode cX6_rankOf 142 = .ok (.ireturn, 1) := by decide +kernel
theorem dX7_init_0 : decode cX7_init 0 = .ok (.aload_n 0, 1) := by decide +kernel
theorem dX7_init_1 : decode cX7_init 1 = .ok (.invokespecial 3, 3) := by decide +kernel
theorem dX7_init_4 : decode cX7_init 4 = .ok (.aload_n 0, 1) := by decide +kernel
theorem dX7_init_5 : decode cX7_init 5 = .ok (.bipush 8, 2) := by decide +kernel
theorem dX7_init_7 : decode cX7_init 7 = .ok (.newarray .int, 2) := by decide +kernel
theorem dX7_init_9 : decode cX7_init 9 = .ok (.putfield 9, 3) := by decide +kernel
theorem dX7_init_12 : decode cX7_init 12 = .ok (.aload_n 0, 1) := by decide +kernel
theorem dX7_init_13 : decode cX7_init 13 = .ok (.iconst 0, 1) := by decide +kernel
theorem dX7_init_14 : decode cX7_init 14 = .ok (.putfield 15, 3) := by decide +kernel
theorem dX7_init_17 : decode cX7_init 17 = .ok (.return_, 1) := by decide +kernel
theorem dX7_put_0 : decode cX7_put 0 = .ok (.aload_n 0, 1) := by decide +kernel
theorem dX7_put_1 : decode cX7_put 1 = .ok (.getfield 15, 3) := by decide +kernel
theorem dX7_put_4 : decode cX7_put 4 = .ok (.bipush 8, 2) := by decide +kernel
theorem dX7_put_6 : decode cX7_put 6 = .ok (.if_icmp .ge 23, 3) := by decide +kernel
theorem dX7_put_9 : decode cX7_put 9 = .ok (.aload_n 0, 1) := by decide +kernel
theorem dX7_put_10 : decode cX7_put 10 = .ok (.getfield 9, 3) := by decide +kernel
theorem dX7_put_13 : decode cX7_put 13 = .ok (.aload_n 0, 1) := by decide +kernel
theorem dX7_put_14 : decode cX7_put 14 = .ok (.getfield 15, 3) := by decide +kernel
theorem dX7_put_17 : decode cX7_put 17 = .ok (.iload_n 1, 1) := by decide +kernel
theorem dX7_put_18 : decode cX7_put 18 = .ok (.iastore, 1) := by decide +kernel
theorem dX7_put_19 : decode cX7_put 19 = .ok (.aload_n 0, 1) := by decide +kernel
theorem dX7_put_20 : decode cX7_put 20 = .ok (.dup, 1) := by decide +kernel
theorem dX7_put_21 : decode cX7_put 21 = .ok (.getfield 15, 3) := by decide +kernel
theorem dX7_put_24 : decode cX7_put 24 = .ok (.iconst 1, 1) := by decide +kernel
theorem dX7_put_25 : decode cX7_put 25 = .ok (.iadd, 1) := by decide +kernel
theorem dX7_put_26 : decode cX7_put 26 = .ok (.putfield 15, 3) := by decide +kernel
theorem dX7_put_29 : decode cX7_put 29 = .ok (.return_, 1) := by decide +kernel
theorem dX7_binOf_0 : decode cX7_binOf 0 = .ok (.iload_n 1, 1) := by decide +kernel
theorem dX7_binOf_1 : decode cX7_binOf 1 = .ok (.ifCond .lt 13, 3) := by decide +kernel
theorem dX7_binOf_4 : decode cX7_binOf 4 = .ok (.iload_n 1, 1) := by decide +kernel
theorem dX7_binOf_5 : decode cX7_binOf 5 = .ok (.bipush 8, 2) := by decide +kernel
theorem dX7_binOf_7 : decode cX7_binOf 7 = .ok (.if_icmp .ge 7, 3) := by decide +kernel
theorem dX7_binOf_10 : decode cX7_binOf 10 = .ok (.iload_n 2, 1) := by decide +kernel
theorem dX7_binOf_11 : decode cX7_binOf 11 = .ok (.ifCond .gt 5, 3) := by decide +kernel
theorem dX7_binOf_14 : decode cX7_binOf 14 = .ok (.iconst 0, 1) := by decide +kernel
theorem dX7_binOf_15 : decode cX7_binOf 15 = .ok (.ireturn, 1) := by decide +kernel
theorem dX7_binOf_16 : decode cX7_binOf 16 = .ok (.bipush 12, 2) := by decide +kernel
theorem dX7_binOf_18 : decode cX7_binOf 18 = .ok (.aload_n 0, 1) := by decide +kernel
theorem dX7_binOf_19 : decode cX7_binOf 19 = .ok (.getfield 9, 3) := by decide +kernel
theorem dX7_binOf_22 : decode cX7_binOf 22 = .ok (.iload_n 1, 1) := by decide +kernel
theorem dX7_binOf_23 : decode cX7_binOf 23 = .ok (.iaload, 1) := by decide +kernel
theorem dX7_binOf_24 : decode cX7_binOf 24 = .ok (.iload_n 2, 1) := by decide +kernel
theorem dX7_binOf_25 : decode cX7_binOf 25 = .ok (.invokestatic 19, 3) := by decide +kernel
theorem dX7_binOf_28 : decode cX7_binOf 28 = .ok (.imul, 1) := by decide +kernel
theorem dX7_binOf_29 : decode cX7_binOf 29 = .ok (.iload_n 2, 1) := by decide +kernel
theorem dX7_binOf_30 : decode cX7_binOf 30 = .ok (.idiv, 1) := by decide +kernel
theorem dX7_binOf_31 : decode cX7_binOf 31 = .ok (.iconst 5, 1) := by decide +kernel
theorem dX7_binOf_32 : decode cX7_binOf 32 = .ok (.invokestatic 23, 3) := by decide +kernel
theorem dX7_binOf_35 : decode cX7_binOf 35 = .ok (.ireturn, 1) := by decide +kernel
theorem dX7_sumOfLumps_0 : decode cX7_sumOfLumps 0 = .ok (.iconst 0, 1) := by decide +kernel
theorem dX7_sumOfLumps_1 : decode cX7_sumOfLumps 1 = .ok (.istore_n 2, 1) := by decide +kernel
theorem dX7_sumOfLumps_2 : decode cX7_sumOfLumps 2 = .ok (.iconst 0, 1) := by decide +kernel
theorem dX7_sumOfLumps_3 : decode cX7_sumOfLumps 3 = .ok (.istore_n 3, 1) := by decide +kernel
theorem dX7_sumOfLumps_4 : decode cX7_sumOfLumps 4 = .ok (.iload_n 3, 1) := by decide +kernel
theorem dX7_sumOfLumps_5 : decode cX7_sumOfLumps 5 = .ok (.aload_n 0, 1) := by decide +kernel
theorem dX7_sumOfLumps_6 : decode cX7_sumOfLumps 6 = .ok (.getfield 15, 3) := by decide +kernel
theorem dX7_sumOfLumps_9 : decode cX7_sumOfLumps 9 = .ok (.if_icmp .ge 32, 3) := by decide +kernel
