theorem dX10_found_25 : decode cX10_found 25 = .ok (.goto (-22), 3) := by decide +kernel
theorem dX10_found_28 : decode cX10_found 28 = .ok (.iconst (-1), 1) := by decide +kernel
theorem dX10_found_29 : decode cX10_found 29 = .ok (.ireturn, 1) := by decide +kernel
theorem dX10_fresh_0 : decode cX10_fresh 0 = .ok (.aload_n 0, 1) := by decide +kernel
theorem dX10_fresh_1 : decode cX10_fresh 1 = .ok (.getfield 207, 3) := by decide +kernel
theorem dX10_fresh_4 : decode cX10_fresh 4 = .ok (.ifCond .eq 5, 3) := by decide +kernel
theorem dX10_fresh_7 : decode cX10_fresh 7 = .ok (.iconst 0, 1) := by decide +kernel
theorem dX10_fresh_8 : decode cX10_fresh 8 = .ok (.ireturn, 1) := by decide +kernel
theorem dX10_fresh_9 : decode cX10_fresh 9 = .ok (.aload_n 0, 1) := by decide +kernel
theorem dX10_fresh_10 : decode cX10_fresh 10 = .ok (.getfield 172, 3) := by decide +kernel
theorem dX10_fresh_13 : decode cX10_fresh 13 = .ok (.iconst 1, 1) := by decide +kernel
theorem dX10_fresh_14 : decode cX10_fresh 14 = .ok (.if_icmp .eq 11, 3) := by decide +kernel
theorem dX10_fresh_17 : decode cX10_fresh 17 = .ok (.aload_n 0, 1) := by decide +kernel
theorem dX10_fresh_18 : decode cX10_fresh 18 = .ok (.iconst 1, 1) := by decide +kernel
theorem dX10_fresh_19 : decode cX10_fresh 19 = .ok (.invokevirtual 216, 3) := by decide +kernel
theorem dX10_fresh_22 : decode cX10_fresh 22 = .ok (.goto 22, 3) := by decide +kernel
theorem dX10_fresh_25 : decode cX10_fresh 25 = .ok (.aload_n 1, 1) := by decide +kernel
theorem dX10_fresh_26 : decode cX10_fresh 26 = .ok (.iload_n 2, 1) := by decide +kernel
theorem dX10_fresh_27 : decode cX10_fresh 27 = .ok (.iload_n 3, 1) := by decide +kernel
theorem dX10_fresh_28 : decode cX10_fresh 28 = .ok (.aload_n 0, 1) := by decide +kernel
theorem dX10_fresh_29 : decode cX10_fresh 29 = .ok (.getfield 182, 3) := by decide +kernel
theorem dX10_fresh_32 : decode cX10_fresh 32 = .ok (.invokestatic 226, 3) := by decide +kernel
theorem dX10_fresh_35 : decode cX10_fresh 35 = .ok (.iconst (-1), 1) := by decide +kernel
theorem dX10_fresh_36 : decode cX10_fresh 36 = .ok (.if_icmp .eq 8, 3) := by decide +kernel
theorem dX10_fresh_39 : decode cX10_fresh 39 = .ok (.aload_n 0, 1) := by decide +kernel
theorem dX10_fresh_40 : decode cX10_fresh 40 = .ok (.iconst 3, 1) := by decide +kernel
theorem dX10_fresh_41 : decode cX10_fresh 41 = .ok (.invokevirtual 216, 3) := by decide +kernel
theorem dX10_fresh_44 : decode cX10_fresh 44 = .ok (.aload_n 0, 1) := by decide +kernel
theorem dX10_fresh_45 : decode cX10_fresh 45 = .ok (.getfield 207, 3) := by decide +kernel
theorem dX10_fresh_48 : decode cX10_fresh 48 = .ok (.ifCond .eq 5, 3) := by decide +kernel
theorem dX10_fresh_51 : decode cX10_fresh 51 = .ok (.iconst 0, 1) := by decide +kernel
theorem dX10_fresh_52 : decode cX10_fresh 52 = .ok (.ireturn, 1) := by decide +kernel
theorem dX10_fresh_53 : decode cX10_fresh 53 = .ok (.aload_n 0, 1) := by decide +kernel
theorem dX10_fresh_54 : decode cX10_fresh 54 = .ok (.getfield 182, 3) := by decide +kernel
theorem dX10_fresh_57 : decode cX10_fresh 57 = .ok (.istore 4, 2) := by decide +kernel
theorem dX10_fresh_59 : decode cX10_fresh 59 = .ok (.aload_n 0, 1) := by decide +kernel
theorem dX10_fresh_60 : decode cX10_fresh 60 = .ok (.invokevirtual 213, 3) := by decide +kernel
theorem dX10_fresh_63 : decode cX10_fresh 63 = .ok (.iload 4, 2) := by decide +kernel
theorem dX10_fresh_65 : decode cX10_fresh 65 = .ok (.ireturn, 1) := by decide +kernel
theorem dX10_toldAhead_0 : decode cX10_toldAhead 0 = .ok (.aload_n 0, 1) := by decide +kernel
theorem dX10_toldAhead_1 : decode cX10_toldAhead 1 = .ok (.getfield 207, 3) := by decide +kernel
theorem dX10_toldAhead_4 : decode cX10_toldAhead 4 = .ok (.ifCond .eq 5, 3) := by decide +kernel
theorem dX10_toldAhead_7 : decode cX10_toldAhead 7 = .ok (.iconst 0, 1) := by decide +kernel
theorem dX10_toldAhead_8 : decode cX10_toldAhead 8 = .ok (.ireturn, 1) := by decide +kernel
theorem dX10_toldAhead_9 : decode cX10_toldAhead 9 = .ok (.aload_n 0, 1) := by decide +kernel
theorem dX10_toldAhead_10 : decode cX10_toldAhead 10 = .ok (.getfield 172, 3) := by decide +kernel
theorem dX10_toldAhead_13 : decode cX10_toldAhead 13 = .ok (.iconst 1, 1) := by decide +kernel
theorem dX10_toldAhead_14 : decode cX10_toldAhead 14 = .ok (.if_icmp .eq 11, 3) := by decide +kernel
theorem dX10_toldAhead_17 : decode cX10_toldAhead 17 = .ok (.aload_n 0, 1) := by decide +kernel
theorem dX10_toldAhead_18 : decode cX10_toldAhead 18 = .ok (.iconst 1, 1) := by decide +kernel
theorem dX10_toldAhead_19 : decode cX10_toldAhead 19 = .ok (.invokevirtual 216, 3) := by decide +kernel
theorem dX10_toldAhead_22 : decode cX10_toldAhead 22 = .ok (.goto 22, 3) := by decide +kernel
theorem dX10_toldAhead_25 : decode cX10_toldAhead 25 = .ok (.aload_n 1, 1) := by decide +kernel
theorem dX10_toldAhead_26 : decode cX10_toldAhead 26 = .ok (.iload_n 2, 1) := by decide +kernel
theorem dX10_toldAhead_27 : decode cX10_toldAhead 27 = .ok (.iload_n 3, 1) := by decide +kernel
theorem dX10_toldAhead_28 : decode cX10_toldAhead 28 = .ok (.aload_n 0, 1) := by decide +kernel
theorem dX10_toldAhead_29 : decode cX10_toldAhead 29 = .ok (.getfield 182, 3) := by decide +kernel
theorem dX10_toldAhead_32 : decode cX10_toldAhead 32 = .ok (.invokestatic 226, 3) := by decide +kernel
theorem dX10_toldAhead_35 : decode cX10_toldAhead 35 = .ok (.iconst (-1), 1) := by decide +kernel
theorem dX10_toldAhead_36 : decode cX10_toldAhead 36 = .ok (.if_icmp .ne 8, 3) := by decide +kernel
theorem dX10_toldAhead_39 : decode cX10_toldAhead 39 = .ok (.aload_n 0, 1) := by decide +kernel
theorem dX10_toldAhead_40 : decode cX10_toldAhead 40 = .ok (.iconst 4, 1) := by decide +kernel
theorem dX10_toldAhead_41 : decode cX10_toldAhead 41 = .ok (.invokevirtual 216, 3) := by decide +kernel
theorem dX10_toldAhead_44 : decode cX10_toldAhead 44 = .ok (.aload_n 0, 1) := by decide +kernel
theorem dX10_toldAhead_45 : decode cX10_toldAhead 45 = .ok (.getfield 207, 3) := by decide +kernel
theorem dX10_toldAhead_48 : decode cX10_toldAhead 48 = .ok (.ifCond .eq 5, 3) := by decide +kernel
theorem dX10_toldAhead_51 : decode cX10_toldAhead 51 = .ok (.iconst 0, 1) := by decide +kernel
theorem dX10_toldAhead_52 : decode cX10_toldAhead 52 = .ok (.ireturn, 1) := by decide +kernel
theorem dX10_toldAhead_53 : decode cX10_toldAhead 53 = .ok (.aload_n 1, 1) := by decide +kernel
theorem dX10_toldAhead_54 : decode cX10_toldAhead 54 = .ok (.iload_n 2, 1) := by decide +kernel
theorem dX10_toldAhead_55 : decode cX10_toldAhead 55 = .ok (.iload_n 3, 1) := by decide +kernel
theorem dX10_toldAhead_56 : decode cX10_toldAhead 56 = .ok (.aload_n 0, 1) := by decide +kernel
theorem dX10_toldAhead_57 : decode cX10_toldAhead 57 = .ok (.getfield 182, 3) := by decide +kernel
theorem dX10_toldAhead_60 : decode cX10_toldAhead 60 = .ok (.invokestatic 226, 3) := by decide +kernel
theorem dX10_toldAhead_63 : decode cX10_toldAhead 63 = .ok (.istore 4, 2) := by decide +kernel
theorem dX10_toldAhead_65 : decode cX10_toldAhead 65 = .ok (.aload_n 0, 1) := by decide +kernel
theorem dX10_toldAhead_66 : decode cX10_toldAhead 66 = .ok (.invokevirtual 213, 3) := by decide +kernel
theorem dX10_toldAhead_69 : decode cX10_toldAhead 69 = .ok (.iload 4, 2) := by decide +kernel
theorem dX10_toldAhead_71 : decode cX10_toldAhead 71 = .ok (.ireturn, 1) := by decide +kernel
theorem dX10_isFull_0 : decode cX10_isFull 0 = .ok (.iload_n 1, 1) := by decide +kernel
theorem dX10_isFull_1 : decode cX10_isFull 1 = .ok (.ifCond .ne 11, 3) := by decide +kernel
theorem dX10_isFull_4 : decode cX10_isFull 4 = .ok (.aload_n 0, 1) := by decide +kernel
theorem dX10_isFull_5 : decode cX10_isFull 5 = .ok (.getfield 230, 3) := by decide +kernel
theorem dX10_isFull_8 : decode cX10_isFull 8 = .ok (.iconst 4, 1) := by decide +kernel
theorem dX10_isFull_9 : decode cX10_isFull 9 = .ok (.if_icmp .eq 44, 3) := by decide +kernel
theorem dX10_isFull_12 : decode cX10_isFull 12 = .ok (.iload_n 1, 1) := by decide +kernel
theorem dX10_isFull_13 : decode cX10_isFull 13 = .ok (.iconst 1, 1) := by decide +kernel
theorem dX10_isFull_14 : decode cX10_isFull 14 = .ok (.if_icmp .ne 12, 3) := by decide +kernel
theorem dX10_isFull_17 : decode cX10_isFull 17 = .ok (.aload_n 0, 1) := by decide +kernel
theorem dX10_isFull_18 : decode cX10_isFull 18 = .ok (.getfield 233, 3) := by decide +kernel
theorem dX10_isFull_21 : decode cX10_isFull 21 = .ok (.bipush 8, 2) := by decide +kernel
theorem dX10_isFull_23 : decode cX10_isFull 23 = .ok (.if_icmp .eq 30, 3) := by decide +kernel
theorem dX10_isFull_26 : decode cX10_isFull 26 = .ok (.iload_n 1, 1) := by decide +kernel
theorem dX10_isFull_27 : decode cX10_isFull 27 = .ok (.iconst 2, 1) := by decide +kernel
theorem dX10_isFull_28 : decode cX10_isFull 28 = .ok (.if_icmp .ne 11, 3) := by decide +kernel
theorem dX10_isFull_31 : decode cX10_isFull 31 = .ok (.aload_n 0, 1) := by decide +kernel
theorem dX10_isFull_32 : decode cX10_isFull 32 = .ok (.getfield 236, 3) := by decide +kernel
theorem dX10_isFull_35 : decode cX10_isFull 35 = .ok (.iconst 5, 1) := by decide +kernel
theorem dX10_isFull_36 : decode cX10_isFull 36 = .ok (.if_icmp .eq 17, 3) := by decide +kernel
theorem dX10_isFull_39 : decode cX10_isFull 39 = .ok (.iload_n 1, 1) := by decide +kernel
theorem dX10_isFull_40 : decode cX10_isFull 40 = .ok (.iconst 4, 1) := by decide +kernel
theorem dX10_isFull_41 : decode cX10_isFull 41 = .ok (.if_icmp .ne 16, 3) := by decide +kernel
theorem dX10_isFull_44 : decode cX10_isFull 44 = .ok (.aload_n 0, 1) := by decide +kernel
theorem dX10_isFull_45 : decode cX10_isFull 45 = .ok (.getfield 239, 3) := by decide +kernel
theorem dX10_isFull_48 : decode cX10_isFull 48 = .ok (.bipush 20, 2) := by decide +kernel
theorem dX10_isFull_50 : decode cX10_isFull 50 = .ok (.if_icmp .ne 7, 3) := by decide +kernel
theorem dX10_isFull_53 : decode cX10_isFull 53 = .ok (.iconst 1, 1) := by decide +kernel
theorem dX10_isFull_54 : decode cX10_isFull 54 = .ok (.goto 4, 3) := by decide +kernel
theorem dX10_isFull_57 : decode cX10_isFull 57 = .ok (.iconst 0, 1) := by decide +kernel
theorem dX10_isFull_58 : decode cX10_isFull 58 = .ok (.ireturn, 1) := by decide +kernel
theorem dX10_line_0 : decode cX10_line 0 = .ok (.aload_n 0, 1) := by decide +kernel
theorem dX10_line_1 : decode cX10_line 1 = .ok (.getfield 172, 3) := by decide +kernel
theorem dX10_line_4 : decode cX10_line 4 = .ok (.ifCond .ne 12, 3) := by decide +kernel
theorem dX10_line_7 : decode cX10_line 7 = .ok (.aload_n 0, 1) := by decide +kernel
theorem dX10_line_8 : decode cX10_line 8 = .ok (.getfield 182, 3) := by decide +kernel
theorem dX10_line_11 : decode cX10_line 11 = .ok (.bipush 6, 2) := by decide +kernel
theorem dX10_line_13 : decode cX10_line 13 = .ok (.if_icmp .le 9, 3) := by decide +kernel
theorem dX10_line_16 : decode cX10_line 16 = .ok (.aload_n 0, 1) := by decide +kernel
theorem dX10_line_17 : decode cX10_line 17 = .ok (.iconst 1, 1) := by decide +kernel
theorem dX10_line_18 : decode cX10_line 18 = .ok (.invokevirtual 216, 3) := by decide +kernel
theorem dX10_line_21 : decode cX10_line 21 = .ok (.return_, 1) := by decide +kernel
theorem dX10_line_22 : decode cX10_line 22 = .ok (.aload_n 0, 1) := by decide +kernel
theorem dX10_line_23 : decode cX10_line 23 = .ok (.getfield 182, 3) := by decide +kernel
theorem dX10_line_26 : decode cX10_line 26 = .ok (.istore_n 1, 1) := by decide +kernel
theorem dX10_line_27 : decode cX10_line 27 = .ok (.aload_n 0, 1) := by decide +kernel
theorem dX10_line_28 : decode cX10_line 28 = .ok (.iload_n 1, 1) := by decide +kernel
theorem dX10_line_29 : decode cX10_line 29 = .ok (.invokevirtual 242, 3) := by decide +kernel
theorem dX10_line_32 : decode cX10_line 32 = .ok (.ifCond .eq 11, 3) := by decide +kernel
theorem dX10_line_35 : decode cX10_line 35 = .ok (.aload_n 0, 1) := by decide +kernel
theorem dX10_line_36 : decode cX10_line 36 = .ok (.iconst 2, 1) := by decide +kernel
theorem dX10_line_37 : decode cX10_line 37 = .ok (.invokevirtual 216, 3) := by decide +kernel
theorem dX10_line_40 : decode cX10_line 40 = .ok (.goto 30, 3) := by decide +kernel
theorem dX10_line_43 : decode cX10_line 43 = .ok (.iload_n 1, 1) := by decide +kernel
theorem dX10_line_44 : decode cX10_line 44 = .ok (.iconst 3, 1) := by decide +kernel
theorem dX10_line_45 : decode cX10_line 45 = .ok (.if_icmp .eq 8, 3) := by decide +kernel
theorem dX10_line_48 : decode cX10_line 48 = .ok (.iload_n 1, 1) := by decide +kernel
theorem dX10_line_49 : decode cX10_line 49 = .ok (.iconst 5, 1) := by decide +kernel
theorem dX10_line_50 : decode cX10_line 50 = .ok (.if_icmp .lt 20, 3) := by decide +kernel
theorem dX10_line_53 : decode cX10_line 53 = .ok (.aload_n 0, 1) := by decide +kernel
theorem dX10_line_54 : decode cX10_line 54 = .ok (.getfield 245, 3) := by decide +kernel
theorem dX10_line_57 : decode cX10_line 57 = .ok (.iload_n 1, 1) := by decide +kernel
theorem dX10_line_58 : decode cX10_line 58 = .ok (.ishr, 1) := by decide +kernel
theorem dX10_line_59 : decode cX10_line 59 = .ok (.iconst 1, 1) := by decide +kernel
theorem dX10_line_60 : decode cX10_line 60 = .ok (.iand, 1) := by decide +kernel
theorem dX10_line_61 : decode cX10_line 61 = .ok (.iconst 1, 1) := by decide +kernel
theorem dX10_line_62 : decode cX10_line 62 = .ok (.if_icmp .ne 8, 3) := by decide +kernel
theorem dX10_line_65 : decode cX10_line 65 = .ok (.aload_n 0, 1) := by decide +kernel
theorem dX10_line_66 : decode cX10_line 66 = .ok (.iconst 3, 1) := by decide +kernel
theorem dX10_line_67 : decode cX10_line 67 = .ok (.invokevirtual 216, 3) := by decide +kernel
theorem dX10_line_70 : decode cX10_line 70 = .ok (.aload_n 0, 1) := by decide +kernel
theorem dX10_line_71 : decode cX10_line 71 = .ok (.getfield 207, 3) := by decide +kernel
theorem dX10_line_74 : decode cX10_line 74 = .ok (.ifCond .eq 4, 3) := by decide +kernel
theorem dX10_line_77 : decode cX10_line 77 = .ok (.return_, 1) := by decide +kernel
theorem dX10_line_78 : decode cX10_line 78 = .ok (.aload_n 0, 1) := by decide +kernel
theorem dX10_line_79 : decode cX10_line 79 = .ok (.dup, 1) := by decide +kernel
theorem dX10_line_80 : decode cX10_line 80 = .ok (.getfield 245, 3) := by decide +kernel
theorem dX10_line_83 : decode cX10_line 83 = .ok (.iconst 1, 1) := by decide +kernel
theorem dX10_line_84 : decode cX10_line 84 = .ok (.iload_n 1, 1) := by decide +kernel
theorem dX10_line_85 : decode cX10_line 85 = .ok (.ishl, 1) := by decide +kernel
theorem dX10_line_86 : decode cX10_line 86 = .ok (.ior, 1) := by decide +kernel
theorem dX10_line_87 : decode cX10_line 87 = .ok (.putfield 245, 3) := by decide +kernel
theorem dX10_line_90 : decode cX10_line 90 = .ok (.aload_n 0, 1) := by decide +kernel
theorem dX10_line_91 : decode cX10_line 91 = .ok (.invokevirtual 213, 3) := by decide +kernel
theorem dX10_line_94 : decode cX10_line 94 = .ok (.iload_n 1, 1) := by decide +kernel
theorem dX10_line_95 : decode cX10_line 95 = .ok (.tableswitch 147 0 5 #[37, 74, 88, 101, 108, 122], 37) := by decide +kernel
theorem dX10_line_132 : decode cX10_line 132 = .ok (.aload_n 0, 1) := by decide +kernel
theorem dX10_line_133 : decode cX10_line 133 = .ok (.getfield 15, 3) := by decide +kernel
theorem dX10_line_136 : decode cX10_line 136 = .ok (.iconst 4, 1) := by decide +kernel
theorem dX10_line_137 : decode cX10_line 137 = .ok (.aload_n 0, 1) := by decide +kernel
theorem dX10_line_138 : decode cX10_line 138 = .ok (.getfield 230, 3) := by decide +kernel
theorem dX10_line_141 : decode cX10_line 141 = .ok (.iadd, 1) := by decide +kernel
theorem dX10_line_142 : decode cX10_line 142 = .ok (.aload_n 0, 1) := by decide +kernel
theorem dX10_line_143 : decode cX10_line 143 = .ok (.aload_n 0, 1) := by decide +kernel
theorem dX10_line_144 : decode cX10_line 144 = .ok (.getfield 15, 3) := by decide +kernel
theorem dX10_line_147 : decode cX10_line 147 = .ok (.iconst 4, 1) := by decide +kernel
theorem dX10_line_148 : decode cX10_line 148 = .ok (.aload_n 0, 1) := by decide +kernel
theorem dX10_line_149 : decode cX10_line 149 = .ok (.getfield 230, 3) := by decide +kernel
theorem dX10_line_152 : decode cX10_line 152 = .ok (.invokevirtual 248, 3) := by decide +kernel
theorem dX10_line_155 : decode cX10_line 155 = .ok (.iastore, 1) := by decide +kernel
theorem dX10_line_156 : decode cX10_line 156 = .ok (.aload_n 0, 1) := by decide +kernel
theorem dX10_line_157 : decode cX10_line 157 = .ok (.dup, 1) := by decide +kernel
theorem dX10_line_158 : decode cX10_line 158 = .ok (.getfield 230, 3) := by decide +kernel
theorem dX10_line_161 : decode cX10_line 161 = .ok (.iconst 1, 1) := by decide +kernel
theorem dX10_line_162 : decode cX10_line 162 = .ok (.iadd, 1) := by decide +kernel
theorem dX10_line_163 : decode cX10_line 163 = .ok (.putfield 230, 3) := by decide +kernel
theorem dX10_line_166 : decode cX10_line 166 = .ok (.goto 88, 3) := by decide +kernel
theorem dX10_line_169 : decode cX10_line 169 = .ok (.aload_n 0, 1) := by decide +kernel
theorem dX10_line_170 : decode cX10_line 170 = .ok (.bipush 8, 2) := by decide +kernel
theorem dX10_line_172 : decode cX10_line 172 = .ok (.aload_n 0, 1) := by decide +kernel
theorem dX10_line_173 : decode cX10_line 173 = .ok (.getfield 233, 3) := by decide +kernel
theorem dX10_line_176 : decode cX10_line 176 = .ok (.iadd, 1) := by decide +kernel
theorem dX10_line_177 : decode cX10_line 177 = .ok (.invokevirtual 252, 3) := by decide +kernel
theorem dX10_line_180 : decode cX10_line 180 = .ok (.goto 74, 3) := by decide +kernel
theorem dX10_line_183 : decode cX10_line 183 = .ok (.aload_n 0, 1) := by decide +kernel
theorem dX10_line_184 : decode cX10_line 184 = .ok (.iconst 5, 1) := by decide +kernel
theorem dX10_line_185 : decode cX10_line 185 = .ok (.aload_n 0, 1) := by decide +kernel
theorem dX10_line_186 : decode cX10_line 186 = .ok (.getfield 236, 3) := by decide +kernel
theorem dX10_line_189 : decode cX10_line 189 = .ok (.iadd, 1) := by decide +kernel
theorem dX10_line_190 : decode cX10_line 190 = .ok (.invokevirtual 255, 3) := by decide +kernel
theorem dX10_line_193 : decode cX10_line 193 = .ok (.goto 61, 3) := by decide +kernel
theorem dX10_line_196 : decode cX10_line 196 = .ok (.aload_n 0, 1) := by decide +kernel
theorem dX10_line_197 : decode cX10_line 197 = .ok (.invokevirtual 258, 3) := by decide +kernel
theorem dX10_line_200 : decode cX10_line 200 = .ok (.goto 54, 3) := by decide +kernel
theorem dX10_line_203 : decode cX10_line 203 = .ok (.aload_n 0, 1) := by decide +kernel
theorem dX10_line_204 : decode cX10_line 204 = .ok (.bipush 20, 2) := by decide +kernel
theorem dX10_line_206 : decode cX10_line 206 = .ok (.aload_n 0, 1) := by decide +kernel
theorem dX10_line_207 : decode cX10_line 207 = .ok (.getfield 239, 3) := by decide +kernel
theorem dX10_line_210 : decode cX10_line 210 = .ok (.iadd, 1) := by decide +kernel
theorem dX10_line_211 : decode cX10_line 211 = .ok (.invokevirtual 261, 3) := by decide +kernel
theorem dX10_line_214 : decode cX10_line 214 = .ok (.goto 40, 3) := by decide +kernel
theorem dX10_line_217 : decode cX10_line 217 = .ok (.aload_n 0, 1) := by decide +kernel
theorem dX10_line_218 : decode cX10_line 218 = .ok (.aload_n 0, 1) := by decide +kernel
theorem dX10_line_219 : decode cX10_line 219 = .ok (.iconst 0, 1) := by decide +kernel
theorem dX10_line_220 : decode cX10_line 220 = .ok (.bipush 9, 2) := by decide +kernel
theorem dX10_line_222 : decode cX10_line 222 = .ok (.invokevirtual 222, 3) := by decide +kernel
theorem dX10_line_225 : decode cX10_line 225 = .ok (.putfield 264, 3) := by decide +kernel
theorem dX10_line_228 : decode cX10_line 228 = .ok (.aload_n 0, 1) := by decide +kernel
theorem dX10_line_229 : decode cX10_line 229 = .ok (.aload_n 0, 1) := by decide +kernel
theorem dX10_line_230 : decode cX10_line 230 = .ok (.iconst 1, 1) := by decide +kernel
theorem dX10_line_231 : decode cX10_line 231 = .ok (.bipush 20, 2) := by decide +kernel
theorem dX10_line_233 : decode cX10_line 233 = .ok (.invokevirtual 222, 3) := by decide +kernel
theorem dX10_line_236 : decode cX10_line 236 = .ok (.putfield 267, 3) := by decide +kernel
theorem dX10_line_239 : decode cX10_line 239 = .ok (.goto 15, 3) := by decide +kernel
theorem dX10_line_242 : decode cX10_line 242 = .ok (.aload_n 0, 1) := by decide +kernel
theorem dX10_line_243 : decode cX10_line 243 = .ok (.aload_n 0, 1) := by decide +kernel
theorem dX10_line_244 : decode cX10_line 244 = .ok (.iconst 0, 1) := by decide +kernel
theorem dX10_line_245 : decode cX10_line 245 = .ok (.sipush 9999, 3) := by decide +kernel
theorem dX10_line_248 : decode cX10_line 248 = .ok (.invokevirtual 222, 3) := by decide +kernel
theorem dX10_line_251 : decode cX10_line 251 = .ok (.putfield 270, 3) := by decide +kernel
theorem dX10_line_254 : decode cX10_line 254 = .ok (.aload_n 0, 1) := by decide +kernel
theorem dX10_line_255 : decode cX10_line 255 = .ok (.getfield 207, 3) := by decide +kernel
theorem dX10_line_258 : decode cX10_line 258 = .ok (.ifCond .eq 4, 3) := by decide +kernel
theorem dX10_line_261 : decode cX10_line 261 = .ok (.return_, 1) := by decide +kernel
theorem dX10_line_262 : decode cX10_line 262 = .ok (.aload_n 0, 1) := by decide +kernel
theorem dX10_line_263 : decode cX10_line 263 = .ok (.bipush 59, 2) := by decide +kernel
theorem dX10_line_265 : decode cX10_line 265 = .ok (.invokevirtual 219, 3) := by decide +kernel
theorem dX10_line_268 : decode cX10_line 268 = .ok (.ifCond .ne 11, 3) := by decide +kernel
theorem dX10_line_271 : decode cX10_line 271 = .ok (.aload_n 0, 1) := by decide +kernel
theorem dX10_line_272 : decode cX10_line 272 = .ok (.iconst 1, 1) := by decide +kernel
theorem dX10_line_273 : decode cX10_line 273 = .ok (.invokevirtual 216, 3) := by decide +kernel
theorem dX10_line_276 : decode cX10_line 276 = .ok (.goto 7, 3) := by decide +kernel
theorem dX10_line_279 : decode cX10_line 279 = .ok (.aload_n 0, 1) := by decide +kernel
theorem dX10_line_280 : decode cX10_line 280 = .ok (.invokevirtual 213, 3) := by decide +kernel
theorem dX10_line_283 : decode cX10_line 283 = .ok (.aload_n 0, 1) := by decide +kernel
theorem dX10_line_284 : decode cX10_line 284 = .ok (.dup, 1) := by decide +kernel
theorem dX10_line_285 : decode cX10_line 285 = .ok (.getfield 273, 3) := by decide +kernel
theorem dX10_line_288 : decode cX10_line 288 = .ok (.iconst 1, 1) := by decide +kernel
theorem dX10_line_289 : decode cX10_line 289 = .ok (.iadd, 1) := by decide +kernel
theorem dX10_line_290 : decode cX10_line 290 = .ok (.putfield 273, 3) := by decide +kernel
theorem dX10_line_293 : decode cX10_line 293 = .ok (.return_, 1) := by decide +kernel
theorem dX10_ringLine_0 : decode cX10_ringLine 0 = .ok (.aload_n 0, 1) := by decide +kernel
theorem dX10_ringLine_1 : decode cX10_ringLine 1 = .ok (.getfield 18, 3) := by decide +kernel
theorem dX10_ringLine_4 : decode cX10_ringLine 4 = .ok (.iload_n 1, 1) := by decide +kernel
theorem dX10_ringLine_5 : decode cX10_ringLine 5 = .ok (.aload_n 0, 1) := by decide +kernel
theorem dX10_ringLine_6 : decode cX10_ringLine 6 = .ok (.aload_n 0, 1) := by decide +kernel
theorem dX10_ringLine_7 : decode cX10_ringLine 7 = .ok (.getfield 18, 3) := by decide +kernel
theorem dX10_ringLine_10 : decode cX10_ringLine 10 = .ok (.bipush 8, 2) := by decide +kernel
theorem dX10_ringLine_12 : decode cX10_ringLine 12 = .ok (.aload_n 0, 1) := by decide +kernel
theorem dX10_ringLine_13 : decode cX10_ringLine 13 = .ok (.getfield 233, 3) := by decide +kernel
theorem dX10_ringLine_16 : decode cX10_ringLine 16 = .ok (.invokevirtual 248, 3) := by decide +kernel
theorem dX10_ringLine_19 : decode cX10_ringLine 19 = .ok (.iastore, 1) := by decide +kernel
theorem dX10_ringLine_20 : decode cX10_ringLine 20 = .ok (.aload_n 0, 1) := by decide +kernel
theorem dX10_ringLine_21 : decode cX10_ringLine 21 = .ok (.getfield 21, 3) := by decide +kernel
theorem dX10_ringLine_24 : decode cX10_ringLine 24 = .ok (.iload_n 1, 1) := by decide +kernel
theorem dX10_ringLine_25 : decode cX10_ringLine 25 = .ok (.aload_n 0, 1) := by decide +kernel
theorem dX10_ringLine_26 : decode cX10_ringLine 26 = .ok (.aload_n 0, 1) := by decide +kernel
theorem dX10_ringLine_27 : decode cX10_ringLine 27 = .ok (.getfield 15, 3) := by decide +kernel
theorem dX10_ringLine_30 : decode cX10_ringLine 30 = .ok (.iconst 4, 1) := by decide +kernel
theorem dX10_ringLine_31 : decode cX10_ringLine 31 = .ok (.aload_n 0, 1) := by decide +kernel
theorem dX10_ringLine_32 : decode cX10_ringLine 32 = .ok (.getfield 230, 3) := by decide +kernel
theorem dX10_ringLine_35 : decode cX10_ringLine 35 = .ok (.invokevirtual 276, 3) := by decide +kernel
theorem dX10_ringLine_38 : decode cX10_ringLine 38 = .ok (.iastore, 1) := by decide +kernel
theorem dX10_ringLine_39 : decode cX10_ringLine 39 = .ok (.aload_n 0, 1) := by decide +kernel
theorem dX10_ringLine_40 : decode cX10_ringLine 40 = .ok (.getfield 24, 3) := by decide +kernel
theorem dX10_ringLine_43 : decode cX10_ringLine 43 = .ok (.iload_n 1, 1) := by decide +kernel
theorem dX10_ringLine_44 : decode cX10_ringLine 44 = .ok (.iconst 0, 1) := by decide +kernel
theorem dX10_ringLine_45 : decode cX10_ringLine 45 = .ok (.iastore, 1) := by decide +kernel
theorem dX10_ringLine_46 : decode cX10_ringLine 46 = .ok (.aload_n 0, 1) := by decide +kernel
theorem dX10_ringLine_47 : decode cX10_ringLine 47 = .ok (.bipush 7, 2) := by decide +kernel
theorem dX10_ringLine_49 : decode cX10_ringLine 49 = .ok (.invokevirtual 279, 3) := by decide +kernel
theorem dX10_ringLine_52 : decode cX10_ringLine 52 = .ok (.ifCond .eq 184, 3) := by decide +kernel
theorem dX10_ringLine_55 : decode cX10_ringLine 55 = .ok (.aload_n 0, 1) := by decide +kernel
theorem dX10_ringLine_56 : decode cX10_ringLine 56 = .ok (.getfield 24, 3) := by decide +kernel
theorem dX10_ringLine_59 : decode cX10_ringLine 59 = .ok (.iload_n 1, 1) := by decide +kernel
theorem dX10_ringLine_60 : decode cX10_ringLine 60 = .ok (.iaload, 1) := by decide +kernel
theorem dX10_ringLine_61 : decode cX10_ringLine 61 = .ok (.bipush 10, 2) := by decide +kernel
theorem dX10_ringLine_63 : decode cX10_ringLine 63 = .ok (.if_icmp .ne 8, 3) := by decide +kernel
theorem dX10_ringLine_66 : decode cX10_ringLine 66 = .ok (.aload_n 0, 1) := by decide +kernel
theorem dX10_ringLine_67 : decode cX10_ringLine 67 = .ok (.iconst 2, 1) := by decide +kernel
theorem dX10_ringLine_68 : decode cX10_ringLine 68 = .ok (.invokevirtual 216, 3) := by decide +kernel
theorem dX10_ringLine_71 : decode cX10_ringLine 71 = .ok (.aload_n 0, 1) := by decide +kernel
theorem dX10_ringLine_72 : decode cX10_ringLine 72 = .ok (.invokevirtual 282, 3) := by decide +kernel
theorem dX10_ringLine_75 : decode cX10_ringLine 75 = .ok (.bipush 10, 2) := by decide +kernel
theorem dX10_ringLine_77 : decode cX10_ringLine 77 = .ok (.iload_n 1, 1) := by decide +kernel
theorem dX10_ringLine_78 : decode cX10_ringLine 78 = .ok (.imul, 1) := by decide +kernel
theorem dX10_ringLine_79 : decode cX10_ringLine 79 = .ok (.bipush 9, 2) := by decide +kernel
theorem dX10_ringLine_81 : decode cX10_ringLine 81 = .ok (.aload_n 0, 1) := by decide +kernel
theorem dX10_ringLine_82 : decode cX10_ringLine 82 = .ok (.getfield 24, 3) := by decide +kernel
theorem dX10_ringLine_85 : decode cX10_ringLine 85 = .ok (.iload_n 1, 1) := by decide +kernel
theorem dX10_ringLine_86 : decode cX10_ringLine 86 = .ok (.iaload, 1) := by decide +kernel
theorem dX10_ringLine_87 : decode cX10_ringLine 87 = .ok (.invokestatic 285, 3) := by decide +kernel
theorem dX10_ringLine_90 : decode cX10_ringLine 90 = .ok (.iadd, 1) := by decide +kernel
theorem dX10_ringLine_91 : decode cX10_ringLine 91 = .ok (.istore_n 2, 1) := by decide +kernel
theorem dX10_ringLine_92 : decode cX10_ringLine 92 = .ok (.aload_n 0, 1) := by decide +kernel
theorem dX10_ringLine_93 : decode cX10_ringLine 93 = .ok (.getfield 27, 3) := by decide +kernel
theorem dX10_ringLine_96 : decode cX10_ringLine 96 = .ok (.iload_n 2, 1) := by decide +kernel
theorem dX10_ringLine_97 : decode cX10_ringLine 97 = .ok (.aload_n 0, 1) := by decide +kernel
theorem dX10_ringLine_98 : decode cX10_ringLine 98 = .ok (.sipush 999, 3) := by decide +kernel
theorem dX10_ringLine_101 : decode cX10_ringLine 101 = .ok (.invokevirtual 290, 3) := by decide +kernel
theorem dX10_ringLine_104 : decode cX10_ringLine 104 = .ok (.iastore, 1) := by decide +kernel
theorem dX10_ringLine_105 : decode cX10_ringLine 105 = .ok (.aload_n 0, 1) := by decide +kernel
theorem dX10_ringLine_106 : decode cX10_ringLine 106 = .ok (.getfield 30, 3) := by decide +kernel
theorem dX10_ringLine_109 : decode cX10_ringLine 109 = .ok (.iload_n 2, 1) := by decide +kernel
theorem dX10_ringLine_110 : decode cX10_ringLine 110 = .ok (.aload_n 0, 1) := by decide +kernel
theorem dX10_ringLine_111 : decode cX10_ringLine 111 = .ok (.sipush 999, 3) := by decide +kernel
theorem dX10_ringLine_114 : decode cX10_ringLine 114 = .ok (.invokevirtual 290, 3) := by decide +kernel
theorem dX10_ringLine_117 : decode cX10_ringLine 117 = .ok (.iastore, 1) := by decide +kernel
theorem dX10_ringLine_118 : decode cX10_ringLine 118 = .ok (.aload_n 0, 1) := by decide +kernel
theorem dX10_ringLine_119 : decode cX10_ringLine 119 = .ok (.bipush 8, 2) := by decide +kernel
theorem dX10_ringLine_121 : decode cX10_ringLine 121 = .ok (.invokevirtual 279, 3) := by decide +kernel
theorem dX10_ringLine_124 : decode cX10_ringLine 124 = .ok (.istore_n 3, 1) := by decide +kernel
theorem dX10_ringLine_125 : decode cX10_ringLine 125 = .ok (.iload_n 3, 1) := by decide +kernel
theorem dX10_ringLine_126 : decode cX10_ringLine 126 = .ok (.ifCond .eq 7, 3) := by decide +kernel
theorem dX10_ringLine_129 : decode cX10_ringLine 129 = .ok (.aload_n 0, 1) := by decide +kernel
theorem dX10_ringLine_130 : decode cX10_ringLine 130 = .ok (.invokevirtual 213, 3) := by decide +kernel
theorem dX10_ringLine_133 : decode cX10_ringLine 133 = .ok (.aload_n 0, 1) := by decide +kernel
theorem dX10_ringLine_134 : decode cX10_ringLine 134 = .ok (.getfield 33, 3) := by decide +kernel
theorem dX10_ringLine_137 : decode cX10_ringLine 137 = .ok (.iload_n 2, 1) := by decide +kernel
theorem dX10_ringLine_138 : decode cX10_ringLine 138 = .ok (.iload_n 3, 1) := by decide +kernel
theorem dX10_ringLine_139 : decode cX10_ringLine 139 = .ok (.ifCond .eq 12, 3) := by decide +kernel
theorem dX10_ringLine_142 : decode cX10_ringLine 142 = .ok (.aload_n 0, 1) := by decide +kernel
theorem dX10_ringLine_143 : decode cX10_ringLine 143 = .ok (.bipush 99, 2) := by decide +kernel
theorem dX10_ringLine_145 : decode cX10_ringLine 145 = .ok (.invokevirtual 290, 3) := by decide +kernel
theorem dX10_ringLine_148 : decode cX10_ringLine 148 = .ok (.goto 4, 3) := by decide +kernel
theorem dX10_ringLine_151 : decode cX10_ringLine 151 = .ok (.iconst 0, 1) := by decide +kernel
theorem dX10_ringLine_152 : decode cX10_ringLine 152 = .ok (.iastore, 1) := by decide +kernel
theorem dX10_ringLine_153 : decode cX10_ringLine 153 = .ok (.aload_n 0, 1) := by decide +kernel
theorem dX10_ringLine_154 : decode cX10_ringLine 154 = .ok (.getfield 36, 3) := by decide +kernel
theorem dX10_ringLine_157 : decode cX10_ringLine 157 = .ok (.iload_n 2, 1) := by decide +kernel
theorem dX10_ringLine_158 : decode cX10_ringLine 158 = .ok (.iload_n 3, 1) := by decide +kernel
theorem dX10_ringLine_159 : decode cX10_ringLine 159 = .ok (.ifCond .eq 12, 3) := by decide +kernel
theorem dX10_ringLine_162 : decode cX10_ringLine 162 = .ok (.aload_n 0, 1) := by decide +kernel
theorem dX10_ringLine_163 : decode cX10_ringLine 163 = .ok (.bipush 99, 2) := by decide +kernel
theorem dX10_ringLine_165 : decode cX10_ringLine 165 = .ok (.invokevirtual 290, 3) := by decide +kernel
theorem dX10_ringLine_168 : decode cX10_ringLine 168 = .ok (.goto 4, 3) := by decide +kernel
theorem dX10_ringLine_171 : decode cX10_ringLine 171 = .ok (.iconst 0, 1) := by decide +kernel
theorem dX10_ringLine_172 : decode cX10_ringLine 172 = .ok (.iastore, 1) := by decide +kernel
theorem dX10_ringLine_173 : decode cX10_ringLine 173 = .ok (.aload_n 0, 1) := by decide +kernel
theorem dX10_ringLine_174 : decode cX10_ringLine 174 = .ok (.getfield 39, 3) := by decide +kernel
theorem dX10_ringLine_177 : decode cX10_ringLine 177 = .ok (.iload_n 2, 1) := by decide +kernel
theorem dX10_ringLine_178 : decode cX10_ringLine 178 = .ok (.aload_n 0, 1) := by decide +kernel
theorem dX10_ringLine_179 : decode cX10_ringLine 179 = .ok (.bipush 9, 2) := by decide +kernel
theorem dX10_ringLine_181 : decode cX10_ringLine 181 = .ok (.invokevirtual 279, 3) := by decide +kernel
theorem dX10_ringLine_184 : decode cX10_ringLine 184 = .ok (.bastore, 1) := by decide +kernel
theorem dX10_ringLine_185 : decode cX10_ringLine 185 = .ok (.aload_n 0, 1) := by decide +kernel
theorem dX10_ringLine_186 : decode cX10_ringLine 186 = .ok (.getfield 39, 3) := by decide +kernel
theorem dX10_ringLine_189 : decode cX10_ringLine 189 = .ok (.iload_n 2, 1) := by decide +kernel
theorem dX10_ringLine_190 : decode cX10_ringLine 190 = .ok (.baload, 1) := by decide +kernel
theorem dX10_ringLine_191 : decode cX10_ringLine 191 = .ok (.ifCond .eq 7, 3) := by decide +kernel
theorem dX10_ringLine_194 : decode cX10_ringLine 194 = .ok (.aload_n 0, 1) := by decide +kernel
theorem dX10_ringLine_195 : decode cX10_ringLine 195 = .ok (.invokevirtual 213, 3) := by decide +kernel
theorem dX10_ringLine_198 : decode cX10_ringLine 198 = .ok (.aload_n 0, 1) := by decide +kernel
theorem dX10_ringLine_199 : decode cX10_ringLine 199 = .ok (.getfield 43, 3) := by decide +kernel
theorem dX10_ringLine_202 : decode cX10_ringLine 202 = .ok (.iload_n 2, 1) := by decide +kernel
theorem dX10_ringLine_203 : decode cX10_ringLine 203 = .ok (.aload_n 0, 1) := by decide +kernel
theorem dX10_ringLine_204 : decode cX10_ringLine 204 = .ok (.bipush 10, 2) := by decide +kernel
theorem dX10_ringLine_206 : decode cX10_ringLine 206 = .ok (.invokevirtual 279, 3) := by decide +kernel
theorem dX10_ringLine_209 : decode cX10_ringLine 209 = .ok (.bastore, 1) := by decide +kernel
theorem dX10_ringLine_210 : decode cX10_ringLine 210 = .ok (.aload_n 0, 1) := by decide +kernel
theorem dX10_ringLine_211 : decode cX10_ringLine 211 = .ok (.getfield 43, 3) := by decide +kernel
theorem dX10_ringLine_214 : decode cX10_ringLine 214 = .ok (.iload_n 2, 1) := by decide +kernel
theorem dX10_ringLine_215 : decode cX10_ringLine 215 = .ok (.baload, 1) := by decide +kernel
theorem dX10_ringLine_216 : decode cX10_ringLine 216 = .ok (.ifCond .eq 7, 3) := by decide +kernel
theorem dX10_ringLine_219 : decode cX10_ringLine 219 = .ok (.aload_n 0, 1) := by decide +kernel
theorem dX10_ringLine_220 : decode cX10_ringLine 220 = .ok (.invokevirtual 213, 3) := by decide +kernel
theorem dX10_ringLine_223 : decode cX10_ringLine 223 = .ok (.aload_n 0, 1) := by decide +kernel
theorem dX10_ringLine_224 : decode cX10_ringLine 224 = .ok (.getfield 24, 3) := by decide +kernel
theorem dX10_ringLine_227 : decode cX10_ringLine 227 = .ok (.iload_n 1, 1) := by decide +kernel
theorem dX10_ringLine_228 : decode cX10_ringLine 228 = .ok (.dup2, 1) := by decide +kernel
theorem dX10_ringLine_229 : decode cX10_ringLine 229 = .ok (.iaload, 1) := by decide +kernel
theorem dX10_ringLine_230 : decode cX10_ringLine 230 = .ok (.iconst 1, 1) := by decide +kernel
theorem dX10_ringLine_231 : decode cX10_ringLine 231 = .ok (.iadd, 1) := by decide +kernel
theorem dX10_ringLine_232 : decode cX10_ringLine 232 = .ok (.iastore, 1) := by decide +kernel
theorem dX10_ringLine_233 : decode cX10_ringLine 233 = .ok (.goto (-187), 3) := by decide +kernel
theorem dX10_ringLine_236 : decode cX10_ringLine 236 = .ok (.aload_n 0, 1) := by decide +kernel
theorem dX10_ringLine_237 : decode cX10_ringLine 237 = .ok (.dup, 1) := by decide +kernel
theorem dX10_ringLine_238 : decode cX10_ringLine 238 = .ok (.getfield 233, 3) := by decide +kernel
theorem dX10_ringLine_241 : decode cX10_ringLine 241 = .ok (.iconst 1, 1) := by decide +kernel
theorem dX10_ringLine_242 : decode cX10_ringLine 242 = .ok (.iadd, 1) := by decide +kernel
theorem dX10_ringLine_243 : decode cX10_ringLine 243 = .ok (.putfield 233, 3) := by decide +kernel
theorem dX10_ringLine_246 : decode cX10_ringLine 246 = .ok (.return_, 1) := by decide +kernel
theorem dX10_wayLine_0 : decode cX10_wayLine 0 = .ok (.aload_n 0, 1) := by decide +kernel
theorem dX10_wayLine_1 : decode cX10_wayLine 1 = .ok (.getfield 46, 3) := by decide +kernel
theorem dX10_wayLine_4 : decode cX10_wayLine 4 = .ok (.iload_n 1, 1) := by decide +kernel
theorem dX10_wayLine_5 : decode cX10_wayLine 5 = .ok (.aload_n 0, 1) := by decide +kernel
theorem dX10_wayLine_6 : decode cX10_wayLine 6 = .ok (.aload_n 0, 1) := by decide +kernel
theorem dX10_wayLine_7 : decode cX10_wayLine 7 = .ok (.getfield 46, 3) := by decide +kernel
theorem dX10_wayLine_10 : decode cX10_wayLine 10 = .ok (.iconst 5, 1) := by decide +kernel
theorem dX10_wayLine_11 : decode cX10_wayLine 11 = .ok (.aload_n 0, 1) := by decide +kernel
theorem dX10_wayLine_12 : decode cX10_wayLine 12 = .ok (.getfield 236, 3) := by decide +kernel
theorem dX10_wayLine_15 : decode cX10_wayLine 15 = .ok (.invokevirtual 248, 3) := by decide +kernel
theorem dX10_wayLine_18 : decode cX10_wayLine 18 = .ok (.iastore, 1) := by decide +kernel
theorem dX10_wayLine_19 : decode cX10_wayLine 19 = .ok (.aload_n 0, 1) := by decide +kernel
theorem dX10_wayLine_20 : decode cX10_wayLine 20 = .ok (.getfield 49, 3) := by decide +kernel
theorem dX10_wayLine_23 : decode cX10_wayLine 23 = .ok (.iload_n 1, 1) := by decide +kernel
theorem dX10_wayLine_24 : decode cX10_wayLine 24 = .ok (.aload_n 0, 1) := by decide +kernel
theorem dX10_wayLine_25 : decode cX10_wayLine 25 = .ok (.iconst 1, 1) := by decide +kernel
theorem dX10_wayLine_26 : decode cX10_wayLine 26 = .ok (.bipush 99, 2) := by decide +kernel
theorem dX10_wayLine_28 : decode cX10_wayLine 28 = .ok (.invokevirtual 222, 3) := by decide +kernel
theorem dX10_wayLine_31 : decode cX10_wayLine 31 = .ok (.iastore, 1) := by decide +kernel
theorem dX10_wayLine_32 : decode cX10_wayLine 32 = .ok (.iconst 0, 1) := by decide +kernel
theorem dX10_wayLine_33 : decode cX10_wayLine 33 = .ok (.istore_n 2, 1) := by decide +kernel
theorem dX10_wayLine_34 : decode cX10_wayLine 34 = .ok (.iload_n 2, 1) := by decide +kernel
theorem dX10_wayLine_35 : decode cX10_wayLine 35 = .ok (.bipush 6, 2) := by decide +kernel
theorem dX10_wayLine_37 : decode cX10_wayLine 37 = .ok (.if_icmp .ge 27, 3) := by decide +kernel
theorem dX10_wayLine_40 : decode cX10_wayLine 40 = .ok (.aload_n 0, 1) := by decide +kernel
theorem dX10_wayLine_41 : decode cX10_wayLine 41 = .ok (.getfield 52, 3) := by decide +kernel
theorem dX10_wayLine_44 : decode cX10_wayLine 44 = .ok (.bipush 6, 2) := by decide +kernel
theorem dX10_wayLine_46 : decode cX10_wayLine 46 = .ok (.iload_n 1, 1) := by decide +kernel
theorem dX10_wayLine_47 : decode cX10_wayLine 47 = .ok (.imul, 1) := by decide +kernel
theorem dX10_wayLine_48 : decode cX10_wayLine 48 = .ok (.iload_n 2, 1) := by decide +kernel
theorem dX10_wayLine_49 : decode cX10_wayLine 49 = .ok (.iadd, 1) := by decide +kernel
theorem dX10_wayLine_50 : decode cX10_wayLine 50 = .ok (.aload_n 0, 1) := by decide +kernel
theorem dX10_wayLine_51 : decode cX10_wayLine 51 = .ok (.iconst 0, 1) := by decide +kernel
theorem dX10_wayLine_52 : decode cX10_wayLine 52 = .ok (.bipush 99, 2) := by decide +kernel
theorem dX10_wayLine_54 : decode cX10_wayLine 54 = .ok (.invokevirtual 222, 3) := by decide +kernel
theorem dX10_wayLine_57 : decode cX10_wayLine 57 = .ok (.iastore, 1) := by decide +kernel
theorem dX10_wayLine_58 : decode cX10_wayLine 58 = .ok (.iinc 2 1, 3) := by decide +kernel
theorem dX10_wayLine_61 : decode cX10_wayLine 61 = .ok (.goto (-27), 3) := by decide +kernel
theorem dX10_wayLine_64 : decode cX10_wayLine 64 = .ok (.aload_n 0, 1) := by decide +kernel
theorem dX10_wayLine_65 : decode cX10_wayLine 65 = .ok (.dup, 1) := by decide +kernel
theorem dX10_wayLine_66 : decode cX10_wayLine 66 = .ok (.getfield 236, 3) := by decide +kernel
theorem dX10_wayLine_69 : decode cX10_wayLine 69 = .ok (.iconst 1, 1) := by decide +kernel
theorem dX10_wayLine_70 : decode cX10_wayLine 70 = .ok (.iadd, 1) := by decide +kernel
theorem dX10_wayLine_71 : decode cX10_wayLine 71 = .ok (.putfield 236, 3) := by decide +kernel
theorem dX10_wayLine_74 : decode cX10_wayLine 74 = .ok (.return_, 1) := by decide +kernel
theorem dX10_saidLine_0 : decode cX10_saidLine 0 = .ok (.aload_n 0, 1) := by decide +kernel
theorem dX10_saidLine_1 : decode cX10_saidLine 1 = .ok (.getfield 172, 3) := by decide +kernel
theorem dX10_saidLine_4 : decode cX10_saidLine 4 = .ok (.iconst 1, 1) := by decide +kernel
theorem dX10_saidLine_5 : decode cX10_saidLine 5 = .ok (.if_icmp .eq 8, 3) := by decide +kernel
theorem dX10_saidLine_8 : decode cX10_saidLine 8 = .ok (.aload_n 0, 1) := by decide +kernel
theorem dX10_saidLine_9 : decode cX10_saidLine 9 = .ok (.iconst 1, 1) := by decide +kernel
theorem dX10_saidLine_10 : decode cX10_saidLine 10 = .ok (.invokevirtual 216, 3) := by decide +kernel
theorem dX10_saidLine_13 : decode cX10_saidLine 13 = .ok (.aload_n 0, 1) := by decide +kernel
theorem dX10_saidLine_14 : decode cX10_saidLine 14 = .ok (.getfield 207, 3) := by decide +kernel
theorem dX10_saidLine_17 : decode cX10_saidLine 17 = .ok (.ifCond .eq 7, 3) := by decide +kernel
theorem dX10_saidLine_20 : decode cX10_saidLine 20 = .ok (.iconst 0, 1) := by decide +kernel
theorem dX10_saidLine_21 : decode cX10_saidLine 21 = .ok (.goto 20, 3) := by decide +kernel
theorem dX10_saidLine_24 : decode cX10_saidLine 24 = .ok (.aload_n 0, 1) := by decide +kernel
theorem dX10_saidLine_25 : decode cX10_saidLine 25 = .ok (.getfield 55, 3) := by decide +kernel
theorem dX10_saidLine_28 : decode cX10_saidLine 28 = .ok (.bipush 6, 2) := by decide +kernel
theorem dX10_saidLine_30 : decode cX10_saidLine 30 = .ok (.aload_n 0, 1) := by decide +kernel
theorem dX10_saidLine_31 : decode cX10_saidLine 31 = .ok (.getfield 294, 3) := by decide +kernel
theorem dX10_saidLine_34 : decode cX10_saidLine 34 = .ok (.aload_n 0, 1) := by decide +kernel
theorem dX10_saidLine_35 : decode cX10_saidLine 35 = .ok (.getfield 182, 3) := by decide +kernel
theorem dX10_saidLine_38 : decode cX10_saidLine 38 = .ok (.invokestatic 226, 3) := by decide +kernel
theorem dX10_saidLine_41 : decode cX10_saidLine 41 = .ok (.istore_n 2, 1) := by decide +kernel
theorem dX10_saidLine_42 : decode cX10_saidLine 42 = .ok (.iload_n 2, 1) := by decide +kernel
theorem dX10_saidLine_43 : decode cX10_saidLine 43 = .ok (.iconst (-1), 1) := by decide +kernel
theorem dX10_saidLine_44 : decode cX10_saidLine 44 = .ok (.if_icmp .ne 17, 3) := by decide +kernel
theorem dX10_saidLine_47 : decode cX10_saidLine 47 = .ok (.aload_n 0, 1) := by decide +kernel
theorem dX10_saidLine_48 : decode cX10_saidLine 48 = .ok (.getfield 294, 3) := by decide +kernel
theorem dX10_saidLine_51 : decode cX10_saidLine 51 = .ok (.bipush 6, 2) := by decide +kernel
theorem dX10_saidLine_53 : decode cX10_saidLine 53 = .ok (.if_icmp .ne 8, 3) := by decide +kernel
theorem dX10_saidLine_56 : decode cX10_saidLine 56 = .ok (.aload_n 0, 1) := by decide +kernel
theorem dX10_saidLine_57 : decode cX10_saidLine 57 = .ok (.iconst 2, 1) := by decide +kernel
theorem dX10_saidLine_58 : decode cX10_saidLine 58 = .ok (.invokevirtual 216, 3) := by decide +kernel
theorem dX10_saidLine_61 : decode cX10_saidLine 61 = .ok (.aload_n 0, 1) := by decide +kernel
theorem dX10_saidLine_62 : decode cX10_saidLine 62 = .ok (.getfield 207, 3) := by decide +kernel
theorem dX10_saidLine_65 : decode cX10_saidLine 65 = .ok (.ifCond .eq 4, 3) := by decide +kernel
theorem dX10_saidLine_68 : decode cX10_saidLine 68 = .ok (.return_, 1) := by decide +kernel
theorem dX10_saidLine_69 : decode cX10_saidLine 69 = .ok (.iload_n 2, 1) := by decide +kernel
theorem dX10_saidLine_70 : decode cX10_saidLine 70 = .ok (.iconst (-1), 1) := by decide +kernel
theorem dX10_saidLine_71 : decode cX10_saidLine 71 = .ok (.if_icmp .ne 31, 3) := by decide +kernel
theorem dX10_saidLine_74 : decode cX10_saidLine 74 = .ok (.aload_n 0, 1) := by decide +kernel
theorem dX10_saidLine_75 : decode cX10_saidLine 75 = .ok (.getfield 294, 3) := by decide +kernel
theorem dX10_saidLine_78 : decode cX10_saidLine 78 = .ok (.istore_n 2, 1) := by decide +kernel
theorem dX10_saidLine_79 : decode cX10_saidLine 79 = .ok (.aload_n 0, 1) := by decide +kernel
theorem dX10_saidLine_80 : decode cX10_saidLine 80 = .ok (.getfield 55, 3) := by decide +kernel
theorem dX10_saidLine_83 : decode cX10_saidLine 83 = .ok (.bipush 6, 2) := by decide +kernel
theorem dX10_saidLine_85 : decode cX10_saidLine 85 = .ok (.iload_n 2, 1) := by decide +kernel
theorem dX10_saidLine_86 : decode cX10_saidLine 86 = .ok (.iadd, 1) := by decide +kernel
theorem dX10_saidLine_87 : decode cX10_saidLine 87 = .ok (.aload_n 0, 1) := by decide +kernel
theorem dX10_saidLine_88 : decode cX10_saidLine 88 = .ok (.getfield 182, 3) := by decide +kernel
theorem dX10_saidLine_91 : decode cX10_saidLine 91 = .ok (.iastore, 1) := by decide +kernel
theorem dX10_saidLine_92 : decode cX10_saidLine 92 = .ok (.aload_n 0, 1) := by decide +kernel
theorem dX10_saidLine_93 : decode cX10_saidLine 93 = .ok (.dup, 1) := by decide +kernel
theorem dX10_saidLine_94 : decode cX10_saidLine 94 = .ok (.getfield 294, 3) := by decide +kernel
theorem dX10_saidLine_97 : decode cX10_saidLine 97 = .ok (.iconst 1, 1) := by decide +kernel
theorem dX10_saidLine_98 : decode cX10_saidLine 98 = .ok (.iadd, 1) := by decide +kernel
theorem dX10_saidLine_99 : decode cX10_saidLine 99 = .ok (.putfield 294, 3) := by decide +kernel
theorem dX10_saidLine_102 : decode cX10_saidLine 102 = .ok (.aload_n 0, 1) := by decide +kernel
theorem dX10_saidLine_103 : decode cX10_saidLine 103 = .ok (.invokevirtual 213, 3) := by decide +kernel
theorem dX10_saidLine_106 : decode cX10_saidLine 106 = .ok (.aload_n 0, 1) := by decide +kernel
theorem dX10_saidLine_107 : decode cX10_saidLine 107 = .ok (.getfield 58, 3) := by decide +kernel
theorem dX10_saidLine_110 : decode cX10_saidLine 110 = .ok (.iload_n 1, 1) := by decide +kernel
theorem dX10_saidLine_111 : decode cX10_saidLine 111 = .ok (.iload_n 2, 1) := by decide +kernel
theorem dX10_saidLine_112 : decode cX10_saidLine 112 = .ok (.iastore, 1) := by decide +kernel
theorem dX10_saidLine_113 : decode cX10_saidLine 113 = .ok (.aload_n 0, 1) := by decide +kernel
theorem dX10_saidLine_114 : decode cX10_saidLine 114 = .ok (.getfield 61, 3) := by decide +kernel
theorem dX10_saidLine_117 : decode cX10_saidLine 117 = .ok (.iload_n 1, 1) := by decide +kernel
theorem dX10_saidLine_118 : decode cX10_saidLine 118 = .ok (.aload_n 0, 1) := by decide +kernel
theorem dX10_saidLine_119 : decode cX10_saidLine 119 = .ok (.aload_n 0, 1) := by decide +kernel
theorem dX10_saidLine_120 : decode cX10_saidLine 120 = .ok (.getfield 18, 3) := by decide +kernel
theorem dX10_saidLine_123 : decode cX10_saidLine 123 = .ok (.bipush 8, 2) := by decide +kernel
theorem dX10_saidLine_125 : decode cX10_saidLine 125 = .ok (.aload_n 0, 1) := by decide +kernel
theorem dX10_saidLine_126 : decode cX10_saidLine 126 = .ok (.getfield 233, 3) := by decide +kernel
theorem dX10_saidLine_129 : decode cX10_saidLine 129 = .ok (.invokevirtual 276, 3) := by decide +kernel
theorem dX10_saidLine_132 : decode cX10_saidLine 132 = .ok (.iastore, 1) := by decide +kernel
theorem dX10_saidLine_133 : decode cX10_saidLine 133 = .ok (.aload_n 0, 1) := by decide +kernel
theorem dX10_saidLine_134 : decode cX10_saidLine 134 = .ok (.getfield 64, 3) := by decide +kernel
theorem dX10_saidLine_137 : decode cX10_saidLine 137 = .ok (.iload_n 1, 1) := by decide +kernel
theorem dX10_saidLine_138 : decode cX10_saidLine 138 = .ok (.aload_n 0, 1) := by decide +kernel
theorem dX10_saidLine_139 : decode cX10_saidLine 139 = .ok (.iconst 1, 1) := by decide +kernel
theorem dX10_saidLine_140 : decode cX10_saidLine 140 = .ok (.ldc 191, 2) := by decide +kernel
theorem dX10_saidLine_142 : decode cX10_saidLine 142 = .ok (.invokevirtual 222, 3) := by decide +kernel
theorem dX10_saidLine_145 : decode cX10_saidLine 145 = .ok (.iastore, 1) := by decide +kernel
theorem dX10_saidLine_146 : decode cX10_saidLine 146 = .ok (.aload_n 0, 1) := by decide +kernel
theorem dX10_saidLine_147 : decode cX10_saidLine 147 = .ok (.getfield 67, 3) := by decide +kernel
theorem dX10_saidLine_150 : decode cX10_saidLine 150 = .ok (.iload_n 1, 1) := by decide +kernel
theorem dX10_saidLine_151 : decode cX10_saidLine 151 = .ok (.aload_n 0, 1) := by decide +kernel
theorem dX10_saidLine_152 : decode cX10_saidLine 152 = .ok (.bipush 11, 2) := by decide +kernel
theorem dX10_saidLine_154 : decode cX10_saidLine 154 = .ok (.invokevirtual 279, 3) := by decide +kernel
theorem dX10_saidLine_157 : decode cX10_saidLine 157 = .ok (.bastore, 1) := by decide +kernel
theorem dX10_saidLine_158 : decode cX10_saidLine 158 = .ok (.aload_n 0, 1) := by decide +kernel
theorem dX10_saidLine_159 : decode cX10_saidLine 159 = .ok (.getfield 67, 3) := by decide +kernel
theorem dX10_saidLine_162 : decode cX10_saidLine 162 = .ok (.iload_n 1, 1) := by decide +kernel
theorem dX10_saidLine_163 : decode cX10_saidLine 163 = .ok (.baload, 1) := by decide +kernel
theorem dX10_saidLine_164 : decode cX10_saidLine 164 = .ok (.ifCond .eq 7, 3) := by decide +kernel
theorem dX10_saidLine_167 : decode cX10_saidLine 167 = .ok (.aload_n 0, 1) := by decide +kernel
theorem dX10_saidLine_168 : decode cX10_saidLine 168 = .ok (.invokevirtual 213, 3) := by decide +kernel
theorem dX10_saidLine_171 : decode cX10_saidLine 171 = .ok (.aload_n 0, 1) := by decide +kernel
theorem dX10_saidLine_172 : decode cX10_saidLine 172 = .ok (.dup, 1) := by decide +kernel
theorem dX10_saidLine_173 : decode cX10_saidLine 173 = .ok (.getfield 239, 3) := by decide +kernel
theorem dX10_saidLine_176 : decode cX10_saidLine 176 = .ok (.iconst 1, 1) := by decide +kernel
theorem dX10_saidLine_177 : decode cX10_saidLine 177 = .ok (.iadd, 1) := by decide +kernel
theorem dX10_saidLine_178 : decode cX10_saidLine 178 = .ok (.putfield 239, 3) := by decide +kernel
theorem dX10_saidLine_181 : decode cX10_saidLine 181 = .ok (.return_, 1) := by decide +kernel
theorem dX10_puts_0 : decode cX10_puts 0 = .ok (.aload_n 0, 1) := by decide +kernel
theorem dX10_puts_1 : decode cX10_puts 1 = .ok (.getfield 207, 3) := by decide +kernel
theorem dX10_puts_4 : decode cX10_puts 4 = .ok (.ifCond .eq 4, 3) := by decide +kernel
theorem dX10_puts_7 : decode cX10_puts 7 = .ok (.return_, 1) := by decide +kernel
theorem dX10_puts_8 : decode cX10_puts 8 = .ok (.aload_n 0, 1) := by decide +kernel
theorem dX10_puts_9 : decode cX10_puts 9 = .ok (.getfield 70, 3) := by decide +kernel
theorem dX10_puts_12 : decode cX10_puts 12 = .ok (.bipush 64, 2) := by decide +kernel
theorem dX10_puts_14 : decode cX10_puts 14 = .ok (.aload_n 0, 1) := by decide +kernel
theorem dX10_puts_15 : decode cX10_puts 15 = .ok (.getfield 297, 3) := by decide +kernel
theorem dX10_puts_18 : decode cX10_puts 18 = .ok (.iadd, 1) := by decide +kernel
theorem dX10_puts_19 : decode cX10_puts 19 = .ok (.iload_n 1, 1) := by decide +kernel
theorem dX10_puts_20 : decode cX10_puts 20 = .ok (.iastore, 1) := by decide +kernel
theorem dX10_puts_21 : decode cX10_puts 21 = .ok (.aload_n 0, 1) := by decide +kernel
theorem dX10_puts_22 : decode cX10_puts 22 = .ok (.getfield 73, 3) := by decide +kernel
theorem dX10_puts_25 : decode cX10_puts 25 = .ok (.bipush 64, 2) := by decide +kernel
theorem dX10_puts_27 : decode cX10_puts 27 = .ok (.aload_n 0, 1) := by decide +kernel
theorem dX10_puts_28 : decode cX10_puts 28 = .ok (.getfield 297, 3) := by decide +kernel
theorem dX10_puts_31 : decode cX10_puts 31 = .ok (.iadd, 1) := by decide +kernel
theorem dX10_puts_32 : decode cX10_puts 32 = .ok (.iload_n 2, 1) := by decide +kernel
theorem dX10_puts_33 : decode cX10_puts 33 = .ok (.iastore, 1) := by decide +kernel
theorem dX10_puts_34 : decode cX10_puts 34 = .ok (.aload_n 0, 1) := by decide +kernel
theorem dX10_puts_35 : decode cX10_puts 35 = .ok (.dup, 1) := by decide +kernel
theorem dX10_puts_36 : decode cX10_puts 36 = .ok (.getfield 297, 3) := by decide +kernel
theorem dX10_puts_39 : decode cX10_puts 39 = .ok (.iconst 1, 1) := by decide +kernel
theorem dX10_puts_40 : decode cX10_puts 40 = .ok (.iadd, 1) := by decide +kernel
theorem dX10_puts_41 : decode cX10_puts 41 = .ok (.putfield 297, 3) := by decide +kernel
theorem dX10_puts_44 : decode cX10_puts 44 = .ok (.return_, 1) := by decide +kernel
theorem dX10_knot_0 : decode cX10_knot 0 = .ok (.aload_n 0, 1) := by decide +kernel
theorem dX10_knot_1 : decode cX10_knot 1 = .ok (.getfield 207, 3) := by decide +kernel
theorem dX10_knot_4 : decode cX10_knot 4 = .ok (.ifCond .eq 4, 3) := by decide +kernel
theorem dX10_knot_7 : decode cX10_knot 7 = .ok (.return_, 1) := by decide +kernel
theorem dX10_knot_8 : decode cX10_knot 8 = .ok (.aload_n 0, 1) := by decide +kernel
theorem dX10_knot_9 : decode cX10_knot 9 = .ok (.getfield 300, 3) := by decide +kernel
theorem dX10_knot_12 : decode cX10_knot 12 = .ok (.bipush 64, 2) := by decide +kernel
theorem dX10_knot_14 : decode cX10_knot 14 = .ok (.if_icmp .ne 11, 3) := by decide +kernel
theorem dX10_knot_17 : decode cX10_knot 17 = .ok (.aload_n 0, 1) := by decide +kernel
theorem dX10_knot_18 : decode cX10_knot 18 = .ok (.iconst 2, 1) := by decide +kernel
theorem dX10_knot_19 : decode cX10_knot 19 = .ok (.invokevirtual 216, 3) := by decide +kernel
theorem dX10_knot_22 : decode cX10_knot 22 = .ok (.goto 13, 3) := by decide +kernel
theorem dX10_knot_25 : decode cX10_knot 25 = .ok (.aload_n 0, 1) := by decide +kernel
theorem dX10_knot_26 : decode cX10_knot 26 = .ok (.dup, 1) := by decide +kernel
theorem dX10_knot_27 : decode cX10_knot 27 = .ok (.getfield 300, 3) := by decide +kernel
theorem dX10_knot_30 : decode cX10_knot 30 = .ok (.iconst 1, 1) := by decide +kernel
theorem dX10_knot_31 : decode cX10_knot 31 = .ok (.iadd, 1) := by decide +kernel
theorem dX10_knot_32 : decode cX10_knot 32 = .ok (.putfield 300, 3) := by decide +kernel
theorem dX10_knot_35 : decode cX10_knot 35 = .ok (.return_, 1) := by decide +kernel
theorem dX10_expression_0 : decode cX10_expression 0 = .ok (.aload_n 0, 1) := by decide +kernel
theorem dX10_expression_1 : decode cX10_expression 1 = .ok (.invokevirtual 303, 3) := by decide +kernel
theorem dX10_expression_4 : decode cX10_expression 4 = .ok (.aload_n 0, 1) := by decide +kernel
theorem dX10_expression_5 : decode cX10_expression 5 = .ok (.bipush 12, 2) := by decide +kernel
theorem dX10_expression_7 : decode cX10_expression 7 = .ok (.invokevirtual 279, 3) := by decide +kernel
theorem dX10_expression_10 : decode cX10_expression 10 = .ok (.ifCond .eq 26, 3) := by decide +kernel
theorem dX10_expression_13 : decode cX10_expression 13 = .ok (.aload_n 0, 1) := by decide +kernel
theorem dX10_expression_14 : decode cX10_expression 14 = .ok (.invokevirtual 306, 3) := by decide +kernel
theorem dX10_expression_17 : decode cX10_expression 17 = .ok (.aload_n 0, 1) := by decide +kernel
theorem dX10_expression_18 : decode cX10_expression 18 = .ok (.invokevirtual 282, 3) := by decide +kernel
theorem dX10_expression_21 : decode cX10_expression 21 = .ok (.aload_n 0, 1) := by decide +kernel
theorem dX10_expression_22 : decode cX10_expression 22 = .ok (.invokevirtual 303, 3) := by decide +kernel
theorem dX10_expression_25 : decode cX10_expression 25 = .ok (.aload_n 0, 1) := by decide +kernel
theorem dX10_expression_26 : decode cX10_expression 26 = .ok (.iconst 2, 1) := by decide +kernel
theorem dX10_expression_27 : decode cX10_expression 27 = .ok (.sipush 262, 3) := by decide +kernel
theorem dX10_expression_30 : decode cX10_expression 30 = .ok (.invokevirtual 309, 3) := by decide +kernel
theorem dX10_expression_33 : decode cX10_expression 33 = .ok (.goto (-29), 3) := by decide +kernel
theorem dX10_expression_36 : decode cX10_expression 36 = .ok (.return_, 1) := by decide +kernel
theorem dX10_conjunction_0 : decode cX10_conjunction 0 = .ok (.aload_n 0, 1) := by decide +kernel
theorem dX10_conjunction_1 : decode cX10_conjunction 1 = .ok (.invokevirtual 313, 3) := by decide +kernel
theorem dX10_conjunction_4 : decode cX10_conjunction 4 = .ok (.aload_n 0, 1) := by decide +kernel
theorem dX10_conjunction_5 : decode cX10_conjunction 5 = .ok (.bipush 13, 2) := by decide +kernel
theorem dX10_conjunction_7 : decode cX10_conjunction 7 = .ok (.invokevirtual 279, 3) := by decide +kernel
theorem dX10_conjunction_10 : decode cX10_conjunction 10 = .ok (.ifCond .eq 26, 3) := by decide +kernel
theorem dX10_conjunction_13 : decode cX10_conjunction 13 = .ok (.aload_n 0, 1) := by decide +kernel
theorem dX10_conjunction_14 : decode cX10_conjunction 14 = .ok (.invokevirtual 306, 3) := by decide +kernel
theorem dX10_conjunction_17 : decode cX10_conjunction 17 = .ok (.aload_n 0, 1) := by decide +kernel
theorem dX10_conjunction_18 : decode cX10_conjunction 18 = .ok (.invokevirtual 282, 3) := by decide +kernel
theorem dX10_conjunction_21 : decode cX10_conjunction 21 = .ok (.aload_n 0, 1) := by decide +kernel
theorem dX10_conjunction_22 : decode cX10_conjunction 22 = .ok (.invokevirtual 313, 3) := by decide +kernel
theorem dX10_conjunction_25 : decode cX10_conjunction 25 = .ok (.aload_n 0, 1) := by decide +kernel
theorem dX10_conjunction_26 : decode cX10_conjunction 26 = .ok (.iconst 2, 1) := by decide +kernel
theorem dX10_conjunction_27 : decode cX10_conjunction 27 = .ok (.sipush 261, 3) := by decide +kernel
theorem dX10_conjunction_30 : decode cX10_conjunction 30 = .ok (.invokevirtual 309, 3) := by decide +kernel
theorem dX10_conjunction_33 : decode cX10_conjunction 33 = .ok (.goto (-29), 3) := by decide +kernel
theorem dX10_conjunction_36 : decode cX10_conjunction 36 = .ok (.return_, 1) := by decide +kernel
theorem dX10_negation_0 : decode cX10_negation 0 = .ok (.aload_n 0, 1) := by decide +kernel
theorem dX10_negation_1 : decode cX10_negation 1 = .ok (.bipush 14, 2) := by decide +kernel
theorem dX10_negation_3 : decode cX10_negation 3 = .ok (.invokevirtual 279, 3) := by decide +kernel
theorem dX10_negation_6 : decode cX10_negation 6 = .ok (.ifCond .eq 24, 3) := by decide +kernel
theorem dX10_negation_9 : decode cX10_negation 9 = .ok (.aload_n 0, 1) := by decide +kernel
theorem dX10_negation_10 : decode cX10_negation 10 = .ok (.invokevirtual 306, 3) := by decide +kernel
theorem dX10_negation_13 : decode cX10_negation 13 = .ok (.aload_n 0, 1) := by decide +kernel
theorem dX10_negation_14 : decode cX10_negation 14 = .ok (.invokevirtual 282, 3) := by decide +kernel
theorem dX10_negation_17 : decode cX10_negation 17 = .ok (.aload_n 0, 1) := by decide +kernel
theorem dX10_negation_18 : decode cX10_negation 18 = .ok (.invokevirtual 313, 3) := by decide +kernel
theorem dX10_negation_21 : decode cX10_negation 21 = .ok (.aload_n 0, 1) := by decide +kernel
theorem dX10_negation_22 : decode cX10_negation 22 = .ok (.iconst 2, 1) := by decide +kernel
theorem dX10_negation_23 : decode cX10_negation 23 = .ok (.sipush 260, 3) := by decide +kernel
theorem dX10_negation_26 : decode cX10_negation 26 = .ok (.invokevirtual 309, 3) := by decide +kernel
theorem dX10_negation_29 : decode cX10_negation 29 = .ok (.return_, 1) := by decide +kernel
theorem dX10_negation_30 : decode cX10_negation 30 = .ok (.aload_n 0, 1) := by decide +kernel
theorem dX10_negation_31 : decode cX10_negation 31 = .ok (.invokevirtual 316, 3) := by decide +kernel
theorem dX10_negation_34 : decode cX10_negation 34 = .ok (.aload_n 0, 1) := by decide +kernel
theorem dX10_negation_35 : decode cX10_negation 35 = .ok (.getfield 207, 3) := by decide +kernel
theorem dX10_negation_38 : decode cX10_negation 38 = .ok (.ifCond .ne 48, 3) := by decide +kernel
theorem dX10_negation_41 : decode cX10_negation 41 = .ok (.aload_n 0, 1) := by decide +kernel
theorem dX10_negation_42 : decode cX10_negation 42 = .ok (.getfield 172, 3) := by decide +kernel
theorem dX10_negation_45 : decode cX10_negation 45 = .ok (.iconst 3, 1) := by decide +kernel
theorem dX10_negation_46 : decode cX10_negation 46 = .ok (.if_icmp .ne 40, 3) := by decide +kernel
theorem dX10_negation_49 : decode cX10_negation 49 = .ok (.aload_n 0, 1) := by decide +kernel
theorem dX10_negation_50 : decode cX10_negation 50 = .ok (.getfield 182, 3) := by decide +kernel
theorem dX10_negation_53 : decode cX10_negation 53 = .ok (.bipush 60, 2) := by decide +kernel
theorem dX10_negation_55 : decode cX10_negation 55 = .ok (.if_icmp .eq 32, 3) := by decide +kernel
theorem dX10_negation_58 : decode cX10_negation 58 = .ok (.aload_n 0, 1) := by decide +kernel
theorem dX10_negation_59 : decode cX10_negation 59 = .ok (.getfield 182, 3) := by decide +kernel
theorem dX10_negation_62 : decode cX10_negation 62 = .ok (.bipush 62, 2) := by decide +kernel
theorem dX10_negation_64 : decode cX10_negation 64 = .ok (.if_icmp .eq 23, 3) := by decide +kernel
theorem dX10_negation_67 : decode cX10_negation 67 = .ok (.aload_n 0, 1) := by decide +kernel
theorem dX10_negation_68 : decode cX10_negation 68 = .ok (.getfield 182, 3) := by decide +kernel
theorem dX10_negation_71 : decode cX10_negation 71 = .ok (.bipush 61, 2) := by decide +kernel
theorem dX10_negation_73 : decode cX10_negation 73 = .ok (.if_icmp .eq 14, 3) := by decide +kernel
theorem dX10_negation_76 : decode cX10_negation 76 = .ok (.aload_n 0, 1) := by decide +kernel
theorem dX10_negation_77 : decode cX10_negation 77 = .ok (.getfield 182, 3) := by decide +kernel
theorem dX10_negation_80 : decode cX10_negation 80 = .ok (.sipush 256, 3) := by decide +kernel
theorem dX10_negation_83 : decode cX10_negation 83 = .ok (.if_icmp .ge 4, 3) := by decide +kernel
theorem dX10_negation_86 : decode cX10_negation 86 = .ok (.return_, 1) := by decide +kernel
theorem dX10_negation_87 : decode cX10_negation 87 = .ok (.aload_n 0, 1) := by decide +kernel
theorem dX10_negation_88 : decode cX10_negation 88 = .ok (.getfield 182, 3) := by decide +kernel
theorem dX10_negation_91 : decode cX10_negation 91 = .ok (.istore_n 1, 1) := by decide +kernel
theorem dX10_negation_92 : decode cX10_negation 92 = .ok (.aload_n 0, 1) := by decide +kernel
theorem dX10_negation_93 : decode cX10_negation 93 = .ok (.invokevirtual 306, 3) := by decide +kernel
theorem dX10_negation_96 : decode cX10_negation 96 = .ok (.aload_n 0, 1) := by decide +kernel
theorem dX10_negation_97 : decode cX10_negation 97 = .ok (.invokevirtual 282, 3) := by decide +kernel
theorem dX10_negation_100 : decode cX10_negation 100 = .ok (.aload_n 0, 1) := by decide +kernel
theorem dX10_negation_101 : decode cX10_negation 101 = .ok (.invokevirtual 316, 3) := by decide +kernel
theorem dX10_negation_104 : decode cX10_negation 104 = .ok (.aload_n 0, 1) := by decide +kernel
theorem dX10_negation_105 : decode cX10_negation 105 = .ok (.iconst 2, 1) := by decide +kernel
theorem dX10_negation_106 : decode cX10_negation 106 = .ok (.iload_n 1, 1) := by decide +kernel
theorem dX10_negation_107 : decode cX10_negation 107 = .ok (.invokevirtual 309, 3) := by decide +kernel
theorem dX10_negation_110 : decode cX10_negation 110 = .ok (.return_, 1) := by decide +kernel
theorem dX10_sum_0 : decode cX10_sum 0 = .ok (.aload_n 0, 1) := by decide +kernel
theorem dX10_sum_1 : decode cX10_sum 1 = .ok (.invokevirtual 319, 3) := by decide +kernel
theorem dX10_sum_4 : decode cX10_sum 4 = .ok (.aload_n 0, 1) := by decide +kernel
theorem dX10_sum_5 : decode cX10_sum 5 = .ok (.bipush 43, 2) := by decide +kernel
theorem dX10_sum_7 : decode cX10_sum 7 = .ok (.invokevirtual 219, 3) := by decide +kernel
theorem dX10_sum_10 : decode cX10_sum 10 = .ok (.ifCond .ne 12, 3) := by decide +kernel
theorem dX10_sum_13 : decode cX10_sum 13 = .ok (.aload_n 0, 1) := by decide +kernel
theorem dX10_sum_14 : decode cX10_sum 14 = .ok (.bipush 45, 2) := by decide +kernel
theorem dX10_sum_16 : decode cX10_sum 16 = .ok (.invokevirtual 219, 3) := by decide +kernel
theorem dX10_sum_19 : decode cX10_sum 19 = .ok (.ifCond .eq 29, 3) := by decide +kernel
theorem dX10_sum_22 : decode cX10_sum 22 = .ok (.aload_n 0, 1) := by decide +kernel
theorem dX10_sum_23 : decode cX10_sum 23 = .ok (.getfield 182, 3) := by decide +kernel
theorem dX10_sum_26 : decode cX10_sum 26 = .ok (.istore_n 1, 1) := by decide +kernel
theorem dX10_sum_27 : decode cX10_sum 27 = .ok (.aload_n 0, 1) := by decide +kernel
theorem dX10_sum_28 : decode cX10_sum 28 = .ok (.invokevirtual 306, 3) := by decide +kernel
theorem dX10_sum_31 : decode cX10_sum 31 = .ok (.aload_n 0, 1) := by decide +kernel
theorem dX10_sum_32 : decode cX10_sum 32 = .ok (.invokevirtual 282, 3) := by decide +kernel
theorem dX10_sum_35 : decode cX10_sum 35 = .ok (.aload_n 0, 1) := by decide +kernel
theorem dX10_sum_36 : decode cX10_sum 36 = .ok (.invokevirtual 319, 3) := by decide +kernel
theorem dX10_sum_39 : decode cX10_sum 39 = .ok (.aload_n 0, 1) := by decide +kernel
theorem dX10_sum_40 : decode cX10_sum 40 = .ok (.iconst 2, 1) := by decide +kernel
theorem dX10_sum_41 : decode cX10_sum 41 = .ok (.iload_n 1, 1) := by decide +kernel
theorem dX10_sum_42 : decode cX10_sum 42 = .ok (.invokevirtual 309, 3) := by decide +kernel
theorem dX10_sum_45 : decode cX10_sum 45 = .ok (.goto (-41), 3) := by decide +kernel
theorem dX10_sum_48 : decode cX10_sum 48 = .ok (.return_, 1) := by decide +kernel
theorem dX10_product_0 : decode cX10_product 0 = .ok (.aload_n 0, 1) := by decide +kernel
theorem dX10_product_1 : decode cX10_product 1 = .ok (.invokevirtual 322, 3) := by decide +kernel
theorem dX10_product_4 : decode cX10_product 4 = .ok (.aload_n 0, 1) := by decide +kernel
theorem dX10_product_5 : decode cX10_product 5 = .ok (.bipush 42, 2) := by decide +kernel
theorem dX10_product_7 : decode cX10_product 7 = .ok (.invokevirtual 219, 3) := by decide +kernel
theorem dX10_product_10 : decode cX10_product 10 = .ok (.ifCond .ne 12, 3) := by decide +kernel
theorem dX10_product_13 : decode cX10_product 13 = .ok (.aload_n 0, 1) := by decide +kernel
theorem dX10_product_14 : decode cX10_product 14 = .ok (.bipush 47, 2) := by decide +kernel
theorem dX10_product_16 : decode cX10_product 16 = .ok (.invokevirtual 219, 3) := by decide +kernel
theorem dX10_product_19 : decode cX10_product 19 = .ok (.ifCond .eq 29, 3) := by decide +kernel
theorem dX10_product_22 : decode cX10_product 22 = .ok (.aload_n 0, 1) := by decide +kernel
theorem dX10_product_23 : decode cX10_product 23 = .ok (.getfield 182, 3) := by decide +kernel
theorem dX10_product_26 : decode cX10_product 26 = .ok (.istore_n 1, 1) := by decide +kernel
theorem dX10_product_27 : decode cX10_product 27 = .ok (.aload_n 0, 1) := by decide +kernel
theorem dX10_product_28 : decode cX10_product 28 = .ok (.invokevirtual 306, 3) := by decide +kernel
theorem dX10_product_31 : decode cX10_product 31 = .ok (.aload_n 0, 1) := by decide +kernel
theorem dX10_product_32 : decode cX10_product 32 = .ok (.invokevirtual 282, 3) := by decide +kernel
theorem dX10_product_35 : decode cX10_product 35 = .ok (.aload_n 0, 1) := by decide +kernel
theorem dX10_product_36 : decode cX10_product 36 = .ok (.invokevirtual 322, 3) := by decide +kernel
theorem dX10_product_39 : decode cX10_product 39 = .ok (.aload_n 0, 1) := by decide +kernel
theorem dX10_product_40 : decode cX10_product 40 = .ok (.iconst 2, 1) := by decide +kernel
theorem dX10_product_41 : decode cX10_product 41 = .ok (.iload_n 1, 1) := by decide +kernel
theorem dX10_product_42 : decode cX10_product 42 = .ok (.invokevirtual 309, 3) := by decide +kernel
theorem dX10_product_45 : decode cX10_product 45 = .ok (.goto (-41), 3) := by decide +kernel
theorem dX10_product_48 : decode cX10_product 48 = .ok (.return_, 1) := by decide +kernel
theorem dX10_primary_0 : decode cX10_primary 0 = .ok (.aload_n 0, 1) := by decide +kernel
theorem dX10_primary_1 : decode cX10_primary 1 = .ok (.getfield 207, 3) := by decide +kernel
theorem dX10_primary_4 : decode cX10_primary 4 = .ok (.ifCond .eq 4, 3) := by decide +kernel
theorem dX10_primary_7 : decode cX10_primary 7 = .ok (.return_, 1) := by decide +kernel
theorem dX10_primary_8 : decode cX10_primary 8 = .ok (.aload_n 0, 1) := by decide +kernel
theorem dX10_primary_9 : decode cX10_primary 9 = .ok (.bipush 40, 2) := by decide +kernel
theorem dX10_primary_11 : decode cX10_primary 11 = .ok (.invokevirtual 219, 3) := by decide +kernel
theorem dX10_primary_14 : decode cX10_primary 14 = .ok (.ifCond .eq 87, 3) := by decide +kernel
theorem dX10_primary_17 : decode cX10_primary 17 = .ok (.aload_n 0, 1) := by decide +kernel
theorem dX10_primary_18 : decode cX10_primary 18 = .ok (.getfield 325, 3) := by decide +kernel
theorem dX10_primary_21 : decode cX10_primary 21 = .ok (.bipush 8, 2) := by decide +kernel
theorem dX10_primary_23 : decode cX10_primary 23 = .ok (.if_icmp .ne 8, 3) := by decide +kernel
theorem dX10_primary_26 : decode cX10_primary 26 = .ok (.aload_n 0, 1) := by decide +kernel
theorem dX10_primary_27 : decode cX10_primary 27 = .ok (.iconst 2, 1) := by decide +kernel
theorem dX10_primary_28 : decode cX10_primary 28 = .ok (.invokevirtual 216, 3) := by decide +kernel
theorem dX10_primary_31 : decode cX10_primary 31 = .ok (.aload_n 0, 1) := by decide +kernel
theorem dX10_primary_32 : decode cX10_primary 32 = .ok (.getfield 207, 3) := by decide +kernel
theorem dX10_primary_35 : decode cX10_primary 35 = .ok (.ifCond .eq 4, 3) := by decide +kernel
theorem dX10_primary_38 : decode cX10_primary 38 = .ok (.return_, 1) := by decide +kernel
theorem dX10_primary_39 : decode cX10_primary 39 = .ok (.aload_n 0, 1) := by decide +kernel
theorem dX10_primary_40 : decode cX10_primary 40 = .ok (.dup, 1) := by decide +kernel
theorem dX10_primary_41 : decode cX10_primary 41 = .ok (.getfield 325, 3) := by decide +kernel
theorem dX10_primary_44 : decode cX10_primary 44 = .ok (.iconst 1, 1) := by decide +kernel
theorem dX10_primary_45 : decode cX10_primary 45 = .ok (.iadd, 1) := by decide +kernel
theorem dX10_primary_46 : decode cX10_primary 46 = .ok (.putfield 325, 3) := by decide +kernel
theorem dX10_primary_49 : decode cX10_primary 49 = .ok (.aload_n 0, 1) := by decide +kernel
theorem dX10_primary_50 : decode cX10_primary 50 = .ok (.invokevirtual 213, 3) := by decide +kernel
theorem dX10_primary_53 : decode cX10_primary 53 = .ok (.aload_n 0, 1) := by decide +kernel
theorem dX10_primary_54 : decode cX10_primary 54 = .ok (.invokevirtual 258, 3) := by decide +kernel
theorem dX10_primary_57 : decode cX10_primary 57 = .ok (.aload_n 0, 1) := by decide +kernel
theorem dX10_primary_58 : decode cX10_primary 58 = .ok (.getfield 207, 3) := by decide +kernel
theorem dX10_primary_61 : decode cX10_primary 61 = .ok (.ifCond .ne 17, 3) := by decide +kernel
theorem dX10_primary_64 : decode cX10_primary 64 = .ok (.aload_n 0, 1) := by decide +kernel
theorem dX10_primary_65 : decode cX10_primary 65 = .ok (.bipush 41, 2) := by decide +kernel
theorem dX10_primary_67 : decode cX10_primary 67 = .ok (.invokevirtual 219, 3) := by decide +kernel
theorem dX10_primary_70 : decode cX10_primary 70 = .ok (.ifCond .ne 8, 3) := by decide +kernel
theorem dX10_primary_73 : decode cX10_primary 73 = .ok (.aload_n 0, 1) := by decide +kernel
theorem dX10_primary_74 : decode cX10_primary 74 = .ok (.iconst 1, 1) := by decide +kernel
theorem dX10_primary_75 : decode cX10_primary 75 = .ok (.invokevirtual 216, 3) := by decide +kernel
theorem dX10_primary_78 : decode cX10_primary 78 = .ok (.aload_n 0, 1) := by decide +kernel
theorem dX10_primary_79 : decode cX10_primary 79 = .ok (.getfield 207, 3) := by decide +kernel
theorem dX10_primary_82 : decode cX10_primary 82 = .ok (.ifCond .eq 4, 3) := by decide +kernel
theorem dX10_primary_85 : decode cX10_primary 85 = .ok (.return_, 1) := by decide +kernel
theorem dX10_primary_86 : decode cX10_primary 86 = .ok (.aload_n 0, 1) := by decide +kernel
theorem dX10_primary_87 : decode cX10_primary 87 = .ok (.dup, 1) := by decide +kernel
theorem dX10_primary_88 : decode cX10_primary 88 = .ok (.getfield 325, 3) := by decide +kernel
theorem dX10_primary_91 : decode cX10_primary 91 = .ok (.iconst 1, 1) := by decide +kernel
theorem dX10_primary_92 : decode cX10_primary 92 = .ok (.isub, 1) := by decide +kernel
theorem dX10_primary_93 : decode cX10_primary 93 = .ok (.putfield 325, 3) := by decide +kernel
theorem dX10_primary_96 : decode cX10_primary 96 = .ok (.aload_n 0, 1) := by decide +kernel
theorem dX10_primary_97 : decode cX10_primary 97 = .ok (.invokevirtual 213, 3) := by decide +kernel
theorem dX10_primary_100 : decode cX10_primary 100 = .ok (.return_, 1) := by decide +kernel
theorem dX10_primary_101 : decode cX10_primary 101 = .ok (.aload_n 0, 1) := by decide +kernel
theorem dX10_primary_102 : decode cX10_primary 102 = .ok (.getfield 172, 3) := by decide +kernel
theorem dX10_primary_105 : decode cX10_primary 105 = .ok (.iconst 2, 1) := by decide +kernel
theorem dX10_primary_106 : decode cX10_primary 106 = .ok (.if_icmp .ne 7, 3) := by decide +kernel
theorem dX10_primary_109 : decode cX10_primary 109 = .ok (.iconst 1, 1) := by decide +kernel
theorem dX10_primary_110 : decode cX10_primary 110 = .ok (.goto 4, 3) := by decide +kernel
theorem dX10_primary_113 : decode cX10_primary 113 = .ok (.iconst 0, 1) := by decide +kernel
theorem dX10_primary_114 : decode cX10_primary 114 = .ok (.istore_n 1, 1) := by decide +kernel
theorem dX10_primary_115 : decode cX10_primary 115 = .ok (.iload_n 1, 1) := by decide +kernel
theorem dX10_primary_116 : decode cX10_primary 116 = .ok (.ifCond .eq 21, 3) := by decide +kernel
theorem dX10_primary_119 : decode cX10_primary 119 = .ok (.aload_n 0, 1) := by decide +kernel
theorem dX10_primary_120 : decode cX10_primary 120 = .ok (.getfield 182, 3) := by decide +kernel
theorem dX10_primary_123 : decode cX10_primary 123 = .ok (.sipush 9999, 3) := by decide +kernel
theorem dX10_primary_126 : decode cX10_primary 126 = .ok (.if_icmp .le 11, 3) := by decide +kernel
theorem dX10_primary_129 : decode cX10_primary 129 = .ok (.aload_n 0, 1) := by decide +kernel
theorem dX10_primary_130 : decode cX10_primary 130 = .ok (.iconst 2, 1) := by decide +kernel
theorem dX10_primary_131 : decode cX10_primary 131 = .ok (.invokevirtual 216, 3) := by decide +kernel
theorem dX10_primary_134 : decode cX10_primary 134 = .ok (.goto 28, 3) := by decide +kernel
theorem dX10_primary_137 : decode cX10_primary 137 = .ok (.iload_n 1, 1) := by decide +kernel
theorem dX10_primary_138 : decode cX10_primary 138 = .ok (.ifCond .ne 24, 3) := by decide +kernel
theorem dX10_primary_141 : decode cX10_primary 141 = .ok (.aload_n 0, 1) := by decide +kernel
theorem dX10_primary_142 : decode cX10_primary 142 = .ok (.getfield 172, 3) := by decide +kernel
theorem dX10_primary_145 : decode cX10_primary 145 = .ok (.ifCond .ne 12, 3) := by decide +kernel
theorem dX10_primary_148 : decode cX10_primary 148 = .ok (.aload_n 0, 1) := by decide +kernel
theorem dX10_primary_149 : decode cX10_primary 149 = .ok (.getfield 182, 3) := by decide +kernel
theorem dX10_primary_152 : decode cX10_primary 152 = .ok (.bipush 15, 2) := by decide +kernel
theorem dX10_primary_154 : decode cX10_primary 154 = .ok (.if_icmp .ge 8, 3) := by decide +kernel
theorem dX10_primary_157 : decode cX10_primary 157 = .ok (.aload_n 0, 1) := by decide +kernel
theorem dX10_primary_158 : decode cX10_primary 158 = .ok (.iconst 1, 1) := by decide +kernel
theorem dX10_primary_159 : decode cX10_primary 159 = .ok (.invokevirtual 216, 3) := by decide +kernel
theorem dX10_primary_162 : decode cX10_primary 162 = .ok (.aload_n 0, 1) := by decide +kernel
theorem dX10_primary_163 : decode cX10_primary 163 = .ok (.invokevirtual 306, 3) := by decide +kernel
theorem dX10_primary_166 : decode cX10_primary 166 = .ok (.aload_n 0, 1) := by decide +kernel
theorem dX10_primary_167 : decode cX10_primary 167 = .ok (.iload_n 1, 1) := by decide +kernel
theorem dX10_primary_168 : decode cX10_primary 168 = .ok (.ifCond .eq 7, 3) := by decide +kernel
theorem dX10_primary_171 : decode cX10_primary 171 = .ok (.iconst 0, 1) := by decide +kernel
theorem dX10_primary_172 : decode cX10_primary 172 = .ok (.goto 4, 3) := by decide +kernel
theorem dX10_primary_175 : decode cX10_primary 175 = .ok (.iconst 1, 1) := by decide +kernel
theorem dX10_primary_176 : decode cX10_primary 176 = .ok (.iload_n 1, 1) := by decide +kernel
theorem dX10_primary_177 : decode cX10_primary 177 = .ok (.ifCond .eq 10, 3) := by decide +kernel
theorem dX10_primary_180 : decode cX10_primary 180 = .ok (.aload_n 0, 1) := by decide +kernel
theorem dX10_primary_181 : decode cX10_primary 181 = .ok (.getfield 182, 3) := by decide +kernel
theorem dX10_primary_184 : decode cX10_primary 184 = .ok (.goto 10, 3) := by decide +kernel
theorem dX10_primary_187 : decode cX10_primary 187 = .ok (.aload_n 0, 1) := by decide +kernel
theorem dX10_primary_188 : decode cX10_primary 188 = .ok (.getfield 182, 3) := by decide +kernel
theorem dX10_primary_191 : decode cX10_primary 191 = .ok (.bipush 15, 2) := by decide +kernel
theorem dX10_primary_193 : decode cX10_primary 193 = .ok (.isub, 1) := by decide +kernel
theorem dX10_primary_194 : decode cX10_primary 194 = .ok (.invokevirtual 309, 3) := by decide +kernel
theorem dX10_primary_197 : decode cX10_primary 197 = .ok (.aload_n 0, 1) := by decide +kernel
theorem dX10_primary_198 : decode cX10_primary 198 = .ok (.invokevirtual 282, 3) := by decide +kernel
theorem dX10_primary_201 : decode cX10_primary 201 = .ok (.return_, 1) := by decide +kernel
theorem dX10_text_0 : decode cX10_text 0 = .ok (.aload_n 0, 1) := by decide +kernel
theorem dX10_text_1 : decode cX10_text 1 = .ok (.iconst 0, 1) := by decide +kernel
theorem dX10_text_2 : decode cX10_text 2 = .ok (.putfield 153, 3) := by decide +kernel
theorem dX10_text_5 : decode cX10_text 5 = .ok (.iload_n 1, 1) := by decide +kernel
theorem dX10_text_6 : decode cX10_text 6 = .ok (.ifCond .lt 11, 3) := by decide +kernel
theorem dX10_text_9 : decode cX10_text 9 = .ok (.iload_n 1, 1) := by decide +kernel
theorem dX10_text_10 : decode cX10_text 10 = .ok (.aload_n 0, 1) := by decide +kernel
theorem dX10_text_11 : decode cX10_text 11 = .ok (.getfield 156, 3) := by decide +kernel
theorem dX10_text_14 : decode cX10_text 14 = .ok (.if_icmp .le 6, 3) := by decide +kernel
theorem dX10_text_17 : decode cX10_text 17 = .ok (.bipush (-2), 2) := by decide +kernel
theorem dX10_text_19 : decode cX10_text 19 = .ok (.ireturn, 1) := by decide +kernel
theorem dX10_text_20 : decode cX10_text 20 = .ok (.aload_n 0, 1) := by decide +kernel
theorem dX10_text_21 : decode cX10_text 21 = .ok (.iload_n 1, 1) := by decide +kernel
theorem dX10_text_22 : decode cX10_text 22 = .ok (.putfield 162, 3) := by decide +kernel
theorem dX10_text_25 : decode cX10_text 25 = .ok (.aload_n 0, 1) := by decide +kernel
theorem dX10_text_26 : decode cX10_text 26 = .ok (.iconst 0, 1) := by decide +kernel
theorem dX10_text_27 : decode cX10_text 27 = .ok (.putfield 156, 3) := by decide +kernel
theorem dX10_text_30 : decode cX10_text 30 = .ok (.aload_n 0, 1) := by decide +kernel
theorem dX10_text_31 : decode cX10_text 31 = .ok (.iconst 0, 1) := by decide +kernel
theorem dX10_text_32 : decode cX10_text 32 = .ok (.putfield 159, 3) := by decide +kernel
theorem dX10_text_35 : decode cX10_text 35 = .ok (.aload_n 0, 1) := by decide +kernel
theorem dX10_text_36 : decode cX10_text 36 = .ok (.iconst 0, 1) := by decide +kernel
theorem dX10_text_37 : decode cX10_text 37 = .ok (.putfield 207, 3) := by decide +kernel
theorem dX10_text_40 : decode cX10_text 40 = .ok (.aload_n 0, 1) := by decide +kernel
theorem dX10_text_41 : decode cX10_text 41 = .ok (.iconst (-1), 1) := by decide +kernel
theorem dX10_text_42 : decode cX10_text 42 = .ok (.putfield 210, 3) := by decide +kernel
theorem dX10_text_45 : decode cX10_text 45 = .ok (.aload_n 0, 1) := by decide +kernel
theorem dX10_text_46 : decode cX10_text 46 = .ok (.iconst 0, 1) := by decide +kernel
theorem dX10_text_47 : decode cX10_text 47 = .ok (.putfield 230, 3) := by decide +kernel
theorem dX10_text_50 : decode cX10_text 50 = .ok (.aload_n 0, 1) := by decide +kernel
theorem dX10_text_51 : decode cX10_text 51 = .ok (.iconst 0, 1) := by decide +kernel
theorem dX10_text_52 : decode cX10_text 52 = .ok (.putfield 233, 3) := by decide +kernel
theorem dX10_text_55 : decode cX10_text 55 = .ok (.aload_n 0, 1) := by decide +kernel
theorem dX10_text_56 : decode cX10_text 56 = .ok (.iconst 0, 1) := by decide +kernel
theorem dX10_text_57 : decode cX10_text 57 = .ok (.putfield 236, 3) := by decide +kernel
theorem dX10_text_60 : decode cX10_text 60 = .ok (.aload_n 0, 1) := by decide +kernel
theorem dX10_text_61 : decode cX10_text 61 = .ok (.iconst 0, 1) := by decide +kernel
theorem dX10_text_62 : decode cX10_text 62 = .ok (.putfield 239, 3) := by decide +kernel
theorem dX10_text_65 : decode cX10_text 65 = .ok (.aload_n 0, 1) := by decide +kernel
theorem dX10_text_66 : decode cX10_text 66 = .ok (.iconst 0, 1) := by decide +kernel
theorem dX10_text_67 : decode cX10_text 67 = .ok (.putfield 294, 3) := by decide +kernel
theorem dX10_text_70 : decode cX10_text 70 = .ok (.aload_n 0, 1) := by decide +kernel
theorem dX10_text_71 : decode cX10_text 71 = .ok (.iconst 0, 1) := by decide +kernel
theorem dX10_text_72 : decode cX10_text 72 = .ok (.putfield 297, 3) := by decide +kernel
theorem dX10_text_75 : decode cX10_text 75 = .ok (.aload_n 0, 1) := by decide +kernel
theorem dX10_text_76 : decode cX10_text 76 = .ok (.iconst 4, 1) := by decide +kernel
theorem dX10_text_77 : decode cX10_text 77 = .ok (.putfield 264, 3) := by decide +kernel
theorem dX10_text_80 : decode cX10_text 80 = .ok (.aload_n 0, 1) := by decide +kernel
theorem dX10_text_81 : decode cX10_text 81 = .ok (.bipush 6, 2) := by decide +kernel
theorem dX10_text_83 : decode cX10_text 83 = .ok (.putfield 267, 3) := by decide +kernel
theorem dX10_text_86 : decode cX10_text 86 = .ok (.aload_n 0, 1) := by decide +kernel
theorem dX10_text_87 : decode cX10_text 87 = .ok (.sipush 300, 3) := by decide +kernel
theorem dX10_text_90 : decode cX10_text 90 = .ok (.putfield 270, 3) := by decide +kernel
theorem dX10_text_93 : decode cX10_text 93 = .ok (.aload_n 0, 1) := by decide +kernel
theorem dX10_text_94 : decode cX10_text 94 = .ok (.iconst 0, 1) := by decide +kernel
theorem dX10_text_95 : decode cX10_text 95 = .ok (.putfield 300, 3) := by decide +kernel
theorem dX10_text_98 : decode cX10_text 98 = .ok (.aload_n 0, 1) := by decide +kernel
theorem dX10_text_99 : decode cX10_text 99 = .ok (.iconst 0, 1) := by decide +kernel
theorem dX10_text_100 : decode cX10_text 100 = .ok (.putfield 245, 3) := by decide +kernel
theorem dX10_text_103 : decode cX10_text 103 = .ok (.aload_n 0, 1) := by decide +kernel
theorem dX10_text_104 : decode cX10_text 104 = .ok (.iconst 0, 1) := by decide +kernel
theorem dX10_text_105 : decode cX10_text 105 = .ok (.putfield 273, 3) := by decide +kernel
theorem dX10_text_108 : decode cX10_text 108 = .ok (.aload_n 0, 1) := by decide +kernel
theorem dX10_text_109 : decode cX10_text 109 = .ok (.iconst 0, 1) := by decide +kernel
theorem dX10_text_110 : decode cX10_text 110 = .ok (.putfield 325, 3) := by decide +kernel
theorem dX10_text_113 : decode cX10_text 113 = .ok (.aload_n 0, 1) := by decide +kernel
theorem dX10_text_114 : decode cX10_text 114 = .ok (.invokevirtual 213, 3) := by decide +kernel
theorem dX10_text_117 : decode cX10_text 117 = .ok (.aload_n 0, 1) := by decide +kernel
theorem dX10_text_118 : decode cX10_text 118 = .ok (.getfield 207, 3) := by decide +kernel
theorem dX10_text_121 : decode cX10_text 121 = .ok (.ifCond .ne 18, 3) := by decide +kernel
theorem dX10_text_124 : decode cX10_text 124 = .ok (.aload_n 0, 1) := by decide +kernel
theorem dX10_text_125 : decode cX10_text 125 = .ok (.getfield 172, 3) := by decide +kernel
theorem dX10_text_128 : decode cX10_text 128 = .ok (.iconst 4, 1) := by decide +kernel
theorem dX10_text_129 : decode cX10_text 129 = .ok (.if_icmp .eq 10, 3) := by decide +kernel
theorem dX10_text_132 : decode cX10_text 132 = .ok (.aload_n 0, 1) := by decide +kernel
theorem dX10_text_133 : decode cX10_text 133 = .ok (.invokevirtual 328, 3) := by decide +kernel
theorem dX10_text_136 : decode cX10_text 136 = .ok (.goto (-19), 3) := by decide +kernel
theorem dX10_text_139 : decode cX10_text 139 = .ok (.aload_n 0, 1) := by decide +kernel
theorem dX10_text_140 : decode cX10_text 140 = .ok (.aload_n 0, 1) := by decide +kernel
theorem dX10_text_141 : decode cX10_text 141 = .ok (.getfield 207, 3) := by decide +kernel
theorem dX10_text_144 : decode cX10_text 144 = .ok (.putfield 331, 3) := by decide +kernel
theorem dX10_text_147 : decode cX10_text 147 = .ok (.aload_n 0, 1) := by decide +kernel
theorem dX10_text_148 : decode cX10_text 148 = .ok (.aload_n 0, 1) := by decide +kernel
theorem dX10_text_149 : decode cX10_text 149 = .ok (.getfield 210, 3) := by decide +kernel
theorem dX10_text_152 : decode cX10_text 152 = .ok (.putfield 86, 3) := by decide +kernel
theorem dX10_text_155 : decode cX10_text 155 = .ok (.aload_n 0, 1) := by decide +kernel
theorem dX10_text_156 : decode cX10_text 156 = .ok (.getfield 207, 3) := by decide +kernel
theorem dX10_text_159 : decode cX10_text 159 = .ok (.ifCond .eq 5, 3) := by decide +kernel
theorem dX10_text_162 : decode cX10_text 162 = .ok (.iconst (-1), 1) := by decide +kernel
theorem dX10_text_163 : decode cX10_text 163 = .ok (.ireturn, 1) := by decide +kernel
theorem dX10_text_164 : decode cX10_text 164 = .ok (.aload_n 0, 1) := by decide +kernel
theorem dX10_text_165 : decode cX10_text 165 = .ok (.invokevirtual 334, 3) := by decide +kernel
theorem dX10_text_168 : decode cX10_text 168 = .ok (.aload_n 0, 1) := by decide +kernel
theorem dX10_text_169 : decode cX10_text 169 = .ok (.getfield 273, 3) := by decide +kernel
theorem dX10_text_172 : decode cX10_text 172 = .ok (.ireturn, 1) := by decide +kernel
theorem dX10_lays_0 : decode cX10_lays 0 = .ok (.aload_n 0, 1) := by decide +kernel
theorem dX10_lays_1 : decode cX10_lays 1 = .ok (.aload_n 0, 1) := by decide +kernel
theorem dX10_lays_2 : decode cX10_lays 2 = .ok (.getfield 230, 3) := by decide +kernel
theorem dX10_lays_5 : decode cX10_lays 5 = .ok (.putfield 337, 3) := by decide +kernel
theorem dX10_lays_8 : decode cX10_lays 8 = .ok (.aload_n 0, 1) := by decide +kernel
theorem dX10_lays_9 : decode cX10_lays 9 = .ok (.aload_n 0, 1) := by decide +kernel
theorem dX10_lays_10 : decode cX10_lays 10 = .ok (.getfield 233, 3) := by decide +kernel
theorem dX10_lays_13 : decode cX10_lays 13 = .ok (.putfield 340, 3) := by decide +kernel
theorem dX10_lays_16 : decode cX10_lays 16 = .ok (.aload_n 0, 1) := by decide +kernel
theorem dX10_lays_17 : decode cX10_lays 17 = .ok (.aload_n 0, 1) := by decide +kernel
theorem dX10_lays_18 : decode cX10_lays 18 = .ok (.getfield 236, 3) := by decide +kernel
theorem dX10_lays_21 : decode cX10_lays 21 = .ok (.putfield 343, 3) := by decide +kernel
theorem dX10_lays_24 : decode cX10_lays 24 = .ok (.aload_n 0, 1) := by decide +kernel
theorem dX10_lays_25 : decode cX10_lays 25 = .ok (.aload_n 0, 1) := by decide +kernel
theorem dX10_lays_26 : decode cX10_lays 26 = .ok (.getfield 239, 3) := by decide +kernel
theorem dX10_lays_29 : decode cX10_lays 29 = .ok (.putfield 346, 3) := by decide +kernel
theorem dX10_lays_32 : decode cX10_lays 32 = .ok (.aload_n 0, 1) := by decide +kernel
theorem dX10_lays_33 : decode cX10_lays 33 = .ok (.aload_n 0, 1) := by decide +kernel
theorem dX10_lays_34 : decode cX10_lays 34 = .ok (.getfield 294, 3) := by decide +kernel
theorem dX10_lays_37 : decode cX10_lays 37 = .ok (.putfield 349, 3) := by decide +kernel
theorem dX10_lays_40 : decode cX10_lays 40 = .ok (.aload_n 0, 1) := by decide +kernel
theorem dX10_lays_41 : decode cX10_lays 41 = .ok (.aload_n 0, 1) := by decide +kernel
theorem dX10_lays_42 : decode cX10_lays 42 = .ok (.getfield 297, 3) := by decide +kernel
theorem dX10_lays_45 : decode cX10_lays 45 = .ok (.putfield 352, 3) := by decide +kernel
theorem dX10_lays_48 : decode cX10_lays 48 = .ok (.aload_n 0, 1) := by decide +kernel
theorem dX10_lays_49 : decode cX10_lays 49 = .ok (.aload_n 0, 1) := by decide +kernel
theorem dX10_lays_50 : decode cX10_lays 50 = .ok (.getfield 264, 3) := by decide +kernel
theorem dX10_lays_53 : decode cX10_lays 53 = .ok (.putfield 76, 3) := by decide +kernel
theorem dX10_lays_56 : decode cX10_lays 56 = .ok (.aload_n 0, 1) := by decide +kernel
theorem dX10_lays_57 : decode cX10_lays 57 = .ok (.aload_n 0, 1) := by decide +kernel
theorem dX10_lays_58 : decode cX10_lays 58 = .ok (.getfield 267, 3) := by decide +kernel
theorem dX10_lays_61 : decode cX10_lays 61 = .ok (.putfield 80, 3) := by decide +kernel
theorem dX10_lays_64 : decode cX10_lays 64 = .ok (.aload_n 0, 1) := by decide +kernel
theorem dX10_lays_65 : decode cX10_lays 65 = .ok (.aload_n 0, 1) := by decide +kernel
theorem dX10_lays_66 : decode cX10_lays 66 = .ok (.getfield 270, 3) := by decide +kernel
theorem dX10_lays_69 : decode cX10_lays 69 = .ok (.putfield 83, 3) := by decide +kernel
theorem dX10_lays_72 : decode cX10_lays 72 = .ok (.aload_n 0, 1) := by decide +kernel
theorem dX10_lays_73 : decode cX10_lays 73 = .ok (.iconst 0, 1) := by decide +kernel
theorem dX10_lays_74 : decode cX10_lays 74 = .ok (.putfield 355, 3) := by decide +kernel
theorem dX10_lays_77 : decode cX10_lays 77 = .ok (.aload_n 0, 1) := by decide +kernel
theorem dX10_lays_78 : decode cX10_lays 78 = .ok (.iconst (-1), 1) := by decide +kernel
theorem dX10_lays_79 : decode cX10_lays 79 = .ok (.putfield 89, 3) := by decide +kernel
theorem dX10_lays_82 : decode cX10_lays 82 = .ok (.aload_n 0, 1) := by decide +kernel
theorem dX10_lays_83 : decode cX10_lays 83 = .ok (.iconst 0, 1) := by decide +kernel
theorem dX10_lays_84 : decode cX10_lays 84 = .ok (.putfield 358, 3) := by decide +kernel
theorem dX10_lays_87 : decode cX10_lays 87 = .ok (.iconst 0, 1) := by decide +kernel
theorem dX10_lays_88 : decode cX10_lays 88 = .ok (.istore_n 1, 1) := by decide +kernel
theorem dX10_lays_89 : decode cX10_lays 89 = .ok (.iload_n 1, 1) := by decide +kernel
theorem dX10_lays_90 : decode cX10_lays 90 = .ok (.iconst 4, 1) := by decide +kernel
theorem dX10_lays_91 : decode cX10_lays 91 = .ok (.if_icmp .ge 23, 3) := by decide +kernel
theorem dX10_lays_94 : decode cX10_lays 94 = .ok (.aload_n 0, 1) := by decide +kernel
theorem dX10_lays_95 : decode cX10_lays 95 = .ok (.getfield 15, 3) := by decide +kernel
theorem dX10_lays_98 : decode cX10_lays 98 = .ok (.iload_n 1, 1) := by decide +kernel
theorem dX10_lays_99 : decode cX10_lays 99 = .ok (.aload_n 0, 1) := by decide +kernel
theorem dX10_lays_100 : decode cX10_lays 100 = .ok (.getfield 15, 3) := by decide +kernel
theorem dX10_lays_103 : decode cX10_lays 103 = .ok (.iconst 4, 1) := by decide +kernel
theorem dX10_lays_104 : decode cX10_lays 104 = .ok (.iload_n 1, 1) := by decide +kernel
theorem dX10_lays_105 : decode cX10_lays 105 = .ok (.iadd, 1) := by decide +kernel
theorem dX10_lays_106 : decode cX10_lays 106 = .ok (.iaload, 1) := by decide +kernel
theorem dX10_lays_107 : decode cX10_lays 107 = .ok (.iastore, 1) := by decide +kernel
theorem dX10_lays_108 : decode cX10_lays 108 = .ok (.iinc 1 1, 3) := by decide +kernel
theorem dX10_lays_111 : decode cX10_lays 111 = .ok (.goto (-22), 3) := by decide +kernel
theorem dX10_lays_114 : decode cX10_lays 114 = .ok (.iconst 0, 1) := by decide +kernel
theorem dX10_lays_115 : decode cX10_lays 115 = .ok (.istore_n 1, 1) := by decide +kernel
theorem dX10_lays_116 : decode cX10_lays 116 = .ok (.iload_n 1, 1) := by decide +kernel
theorem dX10_lays_117 : decode cX10_lays 117 = .ok (.bipush 8, 2) := by decide +kernel
theorem dX10_lays_119 : decode cX10_lays 119 = .ok (.if_icmp .ge 54, 3) := by decide +kernel
theorem dX10_lays_122 : decode cX10_lays 122 = .ok (.aload_n 0, 1) := by decide +kernel
theorem dX10_lays_123 : decode cX10_lays 123 = .ok (.getfield 18, 3) := by decide +kernel
theorem dX10_lays_126 : decode cX10_lays 126 = .ok (.iload_n 1, 1) := by decide +kernel
theorem dX10_lays_127 : decode cX10_lays 127 = .ok (.aload_n 0, 1) := by decide +kernel
theorem dX10_lays_128 : decode cX10_lays 128 = .ok (.getfield 18, 3) := by decide +kernel
theorem dX10_lays_131 : decode cX10_lays 131 = .ok (.bipush 8, 2) := by decide +kernel
theorem dX10_lays_133 : decode cX10_lays 133 = .ok (.iload_n 1, 1) := by decide +kernel
theorem dX10_lays_134 : decode cX10_lays 134 = .ok (.iadd, 1) := by decide +kernel
theorem dX10_lays_135 : decode cX10_lays 135 = .ok (.iaload, 1) := by decide +kernel
theorem dX10_lays_136 : decode cX10_lays 136 = .ok (.iastore, 1) := by decide +kernel
theorem dX10_lays_137 : decode cX10_lays 137 = .ok (.aload_n 0, 1) := by decide +kernel
theorem dX10_lays_138 : decode cX10_lays 138 = .ok (.getfield 21, 3) := by decide +kernel
theorem dX10_lays_141 : decode cX10_lays 141 = .ok (.iload_n 1, 1) := by decide +kernel
theorem dX10_lays_142 : decode cX10_lays 142 = .ok (.aload_n 0, 1) := by decide +kernel
theorem dX10_lays_143 : decode cX10_lays 143 = .ok (.getfield 21, 3) := by decide +kernel
theorem dX10_lays_146 : decode cX10_lays 146 = .ok (.bipush 8, 2) := by decide +kernel
theorem dX10_lays_148 : decode cX10_lays 148 = .ok (.iload_n 1, 1) := by decide +kernel
theorem dX10_lays_149 : decode cX10_lays 149 = .ok (.iadd, 1) := by decide +kernel
theorem dX10_lays_150 : decode cX10_lays 150 = .ok (.iaload, 1) := by decide +kernel
theorem dX10_lays_151 : decode cX10_lays 151 = .ok (.iastore, 1) := by decide +kernel
theorem dX10_lays_152 : decode cX10_lays 152 = .ok (.aload_n 0, 1) := by decide +kernel
theorem dX10_lays_153 : decode cX10_lays 153 = .ok (.getfield 24, 3) := by decide +kernel
theorem dX10_lays_156 : decode cX10_lays 156 = .ok (.iload_n 1, 1) := by decide +kernel
theorem dX10_lays_157 : decode cX10_lays 157 = .ok (.aload_n 0, 1) := by decide +kernel
theorem dX10_lays_158 : decode cX10_lays 158 = .ok (.getfield 24, 3) := by decide +kernel
theorem dX10_lays_161 : decode cX10_lays 161 = .ok (.bipush 8, 2) := by decide +kernel
theorem dX10_lays_163 : decode cX10_lays 163 = .ok (.iload_n 1, 1) := by decide +kernel
theorem dX10_lays_164 : decode cX10_lays 164 = .ok (.iadd, 1) := by decide +kernel
theorem dX10_lays_165 : decode cX10_lays 165 = .ok (.iaload, 1) := by decide +kernel
theorem dX10_lays_166 : decode cX10_lays 166 = .ok (.iastore, 1) := by decide +kernel
theorem dX10_lays_167 : decode cX10_lays 167 = .ok (.iinc 1 1, 3) := by decide +kernel
theorem dX10_lays_170 : decode cX10_lays 170 = .ok (.goto (-54), 3) := by decide +kernel
theorem dX10_lays_173 : decode cX10_lays 173 = .ok (.iconst 0, 1) := by decide +kernel
theorem dX10_lays_174 : decode cX10_lays 174 = .ok (.istore_n 1, 1) := by decide +kernel
theorem dX10_lays_175 : decode cX10_lays 175 = .ok (.iload_n 1, 1) := by decide +kernel
theorem dX10_lays_176 : decode cX10_lays 176 = .ok (.bipush 80, 2) := by decide +kernel
theorem dX10_lays_178 : decode cX10_lays 178 = .ok (.if_icmp .ge 99, 3) := by decide +kernel
theorem dX10_lays_181 : decode cX10_lays 181 = .ok (.aload_n 0, 1) := by decide +kernel
theorem dX10_lays_182 : decode cX10_lays 182 = .ok (.getfield 27, 3) := by decide +kernel
theorem dX10_lays_185 : decode cX10_lays 185 = .ok (.iload_n 1, 1) := by decide +kernel
theorem dX10_lays_186 : decode cX10_lays 186 = .ok (.aload_n 0, 1) := by decide +kernel
theorem dX10_lays_187 : decode cX10_lays 187 = .ok (.getfield 27, 3) := by decide +kernel
theorem dX10_lays_190 : decode cX10_lays 190 = .ok (.bipush 80, 2) := by decide +kernel
theorem dX10_lays_192 : decode cX10_lays 192 = .ok (.iload_n 1, 1) := by decide +kernel
theorem dX10_lays_193 : decode cX10_lays 193 = .ok (.iadd, 1) := by decide +kernel
theorem dX10_lays_194 : decode cX10_lays 194 = .ok (.iaload, 1) := by decide +kernel
theorem dX10_lays_195 : decode cX10_lays 195 = .ok (.iastore, 1) := by decide +kernel
theorem dX10_lays_196 : decode cX10_lays 196 = .ok (.aload_n 0, 1) := by decide +kernel
theorem dX10_lays_197 : decode cX10_lays 197 = .ok (.getfield 30, 3) := by decide +kernel
theorem dX10_lays_200 : decode cX10_lays 200 = .ok (.iload_n 1, 1) := by decide +kernel
theorem dX10_lays_201 : decode cX10_lays 201 = .ok (.aload_n 0, 1) := by decide +kernel
theorem dX10_lays_202 : decode cX10_lays 202 = .ok (.getfield 30, 3) := by decide +kernel
theorem dX10_lays_205 : decode cX10_lays 205 = .ok (.bipush 80, 2) := by decide +kernel
theorem dX10_lays_207 : decode cX10_lays 207 = .ok (.iload_n 1, 1) := by decide +kernel
theorem dX10_lays_208 : decode cX10_lays 208 = .ok (.iadd, 1) := by decide +kernel
theorem dX10_lays_209 : decode cX10_lays 209 = .ok (.iaload, 1) := by decide +kernel
theorem dX10_lays_210 : decode cX10_lays 210 = .ok (.iastore, 1) := by decide +kernel
theorem dX10_lays_211 : decode cX10_lays 211 = .ok (.aload_n 0, 1) := by decide +kernel
theorem dX10_lays_212 : decode cX10_lays 212 = .ok (.getfield 33, 3) := by decide +kernel
theorem dX10_lays_215 : decode cX10_lays 215 = .ok (.iload_n 1, 1) := by decide +kernel
theorem dX10_lays_216 : decode cX10_lays 216 = .ok (.aload_n 0, 1) := by decide +kernel
theorem dX10_lays_217 : decode cX10_lays 217 = .ok (.getfield 33, 3) := by decide +kernel
theorem dX10_lays_220 : decode cX10_lays 220 = .ok (.bipush 80, 2) := by decide +kernel
theorem dX10_lays_222 : decode cX10_lays 222 = .ok (.iload_n 1, 1) := by decide +kernel
theorem dX10_lays_223 : decode cX10_lays 223 = .ok (.iadd, 1) := by decide +kernel
theorem dX10_lays_224 : decode cX10_lays 224 = .ok (.iaload, 1) := by decide +kernel
theorem dX10_lays_225 : decode cX10_lays 225 = .ok (.iastore, 1) := by decide +kernel
theorem dX10_lays_226 : decode cX10_lays 226 = .ok (.aload_n 0, 1) := by decide +kernel
theorem dX10_lays_227 : decode cX10_lays 227 = .ok (.getfield 36, 3) := by decide +kernel
theorem dX10_lays_230 : decode cX10_lays 230 = .ok (.iload_n 1, 1) := by decide +kernel
theorem dX10_lays_231 : decode cX10_lays 231 = .ok (.aload_n 0, 1) := by decide +kernel
theorem dX10_lays_232 : decode cX10_lays 232 = .ok (.getfield 36, 3) := by decide +kernel
theorem dX10_lays_235 : decode cX10_lays 235 = .ok (.bipush 80, 2) := by decide +kernel
theorem dX10_lays_237 : decode cX10_lays 237 = .ok (.iload_n 1, 1) := by decide +kernel
theorem dX10_lays_238 : decode cX10_lays 238 = .ok (.iadd, 1) := by decide +kernel
theorem dX10_lays_239 : decode cX10_lays 239 = .ok (.iaload, 1) := by decide +kernel
theorem dX10_lays_240 : decode cX10_lays 240 = .ok (.iastore, 1) := by decide +kernel
theorem dX10_lays_241 : decode cX10_lays 241 = .ok (.aload_n 0, 1) := by decide +kernel
theorem dX10_lays_242 : decode cX10_lays 242 = .ok (.getfield 39, 3) := by decide +kernel
theorem dX10_lays_245 : decode cX10_lays 245 = .ok (.iload_n 1, 1) := by decide +kernel
theorem dX10_lays_246 : decode cX10_lays 246 = .ok (.aload_n 0, 1) := by decide +kernel
theorem dX10_lays_247 : decode cX10_lays 247 = .ok (.getfield 39, 3) := by decide +kernel
theorem dX10_lays_250 : decode cX10_lays 250 = .ok (.bipush 80, 2) := by decide +kernel
theorem dX10_lays_252 : decode cX10_lays 252 = .ok (.iload_n 1, 1) := by decide +kernel
theorem dX10_lays_253 : decode cX10_lays 253 = .ok (.iadd, 1) := by decide +kernel
theorem dX10_lays_254 : decode cX10_lays 254 = .ok (.baload, 1) := by decide +kernel
theorem dX10_lays_255 : decode cX10_lays 255 = .ok (.bastore, 1) := by decide +kernel
theorem dX10_lays_256 : decode cX10_lays 256 = .ok (.aload_n 0, 1) := by decide +kernel
theorem dX10_lays_257 : decode cX10_lays 257 = .ok (.getfield 43, 3) := by decide +kernel
theorem dX10_lays_260 : decode cX10_lays 260 = .ok (.iload_n 1, 1) := by decide +kernel
theorem dX10_lays_261 : decode cX10_lays 261 = .ok (.aload_n 0, 1) := by decide +kernel
theorem dX10_lays_262 : decode cX10_lays 262 = .ok (.getfield 43, 3) := by decide +kernel
theorem dX10_lays_265 : decode cX10_lays 265 = .ok (.bipush 80, 2) := by decide +kernel
theorem dX10_lays_267 : decode cX10_lays 267 = .ok (.iload_n 1, 1) := by decide +kernel
theorem dX10_lays_268 : decode cX10_lays 268 = .ok (.iadd, 1) := by decide +kernel
theorem dX10_lays_269 : decode cX10_lays 269 = .ok (.baload, 1) := by decide +kernel
theorem dX10_lays_270 : decode cX10_lays 270 = .ok (.bastore, 1) := by decide +kernel
theorem dX10_lays_271 : decode cX10_lays 271 = .ok (.iinc 1 1, 3) := by decide +kernel
theorem dX10_lays_274 : decode cX10_lays 274 = .ok (.goto (-99), 3) := by decide +kernel
theorem dX10_lays_277 : decode cX10_lays 277 = .ok (.iconst 0, 1) := by decide +kernel
theorem dX10_lays_278 : decode cX10_lays 278 = .ok (.istore_n 1, 1) := by decide +kernel
theorem dX10_lays_279 : decode cX10_lays 279 = .ok (.iload_n 1, 1) := by decide +kernel
theorem dX10_lays_280 : decode cX10_lays 280 = .ok (.iconst 5, 1) := by decide +kernel
theorem dX10_lays_281 : decode cX10_lays 281 = .ok (.if_icmp .ge 37, 3) := by decide +kernel
theorem dX10_lays_284 : decode cX10_lays 284 = .ok (.aload_n 0, 1) := by decide +kernel
theorem dX10_lays_285 : decode cX10_lays 285 = .ok (.getfield 46, 3) := by decide +kernel
theorem dX10_lays_288 : decode cX10_lays 288 = .ok (.iload_n 1, 1) := by decide +kernel
theorem dX10_lays_289 : decode cX10_lays 289 = .ok (.aload_n 0, 1) := by decide +kernel
theorem dX10_lays_290 : decode cX10_lays 290 = .ok (.getfield 46, 3) := by decide +kernel
theorem dX10_lays_293 : decode cX10_lays 293 = .ok (.iconst 5, 1) := by decide +kernel
theorem dX10_lays_294 : decode cX10_lays 294 = .ok (.iload_n 1, 1) := by decide +kernel
theorem dX10_lays_295 : decode cX10_lays 295 = .ok (.iadd, 1) := by decide +kernel
theorem dX10_lays_296 : decode cX10_lays 296 = .ok (.iaload, 1) := by decide +kernel
theorem dX10_lays_297 : decode cX10_lays 297 = .ok (.iastore, 1) := by decide +kernel
theorem dX10_lays_298 : decode cX10_lays 298 = .ok (.aload_n 0, 1) := by decide +kernel
theorem dX10_lays_299 : decode cX10_lays 299 = .ok (.getfield 49, 3) := by decide +kernel
theorem dX10_lays_302 : decode cX10_lays 302 = .ok (.iload_n 1, 1) := by decide +kernel
theorem dX10_lays_303 : decode cX10_lays 303 = .ok (.aload_n 0, 1) := by decide +kernel
theorem dX10_lays_304 : decode cX10_lays 304 = .ok (.getfield 49, 3) := by decide +kernel
theorem dX10_lays_307 : decode cX10_lays 307 = .ok (.iconst 5, 1) := by decide +kernel
theorem dX10_lays_308 : decode cX10_lays 308 = .ok (.iload_n 1, 1) := by decide +kernel
theorem dX10_lays_309 : decode cX10_lays 309 = .ok (.iadd, 1) := by decide +kernel
theorem dX10_lays_310 : decode cX10_lays 310 = .ok (.iaload, 1) := by decide +kernel
theorem dX10_lays_311 : decode cX10_lays 311 = .ok (.iastore, 1) := by decide +kernel
theorem dX10_lays_312 : decode cX10_lays 312 = .ok (.iinc 1 1, 3) := by decide +kernel
theorem dX10_lays_315 : decode cX10_lays 315 = .ok (.goto (-36), 3) := by decide +kernel
theorem dX10_lays_318 : decode cX10_lays 318 = .ok (.iconst 0, 1) := by decide +kernel
theorem dX10_lays_319 : decode cX10_lays 319 = .ok (.istore_n 1, 1) := by decide +kernel
theorem dX10_lays_320 : decode cX10_lays 320 = .ok (.iload_n 1, 1) := by decide +kernel
theorem dX10_lays_321 : decode cX10_lays 321 = .ok (.bipush 30, 2) := by decide +kernel
theorem dX10_lays_323 : decode cX10_lays 323 = .ok (.if_icmp .ge 24, 3) := by decide +kernel
theorem dX10_lays_326 : decode cX10_lays 326 = .ok (.aload_n 0, 1) := by decide +kernel
theorem dX10_lays_327 : decode cX10_lays 327 = .ok (.getfield 52, 3) := by decide +kernel
theorem dX10_lays_330 : decode cX10_lays 330 = .ok (.iload_n 1, 1) := by decide +kernel
theorem dX10_lays_331 : decode cX10_lays 331 = .ok (.aload_n 0, 1) := by decide +kernel
theorem dX10_lays_332 : decode cX10_lays 332 = .ok (.getfield 52, 3) := by decide +kernel
theorem dX10_lays_335 : decode cX10_lays 335 = .ok (.bipush 30, 2) := by decide +kernel
theorem dX10_lays_337 : decode cX10_lays 337 = .ok (.iload_n 1, 1) := by decide +kernel
theorem dX10_lays_338 : decode cX10_lays 338 = .ok (.iadd, 1) := by decide +kernel
theorem dX10_lays_339 : decode cX10_lays 339 = .ok (.iaload, 1) := by decide +kernel
theorem dX10_lays_340 : decode cX10_lays 340 = .ok (.iastore, 1) := by decide +kernel
theorem dX10_lays_341 : decode cX10_lays 341 = .ok (.iinc 1 1, 3) := by decide +kernel
theorem dX10_lays_344 : decode cX10_lays 344 = .ok (.goto (-24), 3) := by decide +kernel
theorem dX10_lays_347 : decode cX10_lays 347 = .ok (.iconst 0, 1) := by decide +kernel
theorem dX10_lays_348 : decode cX10_lays 348 = .ok (.istore_n 1, 1) := by decide +kernel
theorem dX10_lays_349 : decode cX10_lays 349 = .ok (.iload_n 1, 1) := by decide +kernel
theorem dX10_lays_350 : decode cX10_lays 350 = .ok (.bipush 6, 2) := by decide +kernel
theorem dX10_lays_352 : decode cX10_lays 352 = .ok (.if_icmp .ge 24, 3) := by decide +kernel
theorem dX10_lays_355 : decode cX10_lays 355 = .ok (.aload_n 0, 1) := by decide +kernel
theorem dX10_lays_356 : decode cX10_lays 356 = .ok (.getfield 55, 3) := by decide +kernel
theorem dX10_lays_359 : decode cX10_lays 359 = .ok (.iload_n 1, 1) := by decide +kernel
theorem dX10_lays_360 : decode cX10_lays 360 = .ok (.aload_n 0, 1) := by decide +kernel
theorem dX10_lays_361 : decode cX10_lays 361 = .ok (.getfield 55, 3) := by decide +kernel
theorem dX10_lays_364 : decode cX10_lays 364 = .ok (.bipush 6, 2) := by decide +kernel
theorem dX10_lays_366 : decode cX10_lays 366 = .ok (.iload_n 1, 1) := by decide +kernel
theorem dX10_lays_367 : decode cX10_lays 367 = .ok (.iadd, 1) := by decide +kernel
theorem dX10_lays_368 : decode cX10_lays 368 = .ok (.iaload, 1) := by decide +kernel
theorem dX10_lays_369 : decode cX10_lays 369 = .ok (.iastore, 1) := by decide +kernel
theorem dX10_lays_370 : decode cX10_lays 370 = .ok (.iinc 1 1, 3) := by decide +kernel
theorem dX10_lays_373 : decode cX10_lays 373 = .ok (.goto (-24), 3) := by decide +kernel
theorem dX10_lays_376 : decode cX10_lays 376 = .ok (.iconst 0, 1) := by decide +kernel
theorem dX10_lays_377 : decode cX10_lays 377 = .ok (.istore_n 1, 1) := by decide +kernel
theorem dX10_lays_378 : decode cX10_lays 378 = .ok (.iload_n 1, 1) := by decide +kernel
theorem dX10_lays_379 : decode cX10_lays 379 = .ok (.bipush 20, 2) := by decide +kernel
theorem dX10_lays_381 : decode cX10_lays 381 = .ok (.if_icmp .ge 69, 3) := by decide +kernel
theorem dX10_lays_384 : decode cX10_lays 384 = .ok (.aload_n 0, 1) := by decide +kernel
theorem dX10_lays_385 : decode cX10_lays 385 = .ok (.getfield 58, 3) := by decide +kernel
theorem dX10_lays_388 : decode cX10_lays 388 = .ok (.iload_n 1, 1) := by decide +kernel
theorem dX10_lays_389 : decode cX10_lays 389 = .ok (.aload_n 0, 1) := by decide +kernel
theorem dX10_lays_390 : decode cX10_lays 390 = .ok (.getfield 58, 3) := by decide +kernel
theorem dX10_lays_393 : decode cX10_lays 393 = .ok (.bipush 20, 2) := by decide +kernel
theorem dX10_lays_395 : decode cX10_lays 395 = .ok (.iload_n 1, 1) := by decide +kernel
theorem dX10_lays_396 : decode cX10_lays 396 = .ok (.iadd, 1) := by decide +kernel
theorem dX10_lays_397 : decode cX10_lays 397 = .ok (.iaload, 1) := by decide +kernel
theorem dX10_lays_398 : decode cX10_lays 398 = .ok (.iastore, 1) := by decide +kernel
theorem dX10_lays_399 : decode cX10_lays 399 = .ok (.aload_n 0, 1) := by decide +kernel
theorem dX10_lays_400 : decode cX10_lays 400 = .ok (.getfield 61, 3) := by decide +kernel
theorem dX10_lays_403 : decode cX10_lays 403 = .ok (.iload_n 1, 1) := by decide +kernel
theorem dX10_lays_404 : decode cX10_lays 404 = .ok (.aload_n 0, 1) := by decide +kernel
theorem dX10_lays_405 : decode cX10_lays 405 = .ok (.getfield 61, 3) := by decide +kernel
theorem dX10_lays_408 : decode cX10_lays 408 = .ok (.bipush 20, 2) := by decide +kernel
theorem dX10_lays_410 : decode cX10_lays 410 = .ok (.iload_n 1, 1) := by decide +kernel
theorem dX10_lays_411 : decode cX10_lays 411 = .ok (.iadd, 1) := by decide +kernel
theorem dX10_lays_412 : decode cX10_lays 412 = .ok (.iaload, 1) := by decide +kernel
theorem dX10_lays_413 : decode cX10_lays 413 = .ok (.iastore, 1) := by decide +kernel
theorem dX10_lays_414 : decode cX10_lays 414 = .ok (.aload_n 0, 1) := by decide +kernel
theorem dX10_lays_415 : decode cX10_lays 415 = .ok (.getfield 64, 3) := by decide +kernel
theorem dX10_lays_418 : decode cX10_lays 418 = .ok (.iload_n 1, 1) := by decide +kernel
theorem dX10_lays_419 : decode cX10_lays 419 = .ok (.aload_n 0, 1) := by decide +kernel
theorem dX10_lays_420 : decode cX10_lays 420 = .ok (.getfield 64, 3) := by decide +kernel
theorem dX10_lays_423 : decode cX10_lays 423 = .ok (.bipush 20, 2) := by decide +kernel
theorem dX10_lays_425 : decode cX10_lays 425 = .ok (.iload_n 1, 1) := by decide +kernel
theorem dX10_lays_426 : decode cX10_lays 426 = .ok (.iadd, 1) := by decide +kernel
theorem dX10_lays_427 : decode cX10_lays 427 = .ok (.iaload, 1) := by decide +kernel
theorem dX10_lays_428 : decode cX10_lays 428 = .ok (.iastore, 1) := by decide +kernel
theorem dX10_lays_429 : decode cX10_lays 429 = .ok (.aload_n 0, 1) := by decide +kernel
theorem dX10_lays_430 : decode cX10_lays 430 = .ok (.getfield 67, 3) := by decide +kernel
theorem dX10_lays_433 : decode cX10_lays 433 = .ok (.iload_n 1, 1) := by decide +kernel
theorem dX10_lays_434 : decode cX10_lays 434 = .ok (.aload_n 0, 1) := by decide +kernel
theorem dX10_lays_435 : decode cX10_lays 435 = .ok (.getfield 67, 3) := by decide +kernel
theorem dX10_lays_438 : decode cX10_lays 438 = .ok (.bipush 20, 2) := by decide +kernel
theorem dX10_lays_440 : decode cX10_lays 440 = .ok (.iload_n 1, 1) := by decide +kernel
theorem dX10_lays_441 : decode cX10_lays 441 = .ok (.iadd, 1) := by decide +kernel
theorem dX10_lays_442 : decode cX10_lays 442 = .ok (.baload, 1) := by decide +kernel
theorem dX10_lays_443 : decode cX10_lays 443 = .ok (.bastore, 1) := by decide +kernel
theorem dX10_lays_444 : decode cX10_lays 444 = .ok (.iinc 1 1, 3) := by decide +kernel
theorem dX10_lays_447 : decode cX10_lays 447 = .ok (.goto (-69), 3) := by decide +kernel
theorem dX10_lays_450 : decode cX10_lays 450 = .ok (.iconst 0, 1) := by decide +kernel
theorem dX10_lays_451 : decode cX10_lays 451 = .ok (.istore_n 1, 1) := by decide +kernel
theorem dX10_lays_452 : decode cX10_lays 452 = .ok (.iload_n 1, 1) := by decide +kernel
theorem dX10_lays_453 : decode cX10_lays 453 = .ok (.bipush 64, 2) := by decide +kernel
theorem dX10_lays_455 : decode cX10_lays 455 = .ok (.if_icmp .ge 39, 3) := by decide +kernel
theorem dX10_lays_458 : decode cX10_lays 458 = .ok (.aload_n 0, 1) := by decide +kernel
theorem dX10_lays_459 : decode cX10_lays 459 = .ok (.getfield 70, 3) := by decide +kernel
theorem dX10_lays_462 : decode cX10_lays 462 = .ok (.iload_n 1, 1) := by decide +kernel
theorem dX10_lays_463 : decode cX10_lays 463 = .ok (.aload_n 0, 1) := by decide +kernel
theorem dX10_lays_464 : decode cX10_lays 464 = .ok (.getfield 70, 3) := by decide +kernel
theorem dX10_lays_467 : decode cX10_lays 467 = .ok (.bipush 64, 2) := by decide +kernel
theorem dX10_lays_469 : decode cX10_lays 469 = .ok (.iload_n 1, 1) := by decide +kernel
theorem dX10_lays_470 : decode cX10_lays 470 = .ok (.iadd, 1) := by decide +kernel
theorem dX10_lays_471 : decode cX10_lays 471 = .ok (.iaload, 1) := by decide +kernel
theorem dX10_lays_472 : decode cX10_lays 472 = .ok (.iastore, 1) := by decide +kernel
theorem dX10_lays_473 : decode cX10_lays 473 = .ok (.aload_n 0, 1) := by decide +kernel
theorem dX10_lays_474 : decode cX10_lays 474 = .ok (.getfield 73, 3) := by decide +kernel
theorem dX10_lays_477 : decode cX10_lays 477 = .ok (.iload_n 1, 1) := by decide +kernel
theorem dX10_lays_478 : decode cX10_lays 478 = .ok (.aload_n 0, 1) := by decide +kernel
theorem dX10_lays_479 : decode cX10_lays 479 = .ok (.getfield 73, 3) := by decide +kernel
theorem dX10_lays_482 : decode cX10_lays 482 = .ok (.bipush 64, 2) := by decide +kernel
theorem dX10_lays_484 : decode cX10_lays 484 = .ok (.iload_n 1, 1) := by decide +kernel
theorem dX10_lays_485 : decode cX10_lays 485 = .ok (.iadd, 1) := by decide +kernel
theorem dX10_lays_486 : decode cX10_lays 486 = .ok (.iaload, 1) := by decide +kernel
theorem dX10_lays_487 : decode cX10_lays 487 = .ok (.iastore, 1) := by decide +kernel
theorem dX10_lays_488 : decode cX10_lays 488 = .ok (.iinc 1 1, 3) := by decide +kernel
theorem dX10_lays_491 : decode cX10_lays 491 = .ok (.goto (-39), 3) := by decide +kernel
theorem dX10_lays_494 : decode cX10_lays 494 = .ok (.return_, 1) := by decide +kernel
theorem dX10_fault_0 : decode cX10_fault 0 = .ok (.aload_n 0, 1) := by decide +kernel
theorem dX10_fault_1 : decode cX10_fault 1 = .ok (.iconst 0, 1) := by decide +kernel
theorem dX10_fault_2 : decode cX10_fault 2 = .ok (.putfield 153, 3) := by decide +kernel
theorem dX10_fault_5 : decode cX10_fault 5 = .ok (.iload_n 1, 1) := by decide +kernel
theorem dX10_fault_6 : decode cX10_fault 6 = .ok (.ifCond .ne 10, 3) := by decide +kernel
theorem dX10_fault_9 : decode cX10_fault 9 = .ok (.aload_n 0, 1) := by decide +kernel
theorem dX10_fault_10 : decode cX10_fault 10 = .ok (.getfield 331, 3) := by decide +kernel
theorem dX10_fault_13 : decode cX10_fault 13 = .ok (.goto 16, 3) := by decide +kernel
theorem dX10_fault_16 : decode cX10_fault 16 = .ok (.iload_n 1, 1) := by decide +kernel
theorem dX10_fault_17 : decode cX10_fault 17 = .ok (.iconst 1, 1) := by decide +kernel
theorem dX10_fault_18 : decode cX10_fault 18 = .ok (.if_icmp .ne 10, 3) := by decide +kernel
theorem dX10_fault_21 : decode cX10_fault 21 = .ok (.aload_n 0, 1) := by decide +kernel
theorem dX10_fault_22 : decode cX10_fault 22 = .ok (.getfield 86, 3) := by decide +kernel
theorem dX10_fault_25 : decode cX10_fault 25 = .ok (.goto 4, 3) := by decide +kernel
theorem dX10_fault_28 : decode cX10_fault 28 = .ok (.iconst (-1), 1) := by decide +kernel
theorem dX10_fault_29 : decode cX10_fault 29 = .ok (.ireturn, 1) := by decide +kernel
theorem dX10_named_0 : decode cX10_named 0 = .ok (.aload_n 0, 1) := by decide +kernel
theorem dX10_named_1 : decode cX10_named 1 = .ok (.iconst 0, 1) := by decide +kernel
theorem dX10_named_2 : decode cX10_named 2 = .ok (.putfield 153, 3) := by decide +kernel
theorem dX10_named_5 : decode cX10_named 5 = .ok (.iload_n 1, 1) := by decide +kernel
theorem dX10_named_6 : decode cX10_named 6 = .ok (.tableswitch 86 0 3 #[30, 44, 58, 72], 30) := by decide +kernel
theorem dX10_named_36 : decode cX10_named 36 = .ok (.aload_n 0, 1) := by decide +kernel
theorem dX10_named_37 : decode cX10_named 37 = .ok (.getfield 15, 3) := by decide +kernel
theorem dX10_named_40 : decode cX10_named 40 = .ok (.iconst 0, 1) := by decide +kernel
theorem dX10_named_41 : decode cX10_named 41 = .ok (.aload_n 0, 1) := by decide +kernel
theorem dX10_named_42 : decode cX10_named 42 = .ok (.getfield 337, 3) := by decide +kernel
theorem dX10_named_45 : decode cX10_named 45 = .ok (.iload_n 2, 1) := by decide +kernel
theorem dX10_named_46 : decode cX10_named 46 = .ok (.invokestatic 226, 3) := by decide +kernel
theorem dX10_named_49 : decode cX10_named 49 = .ok (.ireturn, 1) := by decide +kernel
theorem dX10_named_50 : decode cX10_named 50 = .ok (.aload_n 0, 1) := by decide +kernel
theorem dX10_named_51 : decode cX10_named 51 = .ok (.getfield 18, 3) := by decide +kernel
theorem dX10_named_54 : decode cX10_named 54 = .ok (.iconst 0, 1) := by decide +kernel
theorem dX10_named_55 : decode cX10_named 55 = .ok (.aload_n 0, 1) := by decide +kernel
theorem dX10_named_56 : decode cX10_named 56 = .ok (.getfield 340, 3) := by decide +kernel
theorem dX10_named_59 : decode cX10_named 59 = .ok (.iload_n 2, 1) := by decide +kernel
theorem dX10_named_60 : decode cX10_named 60 = .ok (.invokestatic 226, 3) := by decide +kernel
theorem dX10_named_63 : decode cX10_named 63 = .ok (.ireturn, 1) := by decide +kernel
theorem dX10_named_64 : decode cX10_named 64 = .ok (.aload_n 0, 1) := by decide +kernel
theorem dX10_named_65 : decode cX10_named 65 = .ok (.getfield 46, 3) := by decide +kernel
theorem dX10_named_68 : decode cX10_named 68 = .ok (.iconst 0, 1) := by decide +kernel
theorem dX10_named_69 : decode cX10_named 69 = .ok (.aload_n 0, 1) := by decide +kernel
theorem dX10_named_70 : decode cX10_named 70 = .ok (.getfield 343, 3) := by decide +kernel
theorem dX10_named_73 : decode cX10_named 73 = .ok (.iload_n 2, 1) := by decide +kernel
theorem dX10_named_74 : decode cX10_named 74 = .ok (.invokestatic 226, 3) := by decide +kernel
theorem dX10_named_77 : decode cX10_named 77 = .ok (.ireturn, 1) := by decide +kernel
theorem dX10_named_78 : decode cX10_named 78 = .ok (.aload_n 0, 1) := by decide +kernel
theorem dX10_named_79 : decode cX10_named 79 = .ok (.getfield 55, 3) := by decide +kernel
theorem dX10_named_82 : decode cX10_named 82 = .ok (.iconst 0, 1) := by decide +kernel
theorem dX10_named_83 : decode cX10_named 83 = .ok (.aload_n 0, 1) := by decide +kernel
theorem dX10_named_84 : decode cX10_named 84 = .ok (.getfield 349, 3) := by decide +kernel
theorem dX10_named_87 : decode cX10_named 87 = .ok (.iload_n 2, 1) := by decide +kernel
theorem dX10_named_88 : decode cX10_named 88 = .ok (.invokestatic 226, 3) := by decide +kernel
theorem dX10_named_91 : decode cX10_named 91 = .ok (.ireturn, 1) := by decide +kernel
theorem dX10_named_92 : decode cX10_named 92 = .ok (.iconst (-1), 1) := by decide +kernel
theorem dX10_named_93 : decode cX10_named 93 = .ok (.ireturn, 1) := by decide +kernel
theorem dX10_isStone_0 : decode cX10_isStone 0 = .ok (.iload_n 1, 1) := by decide +kernel
theorem dX10_isStone_1 : decode cX10_isStone 1 = .ok (.ifCond .lt 29, 3) := by decide +kernel
theorem dX10_isStone_4 : decode cX10_isStone 4 = .ok (.iload_n 1, 1) := by decide +kernel
theorem dX10_isStone_5 : decode cX10_isStone 5 = .ok (.aload_n 0, 1) := by decide +kernel
theorem dX10_isStone_6 : decode cX10_isStone 6 = .ok (.getfield 340, 3) := by decide +kernel
theorem dX10_isStone_9 : decode cX10_isStone 9 = .ok (.if_icmp .ge 21, 3) := by decide +kernel
theorem dX10_isStone_12 : decode cX10_isStone 12 = .ok (.iload_n 2, 1) := by decide +kernel
theorem dX10_isStone_13 : decode cX10_isStone 13 = .ok (.ifCond .lt 17, 3) := by decide +kernel
theorem dX10_isStone_16 : decode cX10_isStone 16 = .ok (.iload_n 2, 1) := by decide +kernel
theorem dX10_isStone_17 : decode cX10_isStone 17 = .ok (.aload_n 0, 1) := by decide +kernel
theorem dX10_isStone_18 : decode cX10_isStone 18 = .ok (.getfield 24, 3) := by decide +kernel
theorem dX10_isStone_21 : decode cX10_isStone 21 = .ok (.iload_n 1, 1) := by decide +kernel
theorem dX10_isStone_22 : decode cX10_isStone 22 = .ok (.iaload, 1) := by decide +kernel
theorem dX10_isStone_23 : decode cX10_isStone 23 = .ok (.if_icmp .ge 7, 3) := by decide +kernel
theorem dX10_isStone_26 : decode cX10_isStone 26 = .ok (.iconst 1, 1) := by decide +kernel
theorem dX10_isStone_27 : decode cX10_isStone 27 = .ok (.goto 4, 3) := by decide +kernel
theorem dX10_isStone_30 : decode cX10_isStone 30 = .ok (.iconst 0, 1) := by decide +kernel
theorem dX10_isStone_31 : decode cX10_isStone 31 = .ok (.ireturn, 1) := by decide +kernel
theorem dX10_noted_0 : decode cX10_noted 0 = .ok (.aload_n 0, 1) := by decide +kernel
theorem dX10_noted_1 : decode cX10_noted 1 = .ok (.getfield 92, 3) := by decide +kernel
theorem dX10_noted_4 : decode cX10_noted 4 = .ok (.aload_n 0, 1) := by decide +kernel
theorem dX10_noted_5 : decode cX10_noted 5 = .ok (.getfield 355, 3) := by decide +kernel
theorem dX10_noted_8 : decode cX10_noted 8 = .ok (.iload_n 1, 1) := by decide +kernel
theorem dX10_noted_9 : decode cX10_noted 9 = .ok (.iastore, 1) := by decide +kernel
theorem dX10_noted_10 : decode cX10_noted 10 = .ok (.aload_n 0, 1) := by decide +kernel
theorem dX10_noted_11 : decode cX10_noted 11 = .ok (.getfield 95, 3) := by decide +kernel
theorem dX10_noted_14 : decode cX10_noted 14 = .ok (.aload_n 0, 1) := by decide +kernel
theorem dX10_noted_15 : decode cX10_noted 15 = .ok (.getfield 355, 3) := by decide +kernel
theorem dX10_noted_18 : decode cX10_noted 18 = .ok (.iload_n 2, 1) := by decide +kernel
theorem dX10_noted_19 : decode cX10_noted 19 = .ok (.iastore, 1) := by decide +kernel
theorem dX10_noted_20 : decode cX10_noted 20 = .ok (.aload_n 0, 1) := by decide +kernel
theorem dX10_noted_21 : decode cX10_noted 21 = .ok (.getfield 98, 3) := by decide +kernel
theorem dX10_noted_24 : decode cX10_noted 24 = .ok (.aload_n 0, 1) := by decide +kernel
theorem dX10_noted_25 : decode cX10_noted 25 = .ok (.getfield 355, 3) := by decide +kernel
theorem dX10_noted_28 : decode cX10_noted 28 = .ok (.iload_n 3, 1) := by decide +kernel
theorem dX10_noted_29 : decode cX10_noted 29 = .ok (.iastore, 1) := by decide +kernel
theorem dX10_noted_30 : decode cX10_noted 30 = .ok (.aload_n 0, 1) := by decide +kernel
theorem dX10_noted_31 : decode cX10_noted 31 = .ok (.getfield 101, 3) := by decide +kernel
theorem dX10_noted_34 : decode cX10_noted 34 = .ok (.aload_n 0, 1) := by decide +kernel
theorem dX10_noted_35 : decode cX10_noted 35 = .ok (.getfield 355, 3) := by decide +kernel
theorem dX10_noted_38 : decode cX10_noted 38 = .ok (.iload 4, 2) := by decide +kernel
theorem dX10_noted_40 : decode cX10_noted 40 = .ok (.iastore, 1) := by decide +kernel
theorem dX10_noted_41 : decode cX10_noted 41 = .ok (.aload_n 0, 1) := by decide +kernel
theorem dX10_noted_42 : decode cX10_noted 42 = .ok (.dup, 1) := by decide +kernel
theorem dX10_noted_43 : decode cX10_noted 43 = .ok (.getfield 355, 3) := by decide +kernel
theorem dX10_noted_46 : decode cX10_noted 46 = .ok (.iconst 1, 1) := by decide +kernel
theorem dX10_noted_47 : decode cX10_noted 47 = .ok (.iadd, 1) := by decide +kernel
theorem dX10_noted_48 : decode cX10_noted 48 = .ok (.putfield 355, 3) := by decide +kernel
theorem dX10_noted_51 : decode cX10_noted 51 = .ok (.aload_n 0, 1) := by decide +kernel
theorem dX10_noted_52 : decode cX10_noted 52 = .ok (.iconst 0, 1) := by decide +kernel
theorem dX10_noted_53 : decode cX10_noted 53 = .ok (.putfield 358, 3) := by decide +kernel
theorem dX10_noted_56 : decode cX10_noted 56 = .ok (.aload_n 0, 1) := by decide +kernel
theorem dX10_noted_57 : decode cX10_noted 57 = .ok (.getfield 355, 3) := by decide +kernel
theorem dX10_noted_60 : decode cX10_noted 60 = .ok (.iconst 1, 1) := by decide +kernel
theorem dX10_noted_61 : decode cX10_noted 61 = .ok (.isub, 1) := by decide +kernel
theorem dX10_noted_62 : decode cX10_noted 62 = .ok (.ireturn, 1) := by decide +kernel
theorem dX10_isPlace_0 : decode cX10_isPlace 0 = .ok (.iload_n 0, 1) := by decide +kernel
theorem dX10_isPlace_1 : decode cX10_isPlace 1 = .ok (.sipush (-999), 3) := by decide +kernel
theorem dX10_isPlace_4 : decode cX10_isPlace 4 = .ok (.if_icmp .lt 14, 3) := by decide +kernel
theorem dX10_isPlace_7 : decode cX10_isPlace 7 = .ok (.iload_n 0, 1) := by decide +kernel
theorem dX10_isPlace_8 : decode cX10_isPlace 8 = .ok (.sipush 999, 3) := by decide +kernel
theorem dX10_isPlace_11 : decode cX10_isPlace 11 = .ok (.if_icmp .gt 7, 3) := by decide +kernel
theorem dX10_isPlace_14 : decode cX10_isPlace 14 = .ok (.iconst 1, 1) := by decide +kernel
theorem dX10_isPlace_15 : decode cX10_isPlace 15 = .ok (.goto 4, 3) := by decide +kernel
theorem dX10_isPlace_18 : decode cX10_isPlace 18 = .ok (.iconst 0, 1) := by decide +kernel
theorem dX10_isPlace_19 : decode cX10_isPlace 19 = .ok (.ireturn, 1) := by decide +kernel
theorem dX10_tape_0 : decode cX10_tape 0 = .ok (.aload_n 0, 1) := by decide +kernel
theorem dX10_tape_1 : decode cX10_tape 1 = .ok (.iconst 0, 1) := by decide +kernel
theorem dX10_tape_2 : decode cX10_tape 2 = .ok (.putfield 153, 3) := by decide +kernel
theorem dX10_tape_5 : decode cX10_tape 5 = .ok (.aload_n 0, 1) := by decide +kernel
theorem dX10_tape_6 : decode cX10_tape 6 = .ok (.iload_n 1, 1) := by decide +kernel
theorem dX10_tape_7 : decode cX10_tape 7 = .ok (.iload_n 2, 1) := by decide +kernel
theorem dX10_tape_8 : decode cX10_tape 8 = .ok (.invokevirtual 362, 3) := by decide +kernel
theorem dX10_tape_11 : decode cX10_tape 11 = .ok (.ifCond .eq 27, 3) := by decide +kernel
theorem dX10_tape_14 : decode cX10_tape 14 = .ok (.iload_n 3, 1) := by decide +kernel
theorem dX10_tape_15 : decode cX10_tape 15 = .ok (.invokestatic 366, 3) := by decide +kernel
theorem dX10_tape_18 : decode cX10_tape 18 = .ok (.ifCond .eq 20, 3) := by decide +kernel
theorem dX10_tape_21 : decode cX10_tape 21 = .ok (.iload 4, 2) := by decide +kernel
theorem dX10_tape_23 : decode cX10_tape 23 = .ok (.invokestatic 366, 3) := by decide +kernel
theorem dX10_tape_26 : decode cX10_tape 26 = .ok (.ifCond .eq 12, 3) := by decide +kernel
theorem dX10_tape_29 : decode cX10_tape 29 = .ok (.aload_n 0, 1) := by decide +kernel
theorem dX10_tape_30 : decode cX10_tape 30 = .ok (.getfield 355, 3) := by decide +kernel
theorem dX10_tape_33 : decode cX10_tape 33 = .ok (.bipush 60, 2) := by decide +kernel
theorem dX10_tape_35 : decode cX10_tape 35 = .ok (.if_icmp .ne 7, 3) := by decide +kernel
theorem dX10_tape_38 : decode cX10_tape 38 = .ok (.iconst (-1), 1) := by decide +kernel
theorem dX10_tape_39 : decode cX10_tape 39 = .ok (.goto 17, 3) := by decide +kernel
theorem dX10_tape_42 : decode cX10_tape 42 = .ok (.aload_n 0, 1) := by decide +kernel
theorem dX10_tape_43 : decode cX10_tape 43 = .ok (.iconst 0, 1) := by decide +kernel
theorem dX10_tape_44 : decode cX10_tape 44 = .ok (.bipush 10, 2) := by decide +kernel
theorem dX10_tape_46 : decode cX10_tape 46 = .ok (.iload_n 1, 1) := by decide +kernel
theorem dX10_tape_47 : decode cX10_tape 47 = .ok (.imul, 1) := by decide +kernel
theorem dX10_tape_48 : decode cX10_tape 48 = .ok (.iload_n 2, 1) := by decide +kernel
theorem dX10_tape_49 : decode cX10_tape 49 = .ok (.iadd, 1) := by decide +kernel
theorem dX10_tape_50 : decode cX10_tape 50 = .ok (.iload_n 3, 1) := by decide +kernel
theorem dX10_tape_51 : decode cX10_tape 51 = .ok (.iload 4, 2) := by decide +kernel
theorem dX10_tape_53 : decode cX10_tape 53 = .ok (.invokevirtual 369, 3) := by decide +kernel
theorem dX10_tape_56 : decode cX10_tape 56 = .ok (.ireturn, 1) := by decide +kernel
theorem dX10_gone_0 : decode cX10_gone 0 = .ok (.aload_n 0, 1) := by decide +kernel
theorem dX10_gone_1 : decode cX10_gone 1 = .ok (.iconst 0, 1) := by decide +kernel
theorem dX10_gone_2 : decode cX10_gone 2 = .ok (.putfield 153, 3) := by decide +kernel
theorem dX10_gone_5 : decode cX10_gone 5 = .ok (.aload_n 0, 1) := by decide +kernel
theorem dX10_gone_6 : decode cX10_gone 6 = .ok (.iload_n 1, 1) := by decide +kernel
theorem dX10_gone_7 : decode cX10_gone 7 = .ok (.iload_n 2, 1) := by decide +kernel
theorem dX10_gone_8 : decode cX10_gone 8 = .ok (.invokevirtual 362, 3) := by decide +kernel
theorem dX10_gone_11 : decode cX10_gone 11 = .ok (.ifCond .eq 12, 3) := by decide +kernel
theorem dX10_gone_14 : decode cX10_gone 14 = .ok (.aload_n 0, 1) := by decide +kernel
theorem dX10_gone_15 : decode cX10_gone 15 = .ok (.getfield 355, 3) := by decide +kernel
theorem dX10_gone_18 : decode cX10_gone 18 = .ok (.bipush 60, 2) := by decide +kernel
theorem dX10_gone_20 : decode cX10_gone 20 = .ok (.if_icmp .ne 7, 3) := by decide +kernel
theorem dX10_gone_23 : decode cX10_gone 23 = .ok (.iconst (-1), 1) := by decide +kernel
theorem dX10_gone_24 : decode cX10_gone 24 = .ok (.goto 24, 3) := by decide +kernel
theorem dX10_gone_27 : decode cX10_gone 27 = .ok (.aload_n 0, 1) := by decide +kernel
theorem dX10_gone_28 : decode cX10_gone 28 = .ok (.iconst 1, 1) := by decide +kernel
theorem dX10_gone_29 : decode cX10_gone 29 = .ok (.bipush 10, 2) := by decide +kernel
theorem dX10_gone_31 : decode cX10_gone 31 = .ok (.iload_n 1, 1) := by decide +kernel
theorem dX10_gone_32 : decode cX10_gone 32 = .ok (.imul, 1) := by decide +kernel
theorem dX10_gone_33 : decode cX10_gone 33 = .ok (.iload_n 2, 1) := by decide +kernel
theorem dX10_gone_34 : decode cX10_gone 34 = .ok (.iadd, 1) := by decide +kernel
theorem dX10_gone_35 : decode cX10_gone 35 = .ok (.iload_n 3, 1) := by decide +kernel
theorem dX10_gone_36 : decode cX10_gone 36 = .ok (.ifCond .eq 7, 3) := by decide +kernel
theorem dX10_gone_39 : decode cX10_gone 39 = .ok (.iconst 1, 1) := by decide +kernel
theorem dX10_gone_40 : decode cX10_gone 40 = .ok (.goto 4, 3) := by decide +kernel
theorem dX10_gone_43 : decode cX10_gone 43 = .ok (.iconst 0, 1) := by decide +kernel
theorem dX10_gone_44 : decode cX10_gone 44 = .ok (.iconst 0, 1) := by decide +kernel
theorem dX10_gone_45 : decode cX10_gone 45 = .ok (.invokevirtual 369, 3) := by decide +kernel
theorem dX10_gone_48 : decode cX10_gone 48 = .ok (.ireturn, 1) := by decide +kernel
theorem dX10_strike_0 : decode cX10_strike 0 = .ok (.aload_n 0, 1) := by decide +kernel
theorem dX10_strike_1 : decode cX10_strike 1 = .ok (.iconst 0, 1) := by decide +kernel
theorem dX10_strike_2 : decode cX10_strike 2 = .ok (.putfield 153, 3) := by decide +kernel
theorem dX10_strike_5 : decode cX10_strike 5 = .ok (.iload_n 1, 1) := by decide +kernel
theorem dX10_strike_6 : decode cX10_strike 6 = .ok (.ifCond .lt 20, 3) := by decide +kernel
theorem dX10_strike_9 : decode cX10_strike 9 = .ok (.iload_n 1, 1) := by decide +kernel
theorem dX10_strike_10 : decode cX10_strike 10 = .ok (.aload_n 0, 1) := by decide +kernel
theorem dX10_strike_11 : decode cX10_strike 11 = .ok (.getfield 355, 3) := by decide +kernel
theorem dX10_strike_14 : decode cX10_strike 14 = .ok (.if_icmp .ge 12, 3) := by decide +kernel
theorem dX10_strike_17 : decode cX10_strike 17 = .ok (.aload_n 0, 1) := by decide +kernel
theorem dX10_strike_18 : decode cX10_strike 18 = .ok (.getfield 355, 3) := by decide +kernel
theorem dX10_strike_21 : decode cX10_strike 21 = .ok (.bipush 60, 2) := by decide +kernel
theorem dX10_strike_23 : decode cX10_strike 23 = .ok (.if_icmp .ne 7, 3) := by decide +kernel
theorem dX10_strike_26 : decode cX10_strike 26 = .ok (.iconst (-1), 1) := by decide +kernel
theorem dX10_strike_27 : decode cX10_strike 27 = .ok (.goto 11, 3) := by decide +kernel
theorem dX10_strike_30 : decode cX10_strike 30 = .ok (.aload_n 0, 1) := by decide +kernel
theorem dX10_strike_31 : decode cX10_strike 31 = .ok (.iconst 2, 1) := by decide +kernel
theorem dX10_strike_32 : decode cX10_strike 32 = .ok (.iload_n 1, 1) := by decide +kernel
theorem dX10_strike_33 : decode cX10_strike 33 = .ok (.iconst 0, 1) := by decide +kernel
theorem dX10_strike_34 : decode cX10_strike 34 = .ok (.iconst 0, 1) := by decide +kernel
theorem dX10_strike_35 : decode cX10_strike 35 = .ok (.invokevirtual 369, 3) := by decide +kernel
theorem dX10_strike_38 : decode cX10_strike 38 = .ok (.ireturn, 1) := by decide +kernel
theorem dX10_known_0 : decode cX10_known 0 = .ok (.aload_n 0, 1) := by decide +kernel
theorem dX10_known_1 : decode cX10_known 1 = .ok (.iconst 0, 1) := by decide +kernel
theorem dX10_known_2 : decode cX10_known 2 = .ok (.putfield 153, 3) := by decide +kernel
theorem dX10_known_5 : decode cX10_known 5 = .ok (.iload_n 1, 1) := by decide +kernel
theorem dX10_known_6 : decode cX10_known 6 = .ok (.iconst (-1), 1) := by decide +kernel
theorem dX10_known_7 : decode cX10_known 7 = .ok (.if_icmp .lt 11, 3) := by decide +kernel
theorem dX10_known_10 : decode cX10_known 10 = .ok (.iload_n 1, 1) := by decide +kernel
theorem dX10_known_11 : decode cX10_known 11 = .ok (.aload_n 0, 1) := by decide +kernel
theorem dX10_known_12 : decode cX10_known 12 = .ok (.getfield 355, 3) := by decide +kernel
theorem dX10_known_15 : decode cX10_known 15 = .ok (.if_icmp .le 5, 3) := by decide +kernel
theorem dX10_known_18 : decode cX10_known 18 = .ok (.iconst 0, 1) := by decide +kernel
theorem dX10_known_19 : decode cX10_known 19 = .ok (.ireturn, 1) := by decide +kernel
theorem dX10_known_20 : decode cX10_known 20 = .ok (.aload_n 0, 1) := by decide +kernel
theorem dX10_known_21 : decode cX10_known 21 = .ok (.iload_n 1, 1) := by decide +kernel
theorem dX10_known_22 : decode cX10_known 22 = .ok (.putfield 89, 3) := by decide +kernel
theorem dX10_known_25 : decode cX10_known 25 = .ok (.aload_n 0, 1) := by decide +kernel
theorem dX10_known_26 : decode cX10_known 26 = .ok (.iconst 0, 1) := by decide +kernel
theorem dX10_known_27 : decode cX10_known 27 = .ok (.putfield 358, 3) := by decide +kernel
theorem dX10_known_30 : decode cX10_known 30 = .ok (.iconst 1, 1) := by decide +kernel
theorem dX10_known_31 : decode cX10_known 31 = .ok (.ireturn, 1) := by decide +kernel
theorem dX10_mode_0 : decode cX10_mode 0 = .ok (.aload_n 0, 1) := by decide +kernel
theorem dX10_mode_1 : decode cX10_mode 1 = .ok (.iconst 0, 1) := by decide +kernel
theorem dX10_mode_2 : decode cX10_mode 2 = .ok (.putfield 153, 3) := by decide +kernel
theorem dX10_mode_5 : decode cX10_mode 5 = .ok (.iload_n 1, 1) := by decide +kernel
theorem dX10_mode_6 : decode cX10_mode 6 = .ok (.ifCond .lt 8, 3) := by decide +kernel
theorem dX10_mode_9 : decode cX10_mode 9 = .ok (.iload_n 1, 1) := by decide +kernel
theorem dX10_mode_10 : decode cX10_mode 10 = .ok (.iconst 3, 1) := by decide +kernel
theorem dX10_mode_11 : decode cX10_mode 11 = .ok (.if_icmp .le 5, 3) := by decide +kernel
theorem dX10_mode_14 : decode cX10_mode 14 = .ok (.iconst 0, 1) := by decide +kernel
theorem dX10_mode_15 : decode cX10_mode 15 = .ok (.ireturn, 1) := by decide +kernel
theorem dX10_mode_16 : decode cX10_mode 16 = .ok (.aload_n 0, 1) := by decide +kernel
theorem dX10_mode_17 : decode cX10_mode 17 = .ok (.iload_n 1, 1) := by decide +kernel
theorem dX10_mode_18 : decode cX10_mode 18 = .ok (.putfield 373, 3) := by decide +kernel
theorem dX10_mode_21 : decode cX10_mode 21 = .ok (.aload_n 0, 1) := by decide +kernel
theorem dX10_mode_22 : decode cX10_mode 22 = .ok (.iload_n 2, 1) := by decide +kernel
theorem dX10_mode_23 : decode cX10_mode 23 = .ok (.putfield 376, 3) := by decide +kernel
theorem dX10_mode_26 : decode cX10_mode 26 = .ok (.aload_n 0, 1) := by decide +kernel
theorem dX10_mode_27 : decode cX10_mode 27 = .ok (.iconst 0, 1) := by decide +kernel
theorem dX10_mode_28 : decode cX10_mode 28 = .ok (.putfield 358, 3) := by decide +kernel
theorem dX10_mode_31 : decode cX10_mode 31 = .ok (.iconst 1, 1) := by decide +kernel
theorem dX10_mode_32 : decode cX10_mode 32 = .ok (.ireturn, 1) := by decide +kernel
theorem dX10_stones_0 : decode cX10_stones 0 = .ok (.iconst 0, 1) := by decide +kernel
theorem dX10_stones_1 : decode cX10_stones 1 = .ok (.istore_n 2, 1) := by decide +kernel
theorem dX10_stones_2 : decode cX10_stones 2 = .ok (.iload_n 2, 1) := by decide +kernel
theorem dX10_stones_3 : decode cX10_stones 3 = .ok (.bipush 80, 2) := by decide +kernel
theorem dX10_stones_5 : decode cX10_stones 5 = .ok (.if_icmp .ge 45, 3) := by decide +kernel
theorem dX10_stones_8 : decode cX10_stones 8 = .ok (.aload_n 0, 1) := by decide +kernel
theorem dX10_stones_9 : decode cX10_stones 9 = .ok (.getfield 107, 3) := by decide +kernel
theorem dX10_stones_12 : decode cX10_stones 12 = .ok (.iload_n 2, 1) := by decide +kernel
theorem dX10_stones_13 : decode cX10_stones 13 = .ok (.aload_n 0, 1) := by decide +kernel
theorem dX10_stones_14 : decode cX10_stones 14 = .ok (.getfield 27, 3) := by decide +kernel
theorem dX10_stones_17 : decode cX10_stones 17 = .ok (.iload_n 2, 1) := by decide +kernel
theorem dX10_stones_18 : decode cX10_stones 18 = .ok (.iaload, 1) := by decide +kernel
theorem dX10_stones_19 : decode cX10_stones 19 = .ok (.iastore, 1) := by decide +kernel
theorem dX10_stones_20 : decode cX10_stones 20 = .ok (.aload_n 0, 1) := by decide +kernel
theorem dX10_stones_21 : decode cX10_stones 21 = .ok (.getfield 110, 3) := by decide +kernel
theorem dX10_stones_24 : decode cX10_stones 24 = .ok (.iload_n 2, 1) := by decide +kernel
theorem dX10_stones_25 : decode cX10_stones 25 = .ok (.aload_n 0, 1) := by decide +kernel
theorem dX10_stones_26 : decode cX10_stones 26 = .ok (.getfield 30, 3) := by decide +kernel
theorem dX10_stones_29 : decode cX10_stones 29 = .ok (.iload_n 2, 1) := by decide +kernel
theorem dX10_stones_30 : decode cX10_stones 30 = .ok (.iaload, 1) := by decide +kernel
theorem dX10_stones_31 : decode cX10_stones 31 = .ok (.iastore, 1) := by decide +kernel
theorem dX10_stones_32 : decode cX10_stones 32 = .ok (.aload_n 0, 1) := by decide +kernel
theorem dX10_stones_33 : decode cX10_stones 33 = .ok (.getfield 113, 3) := by decide +kernel
theorem dX10_stones_36 : decode cX10_stones 36 = .ok (.iload_n 2, 1) := by decide +kernel
theorem dX10_stones_37 : decode cX10_stones 37 = .ok (.aload_n 0, 1) := by decide +kernel
theorem dX10_stones_38 : decode cX10_stones 38 = .ok (.getfield 43, 3) := by decide +kernel
theorem dX10_stones_41 : decode cX10_stones 41 = .ok (.iload_n 2, 1) := by decide +kernel
theorem dX10_stones_42 : decode cX10_stones 42 = .ok (.baload, 1) := by decide +kernel
theorem dX10_stones_43 : decode cX10_stones 43 = .ok (.bastore, 1) := by decide +kernel
theorem dX10_stones_44 : decode cX10_stones 44 = .ok (.iinc 2 1, 3) := by decide +kernel
theorem dX10_stones_47 : decode cX10_stones 47 = .ok (.goto (-45), 3) := by decide +kernel
theorem dX10_stones_50 : decode cX10_stones 50 = .ok (.iconst 0, 1) := by decide +kernel
theorem dX10_stones_51 : decode cX10_stones 51 = .ok (.istore_n 2, 1) := by decide +kernel
theorem dX10_stones_52 : decode cX10_stones 52 = .ok (.iload_n 2, 1) := by decide +kernel
theorem dX10_stones_53 : decode cX10_stones 53 = .ok (.iload_n 1, 1) := by decide +kernel
theorem dX10_stones_54 : decode cX10_stones 54 = .ok (.if_icmp .ge 16, 3) := by decide +kernel
theorem dX10_stones_57 : decode cX10_stones 57 = .ok (.aload_n 0, 1) := by decide +kernel
theorem dX10_stones_58 : decode cX10_stones 58 = .ok (.getfield 104, 3) := by decide +kernel
theorem dX10_stones_61 : decode cX10_stones 61 = .ok (.iload_n 2, 1) := by decide +kernel
theorem dX10_stones_62 : decode cX10_stones 62 = .ok (.iconst 0, 1) := by decide +kernel
theorem dX10_stones_63 : decode cX10_stones 63 = .ok (.bastore, 1) := by decide +kernel
theorem dX10_stones_64 : decode cX10_stones 64 = .ok (.iinc 2 1, 3) := by decide +kernel
theorem dX10_stones_67 : decode cX10_stones 67 = .ok (.goto (-15), 3) := by decide +kernel
theorem dX10_stones_70 : decode cX10_stones 70 = .ok (.iload_n 1, 1) := by decide +kernel
theorem dX10_stones_71 : decode cX10_stones 71 = .ok (.iconst 1, 1) := by decide +kernel
theorem dX10_stones_72 : decode cX10_stones 72 = .ok (.isub, 1) := by decide +kernel
theorem dX10_stones_73 : decode cX10_stones 73 = .ok (.istore_n 2, 1) := by decide +kernel
theorem dX10_stones_74 : decode cX10_stones 74 = .ok (.iload_n 2, 1) := by decide +kernel
theorem dX10_stones_75 : decode cX10_stones 75 = .ok (.ifCond .lt 40, 3) := by decide +kernel
theorem dX10_stones_78 : decode cX10_stones 78 = .ok (.aload_n 0, 1) := by decide +kernel
theorem dX10_stones_79 : decode cX10_stones 79 = .ok (.getfield 104, 3) := by decide +kernel
theorem dX10_stones_82 : decode cX10_stones 82 = .ok (.iload_n 2, 1) := by decide +kernel
theorem dX10_stones_83 : decode cX10_stones 83 = .ok (.baload, 1) := by decide +kernel
theorem dX10_stones_84 : decode cX10_stones 84 = .ok (.ifCond .ne 25, 3) := by decide +kernel
theorem dX10_stones_87 : decode cX10_stones 87 = .ok (.aload_n 0, 1) := by decide +kernel
theorem dX10_stones_88 : decode cX10_stones 88 = .ok (.getfield 92, 3) := by decide +kernel
theorem dX10_stones_91 : decode cX10_stones 91 = .ok (.iload_n 2, 1) := by decide +kernel
theorem dX10_stones_92 : decode cX10_stones 92 = .ok (.iaload, 1) := by decide +kernel
theorem dX10_stones_93 : decode cX10_stones 93 = .ok (.iconst 2, 1) := by decide +kernel
theorem dX10_stones_94 : decode cX10_stones 94 = .ok (.if_icmp .ne 15, 3) := by decide +kernel
theorem dX10_stones_97 : decode cX10_stones 97 = .ok (.aload_n 0, 1) := by decide +kernel
theorem dX10_stones_98 : decode cX10_stones 98 = .ok (.getfield 104, 3) := by decide +kernel
theorem dX10_stones_101 : decode cX10_stones 101 = .ok (.aload_n 0, 1) := by decide +kernel
theorem dX10_stones_102 : decode cX10_stones 102 = .ok (.getfield 95, 3) := by decide +kernel
theorem dX10_stones_105 : decode cX10_stones 105 = .ok (.iload_n 2, 1) := by decide +kernel
theorem dX10_stones_106 : decode cX10_stones 106 = .ok (.iaload, 1) := by decide +kernel
theorem dX10_stones_107 : decode cX10_stones 107 = .ok (.iconst 1, 1) := by decide +kernel
theorem dX10_stones_108 : decode cX10_stones 108 = .ok (.bastore, 1) := by decide +kernel
theorem dX10_stones_109 : decode cX10_stones 109 = .ok (.iinc 2 (-1), 3) := by decide +kernel
theorem dX10_stones_112 : decode cX10_stones 112 = .ok (.goto (-38), 3) := by decide +kernel
theorem dX10_stones_115 : decode cX10_stones 115 = .ok (.iconst 0, 1) := by decide +kernel
theorem dX10_stones_116 : decode cX10_stones 116 = .ok (.istore_n 2, 1) := by decide +kernel
theorem dX10_stones_117 : decode cX10_stones 117 = .ok (.iload_n 2, 1) := by decide +kernel
theorem dX10_stones_118 : decode cX10_stones 118 = .ok (.iload_n 1, 1) := by decide +kernel
theorem dX10_stones_119 : decode cX10_stones 119 = .ok (.if_icmp .ge 96, 3) := by decide +kernel
theorem dX10_stones_122 : decode cX10_stones 122 = .ok (.aload_n 0, 1) := by decide +kernel
theorem dX10_stones_123 : decode cX10_stones 123 = .ok (.getfield 104, 3) := by decide +kernel
theorem dX10_stones_126 : decode cX10_stones 126 = .ok (.iload_n 2, 1) := by decide +kernel
theorem dX10_stones_127 : decode cX10_stones 127 = .ok (.baload, 1) := by decide +kernel
theorem dX10_stones_128 : decode cX10_stones 128 = .ok (.ifCond .ne 81, 3) := by decide +kernel
theorem dX10_stones_131 : decode cX10_stones 131 = .ok (.aload_n 0, 1) := by decide +kernel
theorem dX10_stones_132 : decode cX10_stones 132 = .ok (.getfield 92, 3) := by decide +kernel
theorem dX10_stones_135 : decode cX10_stones 135 = .ok (.iload_n 2, 1) := by decide +kernel
theorem dX10_stones_136 : decode cX10_stones 136 = .ok (.iaload, 1) := by decide +kernel
theorem dX10_stones_137 : decode cX10_stones 137 = .ok (.iconst 2, 1) := by decide +kernel
theorem dX10_stones_138 : decode cX10_stones 138 = .ok (.if_icmp .ne 6, 3) := by decide +kernel
theorem dX10_stones_141 : decode cX10_stones 141 = .ok (.goto 68, 3) := by decide +kernel
theorem dX10_stones_144 : decode cX10_stones 144 = .ok (.aload_n 0, 1) := by decide +kernel
theorem dX10_stones_145 : decode cX10_stones 145 = .ok (.getfield 95, 3) := by decide +kernel
theorem dX10_stones_148 : decode cX10_stones 148 = .ok (.iload_n 2, 1) := by decide +kernel
theorem dX10_stones_149 : decode cX10_stones 149 = .ok (.iaload, 1) := by decide +kernel
theorem dX10_stones_150 : decode cX10_stones 150 = .ok (.istore_n 3, 1) := by decide +kernel
theorem dX10_stones_151 : decode cX10_stones 151 = .ok (.aload_n 0, 1) := by decide +kernel
theorem dX10_stones_152 : decode cX10_stones 152 = .ok (.getfield 92, 3) := by decide +kernel
theorem dX10_stones_155 : decode cX10_stones 155 = .ok (.iload_n 2, 1) := by decide +kernel
theorem dX10_stones_156 : decode cX10_stones 156 = .ok (.iaload, 1) := by decide +kernel
theorem dX10_stones_157 : decode cX10_stones 157 = .ok (.iconst 1, 1) := by decide +kernel
theorem dX10_stones_158 : decode cX10_stones 158 = .ok (.if_icmp .ne 27, 3) := by decide +kernel
theorem dX10_stones_161 : decode cX10_stones 161 = .ok (.aload_n 0, 1) := by decide +kernel
theorem dX10_stones_162 : decode cX10_stones 162 = .ok (.getfield 113, 3) := by decide +kernel
theorem dX10_stones_165 : decode cX10_stones 165 = .ok (.iload_n 3, 1) := by decide +kernel
theorem dX10_stones_166 : decode cX10_stones 166 = .ok (.aload_n 0, 1) := by decide +kernel
theorem dX10_stones_167 : decode cX10_stones 167 = .ok (.getfield 98, 3) := by decide +kernel
theorem dX10_stones_170 : decode cX10_stones 170 = .ok (.iload_n 2, 1) := by decide +kernel
theorem dX10_stones_171 : decode cX10_stones 171 = .ok (.iaload, 1) := by decide +kernel
theorem dX10_stones_172 : decode cX10_stones 172 = .ok (.iconst 1, 1) := by decide +kernel
theorem dX10_stones_173 : decode cX10_stones 173 = .ok (.if_icmp .ne 7, 3) := by decide +kernel
theorem dX10_stones_176 : decode cX10_stones 176 = .ok (.iconst 1, 1) := by decide +kernel
theorem dX10_stones_177 : decode cX10_stones 177 = .ok (.goto 4, 3) := by decide +kernel
theorem dX10_stones_180 : decode cX10_stones 180 = .ok (.iconst 0, 1) := by decide +kernel
theorem dX10_stones_181 : decode cX10_stones 181 = .ok (.bastore, 1) := by decide +kernel
theorem dX10_stones_182 : decode cX10_stones 182 = .ok (.goto 27, 3) := by decide +kernel
theorem dX10_stones_185 : decode cX10_stones 185 = .ok (.aload_n 0, 1) := by decide +kernel
theorem dX10_stones_186 : decode cX10_stones 186 = .ok (.getfield 107, 3) := by decide +kernel
theorem dX10_stones_189 : decode cX10_stones 189 = .ok (.iload_n 3, 1) := by decide +kernel
theorem dX10_stones_190 : decode cX10_stones 190 = .ok (.aload_n 0, 1) := by decide +kernel
theorem dX10_stones_191 : decode cX10_stones 191 = .ok (.getfield 98, 3) := by decide +kernel
theorem dX10_stones_194 : decode cX10_stones 194 = .ok (.iload_n 2, 1) := by decide +kernel
theorem dX10_stones_195 : decode cX10_stones 195 = .ok (.iaload, 1) := by decide +kernel
theorem dX10_stones_196 : decode cX10_stones 196 = .ok (.iastore, 1) := by decide +kernel
theorem dX10_stones_197 : decode cX10_stones 197 = .ok (.aload_n 0, 1) := by decide +kernel
theorem dX10_stones_198 : decode cX10_stones 198 = .ok (.getfield 110, 3) := by decide +kernel
theorem dX10_stones_201 : decode cX10_stones 201 = .ok (.iload_n 3, 1) := by decide +kernel
theorem dX10_stones_202 : decode cX10_stones 202 = .ok (.aload_n 0, 1) := by decide +kernel
theorem dX10_stones_203 : decode cX10_stones 203 = .ok (.getfield 101, 3) := by decide +kernel
theorem dX10_stones_206 : decode cX10_stones 206 = .ok (.iload_n 2, 1) := by decide +kernel
theorem dX10_stones_207 : decode cX10_stones 207 = .ok (.iaload, 1) := by decide +kernel
theorem dX10_stones_208 : decode cX10_stones 208 = .ok (.iastore, 1) := by decide +kernel
theorem dX10_stones_209 : decode cX10_stones 209 = .ok (.iinc 2 1, 3) := by decide +kernel
theorem dX10_stones_212 : decode cX10_stones 212 = .ok (.goto (-95), 3) := by decide +kernel
theorem dX10_stones_215 : decode cX10_stones 215 = .ok (.return_, 1) := by decide +kernel
theorem dX10_knownNotes_0 : decode cX10_knownNotes 0 = .ok (.aload_n 0, 1) := by decide +kernel
theorem dX10_knownNotes_1 : decode cX10_knownNotes 1 = .ok (.getfield 89, 3) := by decide +kernel
theorem dX10_knownNotes_4 : decode cX10_knownNotes 4 = .ok (.iconst (-1), 1) := by decide +kernel
theorem dX10_knownNotes_5 : decode cX10_knownNotes 5 = .ok (.if_icmp .ne 10, 3) := by decide +kernel
theorem dX10_knownNotes_8 : decode cX10_knownNotes 8 = .ok (.aload_n 0, 1) := by decide +kernel
theorem dX10_knownNotes_9 : decode cX10_knownNotes 9 = .ok (.getfield 355, 3) := by decide +kernel
theorem dX10_knownNotes_12 : decode cX10_knownNotes 12 = .ok (.goto 7, 3) := by decide +kernel
theorem dX10_knownNotes_15 : decode cX10_knownNotes 15 = .ok (.aload_n 0, 1) := by decide +kernel
theorem dX10_knownNotes_16 : decode cX10_knownNotes 16 = .ok (.getfield 89, 3) := by decide +kernel
theorem dX10_knownNotes_19 : decode cX10_knownNotes 19 = .ok (.ireturn, 1) := by decide +kernel
theorem dX10_look_0 : decode cX10_look 0 = .ok (.aload_n 0, 1) := by decide +kernel
theorem dX10_look_1 : decode cX10_look 1 = .ok (.aload_n 0, 1) := by decide +kernel
theorem dX10_look_2 : decode cX10_look 2 = .ok (.iload_n 1, 1) := by decide +kernel
theorem dX10_look_3 : decode cX10_look 3 = .ok (.iload_n 2, 1) := by decide +kernel
theorem dX10_look_4 : decode cX10_look 4 = .ok (.invokevirtual 362, 3) := by decide +kernel
theorem dX10_look_7 : decode cX10_look 7 = .ok (.ifCond .ne 7, 3) := by decide +kernel
theorem dX10_look_10 : decode cX10_look 10 = .ok (.iconst 1, 1) := by decide +kernel
theorem dX10_look_11 : decode cX10_look 11 = .ok (.goto 17, 3) := by decide +kernel
theorem dX10_look_14 : decode cX10_look 14 = .ok (.iload_n 3, 1) := by decide +kernel
theorem dX10_look_15 : decode cX10_look 15 = .ok (.ifCond .lt 8, 3) := by decide +kernel
theorem dX10_look_18 : decode cX10_look 18 = .ok (.iload_n 3, 1) := by decide +kernel
theorem dX10_look_19 : decode cX10_look 19 = .ok (.iconst 5, 1) := by decide +kernel
theorem dX10_look_20 : decode cX10_look 20 = .ok (.if_icmp .le 7, 3) := by decide +kernel
theorem dX10_look_23 : decode cX10_look 23 = .ok (.iconst 2, 1) := by decide +kernel
theorem dX10_look_24 : decode cX10_look 24 = .ok (.goto 4, 3) := by decide +kernel
theorem dX10_look_27 : decode cX10_look 27 = .ok (.iconst 0, 1) := by decide +kernel
theorem dX10_look_28 : decode cX10_look 28 = .ok (.putfield 153, 3) := by decide +kernel
theorem dX10_look_31 : decode cX10_look 31 = .ok (.aload_n 0, 1) := by decide +kernel
theorem dX10_look_32 : decode cX10_look 32 = .ok (.getfield 153, 3) := by decide +kernel
theorem dX10_look_35 : decode cX10_look 35 = .ok (.ifCond .eq 5, 3) := by decide +kernel
theorem dX10_look_38 : decode cX10_look 38 = .ok (.iconst 0, 1) := by decide +kernel
theorem dX10_look_39 : decode cX10_look 39 = .ok (.ireturn, 1) := by decide +kernel
theorem dX10_look_40 : decode cX10_look 40 = .ok (.aload_n 0, 1) := by decide +kernel
theorem dX10_look_41 : decode cX10_look 41 = .ok (.aload_n 0, 1) := by decide +kernel
theorem dX10_look_42 : decode cX10_look 42 = .ok (.invokevirtual 379, 3) := by decide +kernel
theorem dX10_look_45 : decode cX10_look 45 = .ok (.invokevirtual 382, 3) := by decide +kernel
theorem dX10_look_48 : decode cX10_look 48 = .ok (.bipush 10, 2) := by decide +kernel
theorem dX10_look_50 : decode cX10_look 50 = .ok (.iload_n 1, 1) := by decide +kernel
theorem dX10_look_51 : decode cX10_look 51 = .ok (.imul, 1) := by decide +kernel
theorem dX10_look_52 : decode cX10_look 52 = .ok (.iload_n 2, 1) := by decide +kernel
theorem dX10_look_53 : decode cX10_look 53 = .ok (.iadd, 1) := by decide +kernel
theorem dX10_look_54 : decode cX10_look 54 = .ok (.istore 4, 2) := by decide +kernel
theorem dX10_look_56 : decode cX10_look 56 = .ok (.iload_n 3, 1) := by decide +kernel
theorem dX10_look_57 : decode cX10_look 57 = .ok (.tableswitch 83 0 4 #[35, 43, 51, 59, 67], 35) := by decide +kernel
theorem dX10_look_92 : decode cX10_look 92 = .ok (.aload_n 0, 1) := by decide +kernel
theorem dX10_look_93 : decode cX10_look 93 = .ok (.getfield 107, 3) := by decide +kernel
theorem dX10_look_96 : decode cX10_look 96 = .ok (.iload 4, 2) := by decide +kernel
theorem dX10_look_98 : decode cX10_look 98 = .ok (.iaload, 1) := by decide +kernel
theorem dX10_look_99 : decode cX10_look 99 = .ok (.ireturn, 1) := by decide +kernel
theorem dX10_look_100 : decode cX10_look 100 = .ok (.aload_n 0, 1) := by decide +kernel
theorem dX10_look_101 : decode cX10_look 101 = .ok (.getfield 110, 3) := by decide +kernel
theorem dX10_look_104 : decode cX10_look 104 = .ok (.iload 4, 2) := by decide +kernel
theorem dX10_look_106 : decode cX10_look 106 = .ok (.iaload, 1) := by decide +kernel
theorem dX10_look_107 : decode cX10_look 107 = .ok (.ireturn, 1) := by decide +kernel
theorem dX10_look_108 : decode cX10_look 108 = .ok (.aload_n 0, 1) := by decide +kernel
theorem dX10_look_109 : decode cX10_look 109 = .ok (.getfield 33, 3) := by decide +kernel
theorem dX10_look_112 : decode cX10_look 112 = .ok (.iload 4, 2) := by decide +kernel
theorem dX10_look_114 : decode cX10_look 114 = .ok (.iaload, 1) := by decide +kernel
theorem dX10_look_115 : decode cX10_look 115 = .ok (.ireturn, 1) := by decide +kernel
theorem dX10_look_116 : decode cX10_look 116 = .ok (.aload_n 0, 1) := by decide +kernel
theorem dX10_look_117 : decode cX10_look 117 = .ok (.getfield 36, 3) := by decide +kernel
theorem dX10_look_120 : decode cX10_look 120 = .ok (.iload 4, 2) := by decide +kernel
theorem dX10_look_122 : decode cX10_look 122 = .ok (.iaload, 1) := by decide +kernel
theorem dX10_look_123 : decode cX10_look 123 = .ok (.ireturn, 1) := by decide +kernel
theorem dX10_look_124 : decode cX10_look 124 = .ok (.aload_n 0, 1) := by decide +kernel
theorem dX10_look_125 : decode cX10_look 125 = .ok (.getfield 39, 3) := by decide +kernel
theorem dX10_look_128 : decode cX10_look 128 = .ok (.iload 4, 2) := by decide +kernel
theorem dX10_look_130 : decode cX10_look 130 = .ok (.baload, 1) := by decide +kernel
theorem dX10_look_131 : decode cX10_look 131 = .ok (.ifCond .eq 7, 3) := by decide +kernel
theorem dX10_look_134 : decode cX10_look 134 = .ok (.iconst 1, 1) := by decide +kernel
theorem dX10_look_135 : decode cX10_look 135 = .ok (.goto 4, 3) := by decide +kernel
theorem dX10_look_138 : decode cX10_look 138 = .ok (.iconst 0, 1) := by decide +kernel
theorem dX10_look_139 : decode cX10_look 139 = .ok (.ireturn, 1) := by decide +kernel
theorem dX10_look_140 : decode cX10_look 140 = .ok (.aload_n 0, 1) := by decide +kernel
theorem dX10_look_141 : decode cX10_look 141 = .ok (.getfield 113, 3) := by decide +kernel
theorem dX10_look_144 : decode cX10_look 144 = .ok (.iload 4, 2) := by decide +kernel
theorem dX10_look_146 : decode cX10_look 146 = .ok (.baload, 1) := by decide +kernel
theorem dX10_look_147 : decode cX10_look 147 = .ok (.ifCond .eq 7, 3) := by decide +kernel
theorem dX10_look_150 : decode cX10_look 150 = .ok (.iconst 1, 1) := by decide +kernel
theorem dX10_look_151 : decode cX10_look 151 = .ok (.goto 4, 3) := by decide +kernel
theorem dX10_look_154 : decode cX10_look 154 = .ok (.iconst 0, 1) := by decide +kernel
theorem dX10_look_155 : decode cX10_look 155 = .ok (.ireturn, 1) := by decide +kernel
theorem dX10_stands_0 : decode cX10_stands 0 = .ok (.aload_n 0, 1) := by decide +kernel
theorem dX10_stands_1 : decode cX10_stands 1 = .ok (.iconst 0, 1) := by decide +kernel
theorem dX10_stands_2 : decode cX10_stands 2 = .ok (.putfield 385, 3) := by decide +kernel
theorem dX10_stands_5 : decode cX10_stands 5 = .ok (.iconst 0, 1) := by decide +kernel
theorem dX10_stands_6 : decode cX10_stands 6 = .ok (.istore_n 2, 1) := by decide +kernel
theorem dX10_stands_7 : decode cX10_stands 7 = .ok (.iload_n 2, 1) := by decide +kernel
theorem dX10_stands_8 : decode cX10_stands 8 = .ok (.aload_n 0, 1) := by decide +kernel
theorem dX10_stands_9 : decode cX10_stands 9 = .ok (.getfield 24, 3) := by decide +kernel
theorem dX10_stands_12 : decode cX10_stands 12 = .ok (.iload_n 1, 1) := by decide +kernel
theorem dX10_stands_13 : decode cX10_stands 13 = .ok (.iaload, 1) := by decide +kernel
theorem dX10_stands_14 : decode cX10_stands 14 = .ok (.if_icmp .ge 129, 3) := by decide +kernel
theorem dX10_stands_17 : decode cX10_stands 17 = .ok (.bipush 10, 2) := by decide +kernel
theorem dX10_stands_19 : decode cX10_stands 19 = .ok (.iload_n 1, 1) := by decide +kernel
theorem dX10_stands_20 : decode cX10_stands 20 = .ok (.imul, 1) := by decide +kernel
theorem dX10_stands_21 : decode cX10_stands 21 = .ok (.iload_n 2, 1) := by decide +kernel
theorem dX10_stands_22 : decode cX10_stands 22 = .ok (.iadd, 1) := by decide +kernel
theorem dX10_stands_23 : decode cX10_stands 23 = .ok (.istore_n 3, 1) := by decide +kernel
theorem dX10_stands_24 : decode cX10_stands 24 = .ok (.aload_n 0, 1) := by decide +kernel
theorem dX10_stands_25 : decode cX10_stands 25 = .ok (.getfield 113, 3) := by decide +kernel
theorem dX10_stands_28 : decode cX10_stands 28 = .ok (.iload_n 3, 1) := by decide +kernel
theorem dX10_stands_29 : decode cX10_stands 29 = .ok (.baload, 1) := by decide +kernel
theorem dX10_stands_30 : decode cX10_stands 30 = .ok (.ifCond .ne 107, 3) := by decide +kernel
theorem dX10_stands_33 : decode cX10_stands 33 = .ok (.aload_n 0, 1) := by decide +kernel
theorem dX10_stands_34 : decode cX10_stands 34 = .ok (.getfield 373, 3) := by decide +kernel
theorem dX10_stands_37 : decode cX10_stands 37 = .ok (.iconst 1, 1) := by decide +kernel
theorem dX10_stands_38 : decode cX10_stands 38 = .ok (.iand, 1) := by decide +kernel
theorem dX10_stands_39 : decode cX10_stands 39 = .ok (.iconst 1, 1) := by decide +kernel
theorem dX10_stands_40 : decode cX10_stands 40 = .ok (.if_icmp .ne 15, 3) := by decide +kernel
theorem dX10_stands_43 : decode cX10_stands 43 = .ok (.aload_n 0, 1) := by decide +kernel
theorem dX10_stands_44 : decode cX10_stands 44 = .ok (.getfield 39, 3) := by decide +kernel
theorem dX10_stands_47 : decode cX10_stands 47 = .ok (.iload_n 3, 1) := by decide +kernel
theorem dX10_stands_48 : decode cX10_stands 48 = .ok (.baload, 1) := by decide +kernel
theorem dX10_stands_49 : decode cX10_stands 49 = .ok (.ifCond .eq 6, 3) := by decide +kernel
theorem dX10_stands_52 : decode cX10_stands 52 = .ok (.goto 85, 3) := by decide +kernel
theorem dX10_stands_55 : decode cX10_stands 55 = .ok (.aload_n 0, 1) := by decide +kernel
theorem dX10_stands_56 : decode cX10_stands 56 = .ok (.getfield 116, 3) := by decide +kernel
theorem dX10_stands_59 : decode cX10_stands 59 = .ok (.aload_n 0, 1) := by decide +kernel
theorem dX10_stands_60 : decode cX10_stands 60 = .ok (.getfield 385, 3) := by decide +kernel
theorem dX10_stands_63 : decode cX10_stands 63 = .ok (.aload_n 0, 1) := by decide +kernel
theorem dX10_stands_64 : decode cX10_stands 64 = .ok (.getfield 107, 3) := by decide +kernel
theorem dX10_stands_67 : decode cX10_stands 67 = .ok (.iload_n 3, 1) := by decide +kernel
theorem dX10_stands_68 : decode cX10_stands 68 = .ok (.iaload, 1) := by decide +kernel
theorem dX10_stands_69 : decode cX10_stands 69 = .ok (.aload_n 0, 1) := by decide +kernel
theorem dX10_stands_70 : decode cX10_stands 70 = .ok (.getfield 373, 3) := by decide +kernel
theorem dX10_stands_73 : decode cX10_stands 73 = .ok (.iconst 2, 1) := by decide +kernel
theorem dX10_stands_74 : decode cX10_stands 74 = .ok (.iand, 1) := by decide +kernel
theorem dX10_stands_75 : decode cX10_stands 75 = .ok (.iconst 2, 1) := by decide +kernel
theorem dX10_stands_76 : decode cX10_stands 76 = .ok (.if_icmp .ne 12, 3) := by decide +kernel
theorem dX10_stands_79 : decode cX10_stands 79 = .ok (.aload_n 0, 1) := by decide +kernel
theorem dX10_stands_80 : decode cX10_stands 80 = .ok (.getfield 33, 3) := by decide +kernel
theorem dX10_stands_83 : decode cX10_stands 83 = .ok (.iload_n 3, 1) := by decide +kernel
theorem dX10_stands_84 : decode cX10_stands 84 = .ok (.iaload, 1) := by decide +kernel
theorem dX10_stands_85 : decode cX10_stands 85 = .ok (.goto 4, 3) := by decide +kernel
theorem dX10_stands_88 : decode cX10_stands 88 = .ok (.iconst 0, 1) := by decide +kernel
theorem dX10_stands_89 : decode cX10_stands 89 = .ok (.iadd, 1) := by decide +kernel
theorem dX10_stands_90 : decode cX10_stands 90 = .ok (.iastore, 1) := by decide +kernel
theorem dX10_stands_91 : decode cX10_stands 91 = .ok (.aload_n 0, 1) := by decide +kernel
theorem dX10_stands_92 : decode cX10_stands 92 = .ok (.getfield 119, 3) := by decide +kernel
theorem dX10_stands_95 : decode cX10_stands 95 = .ok (.aload_n 0, 1) := by decide +kernel
theorem dX10_stands_96 : decode cX10_stands 96 = .ok (.getfield 385, 3) := by decide +kernel
theorem dX10_stands_99 : decode cX10_stands 99 = .ok (.aload_n 0, 1) := by decide +kernel
theorem dX10_stands_100 : decode cX10_stands 100 = .ok (.getfield 110, 3) := by decide +kernel
theorem dX10_stands_103 : decode cX10_stands 103 = .ok (.iload_n 3, 1) := by decide +kernel
theorem dX10_stands_104 : decode cX10_stands 104 = .ok (.iaload, 1) := by decide +kernel
theorem dX10_stands_105 : decode cX10_stands 105 = .ok (.aload_n 0, 1) := by decide +kernel
theorem dX10_stands_106 : decode cX10_stands 106 = .ok (.getfield 373, 3) := by decide +kernel
theorem dX10_stands_109 : decode cX10_stands 109 = .ok (.iconst 2, 1) := by decide +kernel
theorem dX10_stands_110 : decode cX10_stands 110 = .ok (.iand, 1) := by decide +kernel
theorem dX10_stands_111 : decode cX10_stands 111 = .ok (.iconst 2, 1) := by decide +kernel
theorem dX10_stands_112 : decode cX10_stands 112 = .ok (.if_icmp .ne 12, 3) := by decide +kernel
theorem dX10_stands_115 : decode cX10_stands 115 = .ok (.aload_n 0, 1) := by decide +kernel
theorem dX10_stands_116 : decode cX10_stands 116 = .ok (.getfield 36, 3) := by decide +kernel
theorem dX10_stands_119 : decode cX10_stands 119 = .ok (.iload_n 3, 1) := by decide +kernel
theorem dX10_stands_120 : decode cX10_stands 120 = .ok (.iaload, 1) := by decide +kernel
theorem dX10_stands_121 : decode cX10_stands 121 = .ok (.goto 4, 3) := by decide +kernel
theorem dX10_stands_124 : decode cX10_stands 124 = .ok (.iconst 0, 1) := by decide +kernel
theorem dX10_stands_125 : decode cX10_stands 125 = .ok (.iadd, 1) := by decide +kernel
theorem dX10_stands_126 : decode cX10_stands 126 = .ok (.iastore, 1) := by decide +kernel
theorem dX10_stands_127 : decode cX10_stands 127 = .ok (.aload_n 0, 1) := by decide +kernel
theorem dX10_stands_128 : decode cX10_stands 128 = .ok (.dup, 1) := by decide +kernel
theorem dX10_stands_129 : decode cX10_stands 129 = .ok (.getfield 385, 3) := by decide +kernel
theorem dX10_stands_132 : decode cX10_stands 132 = .ok (.iconst 1, 1) := by decide +kernel
theorem dX10_stands_133 : decode cX10_stands 133 = .ok (.iadd, 1) := by decide +kernel
theorem dX10_stands_134 : decode cX10_stands 134 = .ok (.putfield 385, 3) := by decide +kernel
theorem dX10_stands_137 : decode cX10_stands 137 = .ok (.iinc 2 1, 3) := by decide +kernel
theorem dX10_stands_140 : decode cX10_stands 140 = .ok (.goto (-133), 3) := by decide +kernel
theorem dX10_stands_143 : decode cX10_stands 143 = .ok (.return_, 1) := by decide +kernel
theorem dX10_about_0 : decode cX10_about 0 = .ok (.aload_n 0, 1) := by decide +kernel
theorem dX10_about_1 : decode cX10_about 1 = .ok (.iconst 0, 1) := by decide +kernel
theorem dX10_about_2 : decode cX10_about 2 = .ok (.putfield 153, 3) := by decide +kernel
theorem dX10_about_5 : decode cX10_about 5 = .ok (.iload_n 1, 1) := by decide +kernel
theorem dX10_about_6 : decode cX10_about 6 = .ok (.ifCond .lt 20, 3) := by decide +kernel
theorem dX10_about_9 : decode cX10_about 9 = .ok (.iload_n 1, 1) := by decide +kernel
theorem dX10_about_10 : decode cX10_about 10 = .ok (.aload_n 0, 1) := by decide +kernel
theorem dX10_about_11 : decode cX10_about 11 = .ok (.getfield 340, 3) := by decide +kernel
theorem dX10_about_14 : decode cX10_about 14 = .ok (.if_icmp .ge 12, 3) := by decide +kernel
theorem dX10_about_17 : decode cX10_about 17 = .ok (.iload_n 2, 1) := by decide +kernel
theorem dX10_about_18 : decode cX10_about 18 = .ok (.ifCond .lt 8, 3) := by decide +kernel
theorem dX10_about_21 : decode cX10_about 21 = .ok (.iload_n 2, 1) := by decide +kernel
theorem dX10_about_22 : decode cX10_about 22 = .ok (.iconst 2, 1) := by decide +kernel
theorem dX10_about_23 : decode cX10_about 23 = .ok (.if_icmp .le 5, 3) := by decide +kernel
theorem dX10_about_26 : decode cX10_about 26 = .ok (.iconst (-1), 1) := by decide +kernel
theorem dX10_about_27 : decode cX10_about 27 = .ok (.ireturn, 1) := by decide +kernel
theorem dX10_about_28 : decode cX10_about 28 = .ok (.aload_n 0, 1) := by decide +kernel
theorem dX10_about_29 : decode cX10_about 29 = .ok (.aload_n 0, 1) := by decide +kernel
theorem dX10_about_30 : decode cX10_about 30 = .ok (.invokevirtual 379, 3) := by decide +kernel
theorem dX10_about_33 : decode cX10_about 33 = .ok (.invokevirtual 382, 3) := by decide +kernel
theorem dX10_about_36 : decode cX10_about 36 = .ok (.aload_n 0, 1) := by decide +kernel
theorem dX10_about_37 : decode cX10_about 37 = .ok (.iload_n 1, 1) := by decide +kernel
theorem dX10_about_38 : decode cX10_about 38 = .ok (.invokevirtual 388, 3) := by decide +kernel
theorem dX10_about_41 : decode cX10_about 41 = .ok (.iload_n 2, 1) := by decide +kernel
theorem dX10_about_42 : decode cX10_about 42 = .ok (.ifCond .ne 12, 3) := by decide +kernel
theorem dX10_about_45 : decode cX10_about 45 = .ok (.aload_n 0, 1) := by decide +kernel
theorem dX10_about_46 : decode cX10_about 46 = .ok (.getfield 21, 3) := by decide +kernel
theorem dX10_about_49 : decode cX10_about 49 = .ok (.iload_n 1, 1) := by decide +kernel
theorem dX10_about_50 : decode cX10_about 50 = .ok (.iaload, 1) := by decide +kernel
theorem dX10_about_51 : decode cX10_about 51 = .ok (.goto 21, 3) := by decide +kernel
theorem dX10_about_54 : decode cX10_about 54 = .ok (.iload_n 2, 1) := by decide +kernel
theorem dX10_about_55 : decode cX10_about 55 = .ok (.iconst 1, 1) := by decide +kernel
theorem dX10_about_56 : decode cX10_about 56 = .ok (.if_icmp .ne 12, 3) := by decide +kernel
theorem dX10_about_59 : decode cX10_about 59 = .ok (.aload_n 0, 1) := by decide +kernel
theorem dX10_about_60 : decode cX10_about 60 = .ok (.getfield 24, 3) := by decide +kernel
theorem dX10_about_63 : decode cX10_about 63 = .ok (.iload_n 1, 1) := by decide +kernel
theorem dX10_about_64 : decode cX10_about 64 = .ok (.iaload, 1) := by decide +kernel
theorem dX10_about_65 : decode cX10_about 65 = .ok (.goto 7, 3) := by decide +kernel
theorem dX10_about_68 : decode cX10_about 68 = .ok (.aload_n 0, 1) := by decide +kernel
theorem dX10_about_69 : decode cX10_about 69 = .ok (.getfield 385, 3) := by decide +kernel
theorem dX10_about_72 : decode cX10_about 72 = .ok (.ireturn, 1) := by decide +kernel
theorem dX10_root_0 : decode cX10_root 0 = .ok (.lconst 0, 1) := by decide +kernel
theorem dX10_root_1 : decode cX10_root 1 = .ok (.lstore_n 2, 1) := by decide +kernel
theorem dX10_root_2 : decode cX10_root 2 = .ok (.ldc2_w 391, 3) := by decide +kernel
theorem dX10_root_5 : decode cX10_root 5 = .ok (.lstore 4, 2) := by decide +kernel
theorem dX10_root_7 : decode cX10_root 7 = .ok (.lload_n 2, 1) := by decide +kernel
theorem dX10_root_8 : decode cX10_root 8 = .ok (.lload 4, 2) := by decide +kernel
theorem dX10_root_10 : decode cX10_root 10 = .ok (.lcmp, 1) := by decide +kernel
theorem dX10_root_11 : decode cX10_root 11 = .ok (.ifCond .ge 40, 3) := by decide +kernel
theorem dX10_root_14 : decode cX10_root 14 = .ok (.lload_n 2, 1) := by decide +kernel
theorem dX10_root_15 : decode cX10_root 15 = .ok (.lload 4, 2) := by decide +kernel
theorem dX10_root_17 : decode cX10_root 17 = .ok (.ladd, 1) := by decide +kernel
theorem dX10_root_18 : decode cX10_root 18 = .ok (.lconst 1, 1) := by decide +kernel
theorem dX10_root_19 : decode cX10_root 19 = .ok (.ladd, 1) := by decide +kernel
theorem dX10_root_20 : decode cX10_root 20 = .ok (.ldc2_w 393, 3) := by decide +kernel
theorem dX10_root_23 : decode cX10_root 23 = .ok (.ldiv, 1) := by decide +kernel
theorem dX10_root_24 : decode cX10_root 24 = .ok (.lstore 6, 2) := by decide +kernel
theorem dX10_root_26 : decode cX10_root 26 = .ok (.lload 6, 2) := by decide +kernel
theorem dX10_root_28 : decode cX10_root 28 = .ok (.lload 6, 2) := by decide +kernel
theorem dX10_root_30 : decode cX10_root 30 = .ok (.lmul, 1) := by decide +kernel
theorem dX10_root_31 : decode cX10_root 31 = .ok (.lload_n 0, 1) := by decide +kernel
theorem dX10_root_32 : decode cX10_root 32 = .ok (.lcmp, 1) := by decide +kernel
theorem dX10_root_33 : decode cX10_root 33 = .ok (.ifCond .gt 9, 3) := by decide +kernel
theorem dX10_root_36 : decode cX10_root 36 = .ok (.lload 6, 2) := by decide +kernel
theorem dX10_root_38 : decode cX10_root 38 = .ok (.lstore_n 2, 1) := by decide +kernel
theorem dX10_root_39 : decode cX10_root 39 = .ok (.goto 9, 3) := by decide +kernel
theorem dX10_root_42 : decode cX10_root 42 = .ok (.lload 6, 2) := by decide +kernel
theorem dX10_root_44 : decode cX10_root 44 = .ok (.lconst 1, 1) := by decide +kernel
theorem dX10_root_45 : decode cX10_root 45 = .ok (.lsub, 1) := by decide +kernel
theorem dX10_root_46 : decode cX10_root 46 = .ok (.lstore 4, 2) := by decide +kernel
theorem dX10_root_48 : decode cX10_root 48 = .ok (.goto (-41), 3) := by decide +kernel
theorem dX10_root_51 : decode cX10_root 51 = .ok (.lload_n 2, 1) := by decide +kernel
theorem dX10_root_52 : decode cX10_root 52 = .ok (.l2i, 1) := by decide +kernel
theorem dX10_root_53 : decode cX10_root 53 = .ok (.ireturn, 1) := by decide +kernel
theorem dX10_stretched_0 : decode cX10_stretched 0 = .ok (.iload_n 1, 1) := by decide +kernel
theorem dX10_stretched_1 : decode cX10_stretched 1 = .ok (.iconst 1, 1) := by decide +kernel
theorem dX10_stretched_2 : decode cX10_stretched 2 = .ok (.if_icmp .ne 11, 3) := by decide +kernel
theorem dX10_stretched_5 : decode cX10_stretched 5 = .ok (.iload_n 0, 1) := by decide +kernel
theorem dX10_stretched_6 : decode cX10_stretched 6 = .ok (.iconst 4, 1) := by decide +kernel
theorem dX10_stretched_7 : decode cX10_stretched 7 = .ok (.imul, 1) := by decide +kernel
theorem dX10_stretched_8 : decode cX10_stretched 8 = .ok (.iconst 3, 1) := by decide +kernel
theorem dX10_stretched_9 : decode cX10_stretched 9 = .ok (.idiv, 1) := by decide +kernel
theorem dX10_stretched_10 : decode cX10_stretched 10 = .ok (.goto 8, 3) := by decide +kernel
theorem dX10_stretched_13 : decode cX10_stretched 13 = .ok (.iload_n 0, 1) := by decide +kernel
theorem dX10_stretched_14 : decode cX10_stretched 14 = .ok (.iconst 3, 1) := by decide +kernel
theorem dX10_stretched_15 : decode cX10_stretched 15 = .ok (.imul, 1) := by decide +kernel
theorem dX10_stretched_16 : decode cX10_stretched 16 = .ok (.iconst 4, 1) := by decide +kernel
theorem dX10_stretched_17 : decode cX10_stretched 17 = .ok (.idiv, 1) := by decide +kernel
theorem dX10_stretched_18 : decode cX10_stretched 18 = .ok (.ireturn, 1) := by decide +kernel
theorem dX10_awayFrom_0 : decode cX10_awayFrom 0 = .ok (.aload_n 0, 1) := by decide +kernel
theorem dX10_awayFrom_1 : decode cX10_awayFrom 1 = .ok (.getfield 116, 3) := by decide +kernel
theorem dX10_awayFrom_4 : decode cX10_awayFrom 4 = .ok (.iload_n 1, 1) := by decide +kernel
theorem dX10_awayFrom_5 : decode cX10_awayFrom 5 = .ok (.iaload, 1) := by decide +kernel
theorem dX10_awayFrom_6 : decode cX10_awayFrom 6 = .ok (.iload_n 2, 1) := by decide +kernel
theorem dX10_awayFrom_7 : decode cX10_awayFrom 7 = .ok (.isub, 1) := by decide +kernel
theorem dX10_awayFrom_8 : decode cX10_awayFrom 8 = .ok (.istore 6, 2) := by decide +kernel
theorem dX10_awayFrom_10 : decode cX10_awayFrom 10 = .ok (.aload_n 0, 1) := by decide +kernel
theorem dX10_awayFrom_11 : decode cX10_awayFrom 11 = .ok (.getfield 119, 3) := by decide +kernel
theorem dX10_awayFrom_14 : decode cX10_awayFrom 14 = .ok (.iload_n 1, 1) := by decide +kernel
theorem dX10_awayFrom_15 : decode cX10_awayFrom 15 = .ok (.iaload, 1) := by decide +kernel
theorem dX10_awayFrom_16 : decode cX10_awayFrom 16 = .ok (.iload_n 3, 1) := by decide +kernel
theorem dX10_awayFrom_17 : decode cX10_awayFrom 17 = .ok (.isub, 1) := by decide +kernel
theorem dX10_awayFrom_18 : decode cX10_awayFrom 18 = .ok (.istore 7, 2) := by decide +kernel
theorem dX10_awayFrom_20 : decode cX10_awayFrom 20 = .ok (.iload 4, 2) := by decide +kernel
theorem dX10_awayFrom_22 : decode cX10_awayFrom 22 = .ok (.ifCond .le 33, 3) := by decide +kernel
theorem dX10_awayFrom_25 : decode cX10_awayFrom 25 = .ok (.iload 5, 2) := by decide +kernel
theorem dX10_awayFrom_27 : decode cX10_awayFrom 27 = .ok (.ifCond .ne 8, 3) := by decide +kernel
theorem dX10_awayFrom_30 : decode cX10_awayFrom 30 = .ok (.iload 6, 2) := by decide +kernel
theorem dX10_awayFrom_32 : decode cX10_awayFrom 32 = .ok (.ifCond .gt 14, 3) := by decide +kernel
theorem dX10_awayFrom_35 : decode cX10_awayFrom 35 = .ok (.iload 5, 2) := by decide +kernel
theorem dX10_awayFrom_37 : decode cX10_awayFrom 37 = .ok (.iconst 2, 1) := by decide +kernel
theorem dX10_awayFrom_38 : decode cX10_awayFrom 38 = .ok (.if_icmp .ne 17, 3) := by decide +kernel
theorem dX10_awayFrom_41 : decode cX10_awayFrom 41 = .ok (.iload 6, 2) := by decide +kernel
theorem dX10_awayFrom_43 : decode cX10_awayFrom 43 = .ok (.ifCond .ge 12, 3) := by decide +kernel
theorem dX10_awayFrom_46 : decode cX10_awayFrom 46 = .ok (.iload 6, 2) := by decide +kernel
theorem dX10_awayFrom_48 : decode cX10_awayFrom 48 = .ok (.iload 4, 2) := by decide +kernel
theorem dX10_awayFrom_50 : decode cX10_awayFrom 50 = .ok (.invokestatic 395, 3) := by decide +kernel
theorem dX10_awayFrom_53 : decode cX10_awayFrom 53 = .ok (.istore 6, 2) := by decide +kernel
theorem dX10_awayFrom_55 : decode cX10_awayFrom 55 = .ok (.iload 4, 2) := by decide +kernel
theorem dX10_awayFrom_57 : decode cX10_awayFrom 57 = .ok (.ifCond .le 34, 3) := by decide +kernel
theorem dX10_awayFrom_60 : decode cX10_awayFrom 60 = .ok (.iload 5, 2) := by decide +kernel
theorem dX10_awayFrom_62 : decode cX10_awayFrom 62 = .ok (.iconst 1, 1) := by decide +kernel
theorem dX10_awayFrom_63 : decode cX10_awayFrom 63 = .ok (.if_icmp .ne 8, 3) := by decide +kernel
theorem dX10_awayFrom_66 : decode cX10_awayFrom 66 = .ok (.iload 7, 2) := by decide +kernel
theorem dX10_awayFrom_68 : decode cX10_awayFrom 68 = .ok (.ifCond .gt 14, 3) := by decide +kernel
theorem dX10_awayFrom_71 : decode cX10_awayFrom 71 = .ok (.iload 5, 2) := by decide +kernel
theorem dX10_awayFrom_73 : decode cX10_awayFrom 73 = .ok (.iconst 3, 1) := by decide +kernel
theorem dX10_awayFrom_74 : decode cX10_awayFrom 74 = .ok (.if_icmp .ne 17, 3) := by decide +kernel
theorem dX10_awayFrom_77 : decode cX10_awayFrom 77 = .ok (.iload 7, 2) := by decide +kernel
theorem dX10_awayFrom_79 : decode cX10_awayFrom 79 = .ok (.ifCond .ge 12, 3) := by decide +kernel
theorem dX10_awayFrom_82 : decode cX10_awayFrom 82 = .ok (.iload 7, 2) := by decide +kernel
theorem dX10_awayFrom_84 : decode cX10_awayFrom 84 = .ok (.iload 4, 2) := by decide +kernel
theorem dX10_awayFrom_86 : decode cX10_awayFrom 86 = .ok (.invokestatic 395, 3) := by decide +kernel
theorem dX10_awayFrom_89 : decode cX10_awayFrom 89 = .ok (.istore 7, 2) := by decide +kernel
theorem dX10_awayFrom_91 : decode cX10_awayFrom 91 = .ok (.ldc2_w 398, 3) := by decide +kernel
theorem dX10_awayFrom_94 : decode cX10_awayFrom 94 = .ok (.iload 6, 2) := by decide +kernel
theorem dX10_awayFrom_96 : decode cX10_awayFrom 96 = .ok (.i2l, 1) := by decide +kernel
theorem dX10_awayFrom_97 : decode cX10_awayFrom 97 = .ok (.iload 6, 2) := by decide +kernel
theorem dX10_awayFrom_99 : decode cX10_awayFrom 99 = .ok (.i2l, 1) := by decide +kernel
theorem dX10_awayFrom_100 : decode cX10_awayFrom 100 = .ok (.lmul, 1) := by decide +kernel
theorem dX10_awayFrom_101 : decode cX10_awayFrom 101 = .ok (.iload 7, 2) := by decide +kernel
theorem dX10_awayFrom_103 : decode cX10_awayFrom 103 = .ok (.i2l, 1) := by decide +kernel
theorem dX10_awayFrom_104 : decode cX10_awayFrom 104 = .ok (.iload 7, 2) := by decide +kernel
theorem dX10_awayFrom_106 : decode cX10_awayFrom 106 = .ok (.i2l, 1) := by decide +kernel
theorem dX10_awayFrom_107 : decode cX10_awayFrom 107 = .ok (.lmul, 1) := by decide +kernel
theorem dX10_awayFrom_108 : decode cX10_awayFrom 108 = .ok (.ladd, 1) := by decide +kernel
theorem dX10_awayFrom_109 : decode cX10_awayFrom 109 = .ok (.lmul, 1) := by decide +kernel
theorem dX10_awayFrom_110 : decode cX10_awayFrom 110 = .ok (.invokestatic 400, 3) := by decide +kernel
theorem dX10_awayFrom_113 : decode cX10_awayFrom 113 = .ok (.ireturn, 1) := by decide +kernel
theorem dX10_fits_0 : decode cX10_fits 0 = .ok (.iconst 0, 1) := by decide +kernel
theorem dX10_fits_1 : decode cX10_fits 1 = .ok (.istore_n 3, 1) := by decide +kernel
theorem dX10_fits_2 : decode cX10_fits 2 = .ok (.iconst 0, 1) := by decide +kernel
theorem dX10_fits_3 : decode cX10_fits 3 = .ok (.istore 4, 2) := by decide +kernel
theorem dX10_fits_5 : decode cX10_fits 5 = .ok (.iconst 0, 1) := by decide +kernel
theorem dX10_fits_6 : decode cX10_fits 6 = .ok (.istore 5, 2) := by decide +kernel
theorem dX10_fits_8 : decode cX10_fits 8 = .ok (.iload 5, 2) := by decide +kernel
theorem dX10_fits_10 : decode cX10_fits 10 = .ok (.aload_n 0, 1) := by decide +kernel
theorem dX10_fits_11 : decode cX10_fits 11 = .ok (.getfield 385, 3) := by decide +kernel
theorem dX10_fits_14 : decode cX10_fits 14 = .ok (.if_icmp .ge 31, 3) := by decide +kernel
theorem dX10_fits_17 : decode cX10_fits 17 = .ok (.iload_n 3, 1) := by decide +kernel
theorem dX10_fits_18 : decode cX10_fits 18 = .ok (.aload_n 0, 1) := by decide +kernel
theorem dX10_fits_19 : decode cX10_fits 19 = .ok (.getfield 116, 3) := by decide +kernel
theorem dX10_fits_22 : decode cX10_fits 22 = .ok (.iload 5, 2) := by decide +kernel
theorem dX10_fits_24 : decode cX10_fits 24 = .ok (.iaload, 1) := by decide +kernel
theorem dX10_fits_25 : decode cX10_fits 25 = .ok (.iadd, 1) := by decide +kernel
theorem dX10_fits_26 : decode cX10_fits 26 = .ok (.istore_n 3, 1) := by decide +kernel
theorem dX10_fits_27 : decode cX10_fits 27 = .ok (.iload 4, 2) := by decide +kernel
theorem dX10_fits_29 : decode cX10_fits 29 = .ok (.aload_n 0, 1) := by decide +kernel
theorem dX10_fits_30 : decode cX10_fits 30 = .ok (.getfield 119, 3) := by decide +kernel
theorem dX10_fits_33 : decode cX10_fits 33 = .ok (.iload 5, 2) := by decide +kernel
theorem dX10_fits_35 : decode cX10_fits 35 = .ok (.iaload, 1) := by decide +kernel
theorem dX10_fits_36 : decode cX10_fits 36 = .ok (.iadd, 1) := by decide +kernel
theorem dX10_fits_37 : decode cX10_fits 37 = .ok (.istore 4, 2) := by decide +kernel
theorem dX10_fits_39 : decode cX10_fits 39 = .ok (.iinc 5 1, 3) := by decide +kernel
theorem dX10_fits_42 : decode cX10_fits 42 = .ok (.goto (-34), 3) := by decide +kernel
theorem dX10_fits_45 : decode cX10_fits 45 = .ok (.iload_n 3, 1) := by decide +kernel
theorem dX10_fits_46 : decode cX10_fits 46 = .ok (.aload_n 0, 1) := by decide +kernel
theorem dX10_fits_47 : decode cX10_fits 47 = .ok (.getfield 385, 3) := by decide +kernel
theorem dX10_fits_50 : decode cX10_fits 50 = .ok (.invokestatic 404, 3) := by decide +kernel
theorem dX10_fits_53 : decode cX10_fits 53 = .ok (.istore 5, 2) := by decide +kernel
theorem dX10_fits_55 : decode cX10_fits 55 = .ok (.iload 4, 2) := by decide +kernel
theorem dX10_fits_57 : decode cX10_fits 57 = .ok (.aload_n 0, 1) := by decide +kernel
theorem dX10_fits_58 : decode cX10_fits 58 = .ok (.getfield 385, 3) := by decide +kernel
theorem dX10_fits_61 : decode cX10_fits 61 = .ok (.invokestatic 404, 3) := by decide +kernel
theorem dX10_fits_64 : decode cX10_fits 64 = .ok (.istore 6, 2) := by decide +kernel
theorem dX10_fits_66 : decode cX10_fits 66 = .ok (.aload_n 0, 1) := by decide +kernel
theorem dX10_fits_67 : decode cX10_fits 67 = .ok (.iconst (-1), 1) := by decide +kernel
theorem dX10_fits_68 : decode cX10_fits 68 = .ok (.putfield 407, 3) := by decide +kernel
theorem dX10_fits_71 : decode cX10_fits 71 = .ok (.aload_n 0, 1) := by decide +kernel
theorem dX10_fits_72 : decode cX10_fits 72 = .ok (.getfield 76, 3) := by decide +kernel
theorem dX10_fits_75 : decode cX10_fits 75 = .ok (.ineg, 1) := by decide +kernel
theorem dX10_fits_76 : decode cX10_fits 76 = .ok (.istore 7, 2) := by decide +kernel
theorem dX10_fits_78 : decode cX10_fits 78 = .ok (.iload 7, 2) := by decide +kernel
theorem dX10_fits_80 : decode cX10_fits 80 = .ok (.aload_n 0, 1) := by decide +kernel
theorem dX10_fits_81 : decode cX10_fits 81 = .ok (.getfield 76, 3) := by decide +kernel
theorem dX10_fits_84 : decode cX10_fits 84 = .ok (.if_icmp .gt 57, 3) := by decide +kernel
theorem dX10_fits_87 : decode cX10_fits 87 = .ok (.aload_n 0, 1) := by decide +kernel
theorem dX10_fits_88 : decode cX10_fits 88 = .ok (.getfield 76, 3) := by decide +kernel
theorem dX10_fits_91 : decode cX10_fits 91 = .ok (.ineg, 1) := by decide +kernel
theorem dX10_fits_92 : decode cX10_fits 92 = .ok (.istore 8, 2) := by decide +kernel
theorem dX10_fits_94 : decode cX10_fits 94 = .ok (.iload 8, 2) := by decide +kernel
theorem dX10_fits_96 : decode cX10_fits 96 = .ok (.aload_n 0, 1) := by decide +kernel
theorem dX10_fits_97 : decode cX10_fits 97 = .ok (.getfield 76, 3) := by decide +kernel
theorem dX10_fits_100 : decode cX10_fits 100 = .ok (.if_icmp .gt 35, 3) := by decide +kernel
theorem dX10_fits_103 : decode cX10_fits 103 = .ok (.aload_n 0, 1) := by decide +kernel
theorem dX10_fits_104 : decode cX10_fits 104 = .ok (.iload 5, 2) := by decide +kernel
theorem dX10_fits_106 : decode cX10_fits 106 = .ok (.iload 7, 2) := by decide +kernel
theorem dX10_fits_108 : decode cX10_fits 108 = .ok (.aload_n 0, 1) := by decide +kernel
theorem dX10_fits_109 : decode cX10_fits 109 = .ok (.getfield 80, 3) := by decide +kernel
theorem dX10_fits_112 : decode cX10_fits 112 = .ok (.imul, 1) := by decide +kernel
theorem dX10_fits_113 : decode cX10_fits 113 = .ok (.iadd, 1) := by decide +kernel
theorem dX10_fits_114 : decode cX10_fits 114 = .ok (.iload 6, 2) := by decide +kernel
theorem dX10_fits_116 : decode cX10_fits 116 = .ok (.iload 8, 2) := by decide +kernel
theorem dX10_fits_118 : decode cX10_fits 118 = .ok (.aload_n 0, 1) := by decide +kernel
theorem dX10_fits_119 : decode cX10_fits 119 = .ok (.getfield 80, 3) := by decide +kernel
theorem dX10_fits_122 : decode cX10_fits 122 = .ok (.imul, 1) := by decide +kernel
theorem dX10_fits_123 : decode cX10_fits 123 = .ok (.iadd, 1) := by decide +kernel
theorem dX10_fits_124 : decode cX10_fits 124 = .ok (.iload_n 1, 1) := by decide +kernel
theorem dX10_fits_125 : decode cX10_fits 125 = .ok (.iload_n 2, 1) := by decide +kernel
theorem dX10_fits_126 : decode cX10_fits 126 = .ok (.invokevirtual 410, 3) := by decide +kernel
theorem dX10_fits_129 : decode cX10_fits 129 = .ok (.iinc 8 1, 3) := by decide +kernel
theorem dX10_fits_132 : decode cX10_fits 132 = .ok (.goto (-38), 3) := by decide +kernel
theorem dX10_fits_135 : decode cX10_fits 135 = .ok (.iinc 7 1, 3) := by decide +kernel
theorem dX10_fits_138 : decode cX10_fits 138 = .ok (.goto (-60), 3) := by decide +kernel
theorem dX10_fits_141 : decode cX10_fits 141 = .ok (.return_, 1) := by decide +kernel
theorem dX10_tries_0 : decode cX10_tries 0 = .ok (.iconst 0, 1) := by decide +kernel
theorem dX10_tries_1 : decode cX10_tries 1 = .ok (.istore 5, 2) := by decide +kernel
theorem dX10_tries_3 : decode cX10_tries 3 = .ok (.iconst 0, 1) := by decide +kernel
theorem dX10_tries_4 : decode cX10_tries 4 = .ok (.istore 6, 2) := by decide +kernel
theorem dX10_tries_6 : decode cX10_tries 6 = .ok (.iload 6, 2) := by decide +kernel
theorem dX10_tries_8 : decode cX10_tries 8 = .ok (.aload_n 0, 1) := by decide +kernel
theorem dX10_tries_9 : decode cX10_tries 9 = .ok (.getfield 385, 3) := by decide +kernel
theorem dX10_tries_12 : decode cX10_tries 12 = .ok (.if_icmp .ge 39, 3) := by decide +kernel
theorem dX10_tries_15 : decode cX10_tries 15 = .ok (.aload_n 0, 1) := by decide +kernel
theorem dX10_tries_16 : decode cX10_tries 16 = .ok (.getfield 122, 3) := by decide +kernel
theorem dX10_tries_19 : decode cX10_tries 19 = .ok (.iload 6, 2) := by decide +kernel
theorem dX10_tries_21 : decode cX10_tries 21 = .ok (.aload_n 0, 1) := by decide +kernel
theorem dX10_tries_22 : decode cX10_tries 22 = .ok (.iload 6, 2) := by decide +kernel
theorem dX10_tries_24 : decode cX10_tries 24 = .ok (.iload_n 1, 1) := by decide +kernel
theorem dX10_tries_25 : decode cX10_tries 25 = .ok (.iload_n 2, 1) := by decide +kernel
theorem dX10_tries_26 : decode cX10_tries 26 = .ok (.iload_n 3, 1) := by decide +kernel
theorem dX10_tries_27 : decode cX10_tries 27 = .ok (.iload 4, 2) := by decide +kernel
theorem dX10_tries_29 : decode cX10_tries 29 = .ok (.invokevirtual 414, 3) := by decide +kernel
theorem dX10_tries_32 : decode cX10_tries 32 = .ok (.iastore, 1) := by decide +kernel
theorem dX10_tries_33 : decode cX10_tries 33 = .ok (.iload 5, 2) := by decide +kernel
theorem dX10_tries_35 : decode cX10_tries 35 = .ok (.aload_n 0, 1) := by decide +kernel
theorem dX10_tries_36 : decode cX10_tries 36 = .ok (.getfield 122, 3) := by decide +kernel
theorem dX10_tries_39 : decode cX10_tries 39 = .ok (.iload 6, 2) := by decide +kernel
theorem dX10_tries_41 : decode cX10_tries 41 = .ok (.iaload, 1) := by decide +kernel
theorem dX10_tries_42 : decode cX10_tries 42 = .ok (.iadd, 1) := by decide +kernel
theorem dX10_tries_43 : decode cX10_tries 43 = .ok (.istore 5, 2) := by decide +kernel
theorem dX10_tries_45 : decode cX10_tries 45 = .ok (.iinc 6 1, 3) := by decide +kernel
theorem dX10_tries_48 : decode cX10_tries 48 = .ok (.goto (-42), 3) := by decide +kernel
theorem dX10_tries_51 : decode cX10_tries 51 = .ok (.iload 5, 2) := by decide +kernel
theorem dX10_tries_53 : decode cX10_tries 53 = .ok (.aload_n 0, 1) := by decide +kernel
theorem dX10_tries_54 : decode cX10_tries 54 = .ok (.getfield 385, 3) := by decide +kernel
theorem dX10_tries_57 : decode cX10_tries 57 = .ok (.idiv, 1) := by decide +kernel
theorem dX10_tries_58 : decode cX10_tries 58 = .ok (.istore 6, 2) := by decide +kernel
theorem dX10_tries_60 : decode cX10_tries 60 = .ok (.iconst 0, 1) := by decide +kernel
theorem dX10_tries_61 : decode cX10_tries 61 = .ok (.istore 7, 2) := by decide +kernel
theorem dX10_tries_63 : decode cX10_tries 63 = .ok (.iconst 0, 1) := by decide +kernel
theorem dX10_tries_64 : decode cX10_tries 64 = .ok (.istore 8, 2) := by decide +kernel
theorem dX10_tries_66 : decode cX10_tries 66 = .ok (.iload 8, 2) := by decide +kernel
theorem dX10_tries_68 : decode cX10_tries 68 = .ok (.aload_n 0, 1) := by decide +kernel
theorem dX10_tries_69 : decode cX10_tries 69 = .ok (.getfield 385, 3) := by decide +kernel
theorem dX10_tries_72 : decode cX10_tries 72 = .ok (.if_icmp .ge 27, 3) := by decide +kernel
theorem dX10_tries_75 : decode cX10_tries 75 = .ok (.iload 7, 2) := by decide +kernel
theorem dX10_tries_77 : decode cX10_tries 77 = .ok (.aload_n 0, 1) := by decide +kernel
theorem dX10_tries_78 : decode cX10_tries 78 = .ok (.getfield 122, 3) := by decide +kernel
theorem dX10_tries_81 : decode cX10_tries 81 = .ok (.iload 8, 2) := by decide +kernel
theorem dX10_tries_83 : decode cX10_tries 83 = .ok (.iaload, 1) := by decide +kernel
theorem dX10_tries_84 : decode cX10_tries 84 = .ok (.iload 6, 2) := by decide +kernel
theorem dX10_tries_86 : decode cX10_tries 86 = .ok (.isub, 1) := by decide +kernel
theorem dX10_tries_87 : decode cX10_tries 87 = .ok (.invokestatic 418, 3) := by decide +kernel
theorem dX10_tries_90 : decode cX10_tries 90 = .ok (.iadd, 1) := by decide +kernel
theorem dX10_tries_91 : decode cX10_tries 91 = .ok (.istore 7, 2) := by decide +kernel
theorem dX10_tries_93 : decode cX10_tries 93 = .ok (.iinc 8 1, 3) := by decide +kernel
theorem dX10_tries_96 : decode cX10_tries 96 = .ok (.goto (-30), 3) := by decide +kernel
theorem dX10_tries_99 : decode cX10_tries 99 = .ok (.aload_n 0, 1) := by decide +kernel
theorem dX10_tries_100 : decode cX10_tries 100 = .ok (.getfield 407, 3) := by decide +kernel
theorem dX10_tries_103 : decode cX10_tries 103 = .ok (.iconst (-1), 1) := by decide +kernel
theorem dX10_tries_104 : decode cX10_tries 104 = .ok (.if_icmp .eq 13, 3) := by decide +kernel
theorem dX10_tries_107 : decode cX10_tries 107 = .ok (.iload 7, 2) := by decide +kernel
theorem dX10_tries_109 : decode cX10_tries 109 = .ok (.aload_n 0, 1) := by decide +kernel
theorem dX10_tries_110 : decode cX10_tries 110 = .ok (.getfield 407, 3) := by decide +kernel
theorem dX10_tries_113 : decode cX10_tries 113 = .ok (.if_icmp .lt 4, 3) := by decide +kernel
theorem dX10_tries_116 : decode cX10_tries 116 = .ok (.return_, 1) := by decide +kernel
theorem dX10_tries_117 : decode cX10_tries 117 = .ok (.aload_n 0, 1) := by decide +kernel
theorem dX10_tries_118 : decode cX10_tries 118 = .ok (.iload 7, 2) := by decide +kernel
theorem dX10_tries_120 : decode cX10_tries 120 = .ok (.putfield 407, 3) := by decide +kernel
theorem dX10_tries_123 : decode cX10_tries 123 = .ok (.aload_n 0, 1) := by decide +kernel
theorem dX10_tries_124 : decode cX10_tries 124 = .ok (.iload 6, 2) := by decide +kernel
theorem dX10_tries_126 : decode cX10_tries 126 = .ok (.putfield 421, 3) := by decide +kernel
theorem dX10_tries_129 : decode cX10_tries 129 = .ok (.aload_n 0, 1) := by decide +kernel
theorem dX10_tries_130 : decode cX10_tries 130 = .ok (.iload_n 1, 1) := by decide +kernel
theorem dX10_tries_131 : decode cX10_tries 131 = .ok (.putfield 424, 3) := by decide +kernel
theorem dX10_tries_134 : decode cX10_tries 134 = .ok (.aload_n 0, 1) := by decide +kernel
theorem dX10_tries_135 : decode cX10_tries 135 = .ok (.iload_n 2, 1) := by decide +kernel
theorem dX10_tries_136 : decode cX10_tries 136 = .ok (.putfield 427, 3) := by decide +kernel
theorem dX10_tries_139 : decode cX10_tries 139 = .ok (.return_, 1) := by decide +kernel
theorem dX10_fit_0 : decode cX10_fit 0 = .ok (.aload_n 0, 1) := by decide +kernel
theorem dX10_fit_1 : decode cX10_fit 1 = .ok (.iconst 0, 1) := by decide +kernel
theorem dX10_fit_2 : decode cX10_fit 2 = .ok (.putfield 153, 3) := by decide +kernel
theorem dX10_fit_5 : decode cX10_fit 5 = .ok (.iload_n 1, 1) := by decide +kernel
theorem dX10_fit_6 : decode cX10_fit 6 = .ok (.ifCond .lt 48, 3) := by decide +kernel
theorem dX10_fit_9 : decode cX10_fit 9 = .ok (.iload_n 1, 1) := by decide +kernel
theorem dX10_fit_10 : decode cX10_fit 10 = .ok (.aload_n 0, 1) := by decide +kernel
theorem dX10_fit_11 : decode cX10_fit 11 = .ok (.getfield 340, 3) := by decide +kernel
theorem dX10_fit_14 : decode cX10_fit 14 = .ok (.if_icmp .ge 40, 3) := by decide +kernel
theorem dX10_fit_17 : decode cX10_fit 17 = .ok (.iload_n 2, 1) := by decide +kernel
theorem dX10_fit_18 : decode cX10_fit 18 = .ok (.ifCond .lt 36, 3) := by decide +kernel
theorem dX10_fit_21 : decode cX10_fit 21 = .ok (.iload_n 2, 1) := by decide +kernel
theorem dX10_fit_22 : decode cX10_fit 22 = .ok (.iconst 2, 1) := by decide +kernel
theorem dX10_fit_23 : decode cX10_fit 23 = .ok (.if_icmp .gt 31, 3) := by decide +kernel
theorem dX10_fit_26 : decode cX10_fit 26 = .ok (.iload_n 3, 1) := by decide +kernel
theorem dX10_fit_27 : decode cX10_fit 27 = .ok (.ifCond .lt 27, 3) := by decide +kernel
theorem dX10_fit_30 : decode cX10_fit 30 = .ok (.iload_n 3, 1) := by decide +kernel
theorem dX10_fit_31 : decode cX10_fit 31 = .ok (.iconst 3, 1) := by decide +kernel
theorem dX10_fit_32 : decode cX10_fit 32 = .ok (.if_icmp .gt 22, 3) := by decide +kernel
theorem dX10_fit_35 : decode cX10_fit 35 = .ok (.iload_n 2, 1) := by decide +kernel
theorem dX10_fit_36 : decode cX10_fit 36 = .ok (.ifCond .ne 7, 3) := by decide +kernel
theorem dX10_fit_39 : decode cX10_fit 39 = .ok (.iload_n 3, 1) := by decide +kernel
theorem dX10_fit_40 : decode cX10_fit 40 = .ok (.ifCond .ne 14, 3) := by decide +kernel
theorem dX10_fit_43 : decode cX10_fit 43 = .ok (.iload 4, 2) := by decide +kernel
theorem dX10_fit_45 : decode cX10_fit 45 = .ok (.ifCond .lt 9, 3) := by decide +kernel
theorem dX10_fit_48 : decode cX10_fit 48 = .ok (.iload 4, 2) := by decide +kernel
theorem dX10_fit_50 : decode cX10_fit 50 = .ok (.iconst 3, 1) := by decide +kernel
theorem dX10_fit_51 : decode cX10_fit 51 = .ok (.if_icmp .le 7, 3) := by decide +kernel
theorem dX10_fit_54 : decode cX10_fit 54 = .ok (.ldc_w 430, 3) := by decide +kernel
theorem dX10_fit_57 : decode cX10_fit 57 = .ok (.ireturn, 1) := by decide +kernel
theorem dX10_fit_58 : decode cX10_fit 58 = .ok (.aload_n 0, 1) := by decide +kernel
theorem dX10_fit_59 : decode cX10_fit 59 = .ok (.aload_n 0, 1) := by decide +kernel
theorem dX10_fit_60 : decode cX10_fit 60 = .ok (.invokevirtual 379, 3) := by decide +kernel
theorem dX10_fit_63 : decode cX10_fit 63 = .ok (.invokevirtual 382, 3) := by decide +kernel
theorem dX10_fit_66 : decode cX10_fit 66 = .ok (.aload_n 0, 1) := by decide +kernel
theorem dX10_fit_67 : decode cX10_fit 67 = .ok (.iload_n 1, 1) := by decide +kernel
theorem dX10_fit_68 : decode cX10_fit 68 = .ok (.invokevirtual 388, 3) := by decide +kernel
theorem dX10_fit_71 : decode cX10_fit 71 = .ok (.aload_n 0, 1) := by decide +kernel
theorem dX10_fit_72 : decode cX10_fit 72 = .ok (.getfield 385, 3) := by decide +kernel
theorem dX10_fit_75 : decode cX10_fit 75 = .ok (.iconst 3, 1) := by decide +kernel
theorem dX10_fit_76 : decode cX10_fit 76 = .ok (.if_icmp .ge 7, 3) := by decide +kernel
theorem dX10_fit_79 : decode cX10_fit 79 = .ok (.ldc_w 430, 3) := by decide +kernel
theorem dX10_fit_82 : decode cX10_fit 82 = .ok (.ireturn, 1) := by decide +kernel
theorem dX10_fit_83 : decode cX10_fit 83 = .ok (.aload_n 0, 1) := by decide +kernel
theorem dX10_fit_84 : decode cX10_fit 84 = .ok (.iload_n 2, 1) := by decide +kernel
theorem dX10_fit_85 : decode cX10_fit 85 = .ok (.iload_n 3, 1) := by decide +kernel
theorem dX10_fit_86 : decode cX10_fit 86 = .ok (.invokevirtual 431, 3) := by decide +kernel
theorem dX10_fit_89 : decode cX10_fit 89 = .ok (.iload 4, 2) := by decide +kernel
theorem dX10_fit_91 : decode cX10_fit 91 = .ok (.ifCond .ne 12, 3) := by decide +kernel
theorem dX10_fit_94 : decode cX10_fit 94 = .ok (.iconst 2, 1) := by decide +kernel
theorem dX10_fit_95 : decode cX10_fit 95 = .ok (.aload_n 0, 1) := by decide +kernel
theorem dX10_fit_96 : decode cX10_fit 96 = .ok (.getfield 421, 3) := by decide +kernel
theorem dX10_fit_99 : decode cX10_fit 99 = .ok (.imul, 1) := by decide +kernel
theorem dX10_fit_100 : decode cX10_fit 100 = .ok (.goto 33, 3) := by decide +kernel
theorem dX10_fit_103 : decode cX10_fit 103 = .ok (.iload 4, 2) := by decide +kernel
theorem dX10_fit_105 : decode cX10_fit 105 = .ok (.iconst 1, 1) := by decide +kernel
theorem dX10_fit_106 : decode cX10_fit 106 = .ok (.if_icmp .ne 10, 3) := by decide +kernel
theorem dX10_fit_109 : decode cX10_fit 109 = .ok (.aload_n 0, 1) := by decide +kernel
theorem dX10_fit_110 : decode cX10_fit 110 = .ok (.getfield 407, 3) := by decide +kernel
theorem dX10_fit_113 : decode cX10_fit 113 = .ok (.goto 20, 3) := by decide +kernel
theorem dX10_fit_116 : decode cX10_fit 116 = .ok (.iload 4, 2) := by decide +kernel
theorem dX10_fit_118 : decode cX10_fit 118 = .ok (.iconst 2, 1) := by decide +kernel
theorem dX10_fit_119 : decode cX10_fit 119 = .ok (.if_icmp .ne 10, 3) := by decide +kernel
theorem dX10_fit_122 : decode cX10_fit 122 = .ok (.aload_n 0, 1) := by decide +kernel
theorem dX10_fit_123 : decode cX10_fit 123 = .ok (.getfield 424, 3) := by decide +kernel
theorem dX10_fit_126 : decode cX10_fit 126 = .ok (.goto 7, 3) := by decide +kernel
theorem dX10_fit_129 : decode cX10_fit 129 = .ok (.aload_n 0, 1) := by decide +kernel
theorem dX10_fit_130 : decode cX10_fit 130 = .ok (.getfield 427, 3) := by decide +kernel
theorem dX10_fit_133 : decode cX10_fit 133 = .ok (.ireturn, 1) := by decide +kernel
theorem dX10_shapes_0 : decode cX10_shapes 0 = .ok (.aload_n 0, 1) := by decide +kernel
theorem dX10_shapes_1 : decode cX10_shapes 1 = .ok (.iload_n 1, 1) := by decide +kernel
theorem dX10_shapes_2 : decode cX10_shapes 2 = .ok (.invokevirtual 382, 3) := by decide +kernel
theorem dX10_shapes_5 : decode cX10_shapes 5 = .ok (.iconst 0, 1) := by decide +kernel
theorem dX10_shapes_6 : decode cX10_shapes 6 = .ok (.istore_n 2, 1) := by decide +kernel
theorem dX10_shapes_7 : decode cX10_shapes 7 = .ok (.iload_n 2, 1) := by decide +kernel
theorem dX10_shapes_8 : decode cX10_shapes 8 = .ok (.aload_n 0, 1) := by decide +kernel
theorem dX10_shapes_9 : decode cX10_shapes 9 = .ok (.getfield 340, 3) := by decide +kernel
theorem dX10_shapes_12 : decode cX10_shapes 12 = .ok (.if_icmp .ge 147, 3) := by decide +kernel
theorem dX10_shapes_15 : decode cX10_shapes 15 = .ok (.aload_n 0, 1) := by decide +kernel
theorem dX10_shapes_16 : decode cX10_shapes 16 = .ok (.iload_n 2, 1) := by decide +kernel
theorem dX10_shapes_17 : decode cX10_shapes 17 = .ok (.invokevirtual 388, 3) := by decide +kernel
theorem dX10_shapes_20 : decode cX10_shapes 20 = .ok (.aload_n 0, 1) := by decide +kernel
theorem dX10_shapes_21 : decode cX10_shapes 21 = .ok (.getfield 134, 3) := by decide +kernel
theorem dX10_shapes_24 : decode cX10_shapes 24 = .ok (.iload_n 2, 1) := by decide +kernel
theorem dX10_shapes_25 : decode cX10_shapes 25 = .ok (.aload_n 0, 1) := by decide +kernel
theorem dX10_shapes_26 : decode cX10_shapes 26 = .ok (.getfield 385, 3) := by decide +kernel
theorem dX10_shapes_29 : decode cX10_shapes 29 = .ok (.iastore, 1) := by decide +kernel
theorem dX10_shapes_30 : decode cX10_shapes 30 = .ok (.aload_n 0, 1) := by decide +kernel
theorem dX10_shapes_31 : decode cX10_shapes 31 = .ok (.getfield 131, 3) := by decide +kernel
theorem dX10_shapes_34 : decode cX10_shapes 34 = .ok (.iload_n 2, 1) := by decide +kernel
theorem dX10_shapes_35 : decode cX10_shapes 35 = .ok (.iconst (-1), 1) := by decide +kernel
theorem dX10_shapes_36 : decode cX10_shapes 36 = .ok (.iastore, 1) := by decide +kernel
theorem dX10_shapes_37 : decode cX10_shapes 37 = .ok (.iconst 0, 1) := by decide +kernel
theorem dX10_shapes_38 : decode cX10_shapes 38 = .ok (.istore_n 3, 1) := by decide +kernel
theorem dX10_shapes_39 : decode cX10_shapes 39 = .ok (.iload_n 3, 1) := by decide +kernel
theorem dX10_shapes_40 : decode cX10_shapes 40 = .ok (.bipush 12, 2) := by decide +kernel
theorem dX10_shapes_42 : decode cX10_shapes 42 = .ok (.if_icmp .ge 111, 3) := by decide +kernel
theorem dX10_shapes_45 : decode cX10_shapes 45 = .ok (.aload_n 0, 1) := by decide +kernel
theorem dX10_shapes_46 : decode cX10_shapes 46 = .ok (.getfield 385, 3) := by decide +kernel
theorem dX10_shapes_49 : decode cX10_shapes 49 = .ok (.iconst 2, 1) := by decide +kernel
theorem dX10_shapes_50 : decode cX10_shapes 50 = .ok (.if_icmp .le 103, 3) := by decide +kernel
theorem dX10_shapes_53 : decode cX10_shapes 53 = .ok (.iload_n 3, 1) := by decide +kernel
theorem dX10_shapes_54 : decode cX10_shapes 54 = .ok (.ifCond .le 11, 3) := by decide +kernel
theorem dX10_shapes_57 : decode cX10_shapes 57 = .ok (.iload_n 3, 1) := by decide +kernel
theorem dX10_shapes_58 : decode cX10_shapes 58 = .ok (.iconst 4, 1) := by decide +kernel
theorem dX10_shapes_59 : decode cX10_shapes 59 = .ok (.if_icmp .ge 6, 3) := by decide +kernel
theorem dX10_shapes_62 : decode cX10_shapes 62 = .ok (.goto 85, 3) := by decide +kernel
theorem dX10_shapes_65 : decode cX10_shapes 65 = .ok (.aload_n 0, 1) := by decide +kernel
theorem dX10_shapes_66 : decode cX10_shapes 66 = .ok (.iload_n 3, 1) := by decide +kernel
theorem dX10_shapes_67 : decode cX10_shapes 67 = .ok (.iconst 4, 1) := by decide +kernel
theorem dX10_shapes_68 : decode cX10_shapes 68 = .ok (.idiv, 1) := by decide +kernel
theorem dX10_shapes_69 : decode cX10_shapes 69 = .ok (.iload_n 3, 1) := by decide +kernel
theorem dX10_shapes_70 : decode cX10_shapes 70 = .ok (.iconst 4, 1) := by decide +kernel
theorem dX10_shapes_71 : decode cX10_shapes 71 = .ok (.irem, 1) := by decide +kernel
theorem dX10_shapes_72 : decode cX10_shapes 72 = .ok (.invokevirtual 431, 3) := by decide +kernel
theorem dX10_shapes_75 : decode cX10_shapes 75 = .ok (.aload_n 0, 1) := by decide +kernel
theorem dX10_shapes_76 : decode cX10_shapes 76 = .ok (.getfield 125, 3) := by decide +kernel
theorem dX10_shapes_79 : decode cX10_shapes 79 = .ok (.bipush 12, 2) := by decide +kernel
theorem dX10_shapes_81 : decode cX10_shapes 81 = .ok (.iload_n 2, 1) := by decide +kernel
theorem dX10_shapes_82 : decode cX10_shapes 82 = .ok (.imul, 1) := by decide +kernel
theorem dX10_shapes_83 : decode cX10_shapes 83 = .ok (.iload_n 3, 1) := by decide +kernel
theorem dX10_shapes_84 : decode cX10_shapes 84 = .ok (.iadd, 1) := by decide +kernel
theorem dX10_shapes_85 : decode cX10_shapes 85 = .ok (.iconst 2, 1) := by decide +kernel
theorem dX10_shapes_86 : decode cX10_shapes 86 = .ok (.aload_n 0, 1) := by decide +kernel
theorem dX10_shapes_87 : decode cX10_shapes 87 = .ok (.getfield 421, 3) := by decide +kernel
theorem dX10_shapes_90 : decode cX10_shapes 90 = .ok (.imul, 1) := by decide +kernel
theorem dX10_shapes_91 : decode cX10_shapes 91 = .ok (.iastore, 1) := by decide +kernel
theorem dX10_shapes_92 : decode cX10_shapes 92 = .ok (.aload_n 0, 1) := by decide +kernel
theorem dX10_shapes_93 : decode cX10_shapes 93 = .ok (.getfield 128, 3) := by decide +kernel
theorem dX10_shapes_96 : decode cX10_shapes 96 = .ok (.bipush 12, 2) := by decide +kernel
theorem dX10_shapes_98 : decode cX10_shapes 98 = .ok (.iload_n 2, 1) := by decide +kernel
theorem dX10_shapes_99 : decode cX10_shapes 99 = .ok (.imul, 1) := by decide +kernel
theorem dX10_shapes_100 : decode cX10_shapes 100 = .ok (.iload_n 3, 1) := by decide +kernel
theorem dX10_shapes_101 : decode cX10_shapes 101 = .ok (.iadd, 1) := by decide +kernel
theorem dX10_shapes_102 : decode cX10_shapes 102 = .ok (.aload_n 0, 1) := by decide +kernel
theorem dX10_shapes_103 : decode cX10_shapes 103 = .ok (.getfield 407, 3) := by decide +kernel
theorem dX10_shapes_106 : decode cX10_shapes 106 = .ok (.iastore, 1) := by decide +kernel
theorem dX10_shapes_107 : decode cX10_shapes 107 = .ok (.aload_n 0, 1) := by decide +kernel
theorem dX10_shapes_108 : decode cX10_shapes 108 = .ok (.getfield 131, 3) := by decide +kernel
theorem dX10_shapes_111 : decode cX10_shapes 111 = .ok (.iload_n 2, 1) := by decide +kernel
theorem dX10_shapes_112 : decode cX10_shapes 112 = .ok (.iaload, 1) := by decide +kernel
theorem dX10_shapes_113 : decode cX10_shapes 113 = .ok (.iconst (-1), 1) := by decide +kernel
theorem dX10_shapes_114 : decode cX10_shapes 114 = .ok (.if_icmp .eq 26, 3) := by decide +kernel
theorem dX10_shapes_117 : decode cX10_shapes 117 = .ok (.aload_n 0, 1) := by decide +kernel
theorem dX10_shapes_118 : decode cX10_shapes 118 = .ok (.getfield 407, 3) := by decide +kernel
theorem dX10_shapes_121 : decode cX10_shapes 121 = .ok (.aload_n 0, 1) := by decide +kernel
theorem dX10_shapes_122 : decode cX10_shapes 122 = .ok (.getfield 128, 3) := by decide +kernel
theorem dX10_shapes_125 : decode cX10_shapes 125 = .ok (.bipush 12, 2) := by decide +kernel
theorem dX10_shapes_127 : decode cX10_shapes 127 = .ok (.iload_n 2, 1) := by decide +kernel
theorem dX10_shapes_128 : decode cX10_shapes 128 = .ok (.imul, 1) := by decide +kernel
theorem dX10_shapes_129 : decode cX10_shapes 129 = .ok (.aload_n 0, 1) := by decide +kernel
theorem dX10_shapes_130 : decode cX10_shapes 130 = .ok (.getfield 131, 3) := by decide +kernel
theorem dX10_shapes_133 : decode cX10_shapes 133 = .ok (.iload_n 2, 1) := by decide +kernel
theorem dX10_shapes_134 : decode cX10_shapes 134 = .ok (.iaload, 1) := by decide +kernel
theorem dX10_shapes_135 : decode cX10_shapes 135 = .ok (.iadd, 1) := by decide +kernel
theorem dX10_shapes_136 : decode cX10_shapes 136 = .ok (.iaload, 1) := by decide +kernel
theorem dX10_shapes_137 : decode cX10_shapes 137 = .ok (.if_icmp .ge 10, 3) := by decide +kernel
theorem dX10_shapes_140 : decode cX10_shapes 140 = .ok (.aload_n 0, 1) := by decide +kernel
theorem dX10_shapes_141 : decode cX10_shapes 141 = .ok (.getfield 131, 3) := by decide +kernel
theorem dX10_shapes_144 : decode cX10_shapes 144 = .ok (.iload_n 2, 1) := by decide +kernel
theorem dX10_shapes_145 : decode cX10_shapes 145 = .ok (.iload_n 3, 1) := by decide +kernel
theorem dX10_shapes_146 : decode cX10_shapes 146 = .ok (.iastore, 1) := by decide +kernel
theorem dX10_shapes_147 : decode cX10_shapes 147 = .ok (.iinc 3 1, 3) := by decide +kernel
theorem dX10_shapes_150 : decode cX10_shapes 150 = .ok (.goto (-111), 3) := by decide +kernel
theorem dX10_shapes_153 : decode cX10_shapes 153 = .ok (.iinc 2 1, 3) := by decide +kernel
theorem dX10_shapes_156 : decode cX10_shapes 156 = .ok (.goto (-149), 3) := by decide +kernel
theorem dX10_shapes_159 : decode cX10_shapes 159 = .ok (.return_, 1) := by decide +kernel
theorem dX10_laid_0 : decode cX10_laid 0 = .ok (.aload_n 0, 1) := by decide +kernel
theorem dX10_laid_1 : decode cX10_laid 1 = .ok (.getfield 358, 3) := by decide +kernel
theorem dX10_laid_4 : decode cX10_laid 4 = .ok (.ifCond .eq 4, 3) := by decide +kernel
theorem dX10_laid_7 : decode cX10_laid 7 = .ok (.return_, 1) := by decide +kernel
theorem dX10_laid_8 : decode cX10_laid 8 = .ok (.aload_n 0, 1) := by decide +kernel
theorem dX10_laid_9 : decode cX10_laid 9 = .ok (.aload_n 0, 1) := by decide +kernel
theorem dX10_laid_10 : decode cX10_laid 10 = .ok (.invokevirtual 379, 3) := by decide +kernel
theorem dX10_laid_13 : decode cX10_laid 13 = .ok (.invokevirtual 434, 3) := by decide +kernel
theorem dX10_laid_16 : decode cX10_laid 16 = .ok (.aload_n 0, 1) := by decide +kernel
theorem dX10_laid_17 : decode cX10_laid 17 = .ok (.iconst 1, 1) := by decide +kernel
theorem dX10_laid_18 : decode cX10_laid 18 = .ok (.putfield 358, 3) := by decide +kernel
theorem dX10_laid_21 : decode cX10_laid 21 = .ok (.return_, 1) := by decide +kernel
theorem dX10_hasFit_0 : decode cX10_hasFit 0 = .ok (.aload_n 0, 1) := by decide +kernel
theorem dX10_hasFit_1 : decode cX10_hasFit 1 = .ok (.getfield 131, 3) := by decide +kernel
theorem dX10_hasFit_4 : decode cX10_hasFit 4 = .ok (.iload_n 1, 1) := by decide +kernel
theorem dX10_hasFit_5 : decode cX10_hasFit 5 = .ok (.iaload, 1) := by decide +kernel
theorem dX10_hasFit_6 : decode cX10_hasFit 6 = .ok (.iconst (-1), 1) := by decide +kernel
theorem dX10_hasFit_7 : decode cX10_hasFit 7 = .ok (.if_icmp .eq 7, 3) := by decide +kernel
theorem dX10_hasFit_10 : decode cX10_hasFit 10 = .ok (.iconst 1, 1) := by decide +kernel
theorem dX10_hasFit_11 : decode cX10_hasFit 11 = .ok (.goto 4, 3) := by decide +kernel
theorem dX10_hasFit_14 : decode cX10_hasFit 14 = .ok (.iconst 0, 1) := by decide +kernel
theorem dX10_hasFit_15 : decode cX10_hasFit 15 = .ok (.ireturn, 1) := by decide +kernel
theorem dX10_sizeOf_0 : decode cX10_sizeOf 0 = .ok (.aload_n 0, 1) := by decide +kernel
theorem dX10_sizeOf_1 : decode cX10_sizeOf 1 = .ok (.getfield 125, 3) := by decide +kernel
theorem dX10_sizeOf_4 : decode cX10_sizeOf 4 = .ok (.bipush 12, 2) := by decide +kernel
theorem dX10_sizeOf_6 : decode cX10_sizeOf 6 = .ok (.iload_n 1, 1) := by decide +kernel
theorem dX10_sizeOf_7 : decode cX10_sizeOf 7 = .ok (.imul, 1) := by decide +kernel
theorem dX10_sizeOf_8 : decode cX10_sizeOf 8 = .ok (.aload_n 0, 1) := by decide +kernel
theorem dX10_sizeOf_9 : decode cX10_sizeOf 9 = .ok (.getfield 131, 3) := by decide +kernel
theorem dX10_sizeOf_12 : decode cX10_sizeOf 12 = .ok (.iload_n 1, 1) := by decide +kernel
theorem dX10_sizeOf_13 : decode cX10_sizeOf 13 = .ok (.iaload, 1) := by decide +kernel
theorem dX10_sizeOf_14 : decode cX10_sizeOf 14 = .ok (.iadd, 1) := by decide +kernel
theorem dX10_sizeOf_15 : decode cX10_sizeOf 15 = .ok (.iaload, 1) := by decide +kernel
theorem dX10_sizeOf_16 : decode cX10_sizeOf 16 = .ok (.ireturn, 1) := by decide +kernel
theorem dX10_isRing_0 : decode cX10_isRing 0 = .ok (.iload_n 1, 1) := by decide +kernel
theorem dX10_isRing_1 : decode cX10_isRing 1 = .ok (.ifCond .lt 15, 3) := by decide +kernel
theorem dX10_isRing_4 : decode cX10_isRing 4 = .ok (.iload_n 1, 1) := by decide +kernel
theorem dX10_isRing_5 : decode cX10_isRing 5 = .ok (.aload_n 0, 1) := by decide +kernel
theorem dX10_isRing_6 : decode cX10_isRing 6 = .ok (.getfield 340, 3) := by decide +kernel
theorem dX10_isRing_9 : decode cX10_isRing 9 = .ok (.if_icmp .ge 7, 3) := by decide +kernel
theorem dX10_isRing_12 : decode cX10_isRing 12 = .ok (.iconst 1, 1) := by decide +kernel
theorem dX10_isRing_13 : decode cX10_isRing 13 = .ok (.goto 4, 3) := by decide +kernel
theorem dX10_isRing_16 : decode cX10_isRing 16 = .ok (.iconst 0, 1) := by decide +kernel
theorem dX10_isRing_17 : decode cX10_isRing 17 = .ok (.ireturn, 1) := by decide +kernel
theorem dX10_best_0 : decode cX10_best 0 = .ok (.aload_n 0, 1) := by decide +kernel
theorem dX10_best_1 : decode cX10_best 1 = .ok (.iconst 0, 1) := by decide +kernel
theorem dX10_best_2 : decode cX10_best 2 = .ok (.putfield 153, 3) := by decide +kernel
theorem dX10_best_5 : decode cX10_best 5 = .ok (.aload_n 0, 1) := by decide +kernel
theorem dX10_best_6 : decode cX10_best 6 = .ok (.iload_n 1, 1) := by decide +kernel
theorem dX10_best_7 : decode cX10_best 7 = .ok (.invokevirtual 437, 3) := by decide +kernel
theorem dX10_best_10 : decode cX10_best 10 = .ok (.ifCond .eq 12, 3) := by decide +kernel
theorem dX10_best_13 : decode cX10_best 13 = .ok (.iload_n 2, 1) := by decide +kernel
theorem dX10_best_14 : decode cX10_best 14 = .ok (.ifCond .lt 8, 3) := by decide +kernel
theorem dX10_best_17 : decode cX10_best 17 = .ok (.iload_n 2, 1) := by decide +kernel
theorem dX10_best_18 : decode cX10_best 18 = .ok (.iconst 3, 1) := by decide +kernel
theorem dX10_best_19 : decode cX10_best 19 = .ok (.if_icmp .le 5, 3) := by decide +kernel
theorem dX10_best_22 : decode cX10_best 22 = .ok (.iconst (-1), 1) := by decide +kernel
theorem dX10_best_23 : decode cX10_best 23 = .ok (.ireturn, 1) := by decide +kernel
theorem dX10_best_24 : decode cX10_best 24 = .ok (.aload_n 0, 1) := by decide +kernel
theorem dX10_best_25 : decode cX10_best 25 = .ok (.invokevirtual 440, 3) := by decide +kernel
theorem dX10_best_28 : decode cX10_best 28 = .ok (.aload_n 0, 1) := by decide +kernel
theorem dX10_best_29 : decode cX10_best 29 = .ok (.iload_n 1, 1) := by decide +kernel
theorem dX10_best_30 : decode cX10_best 30 = .ok (.invokevirtual 443, 3) := by decide +kernel
theorem dX10_best_33 : decode cX10_best 33 = .ok (.ifCond .ne 5, 3) := by decide +kernel
theorem dX10_best_36 : decode cX10_best 36 = .ok (.iconst (-1), 1) := by decide +kernel
theorem dX10_best_37 : decode cX10_best 37 = .ok (.ireturn, 1) := by decide +kernel
theorem dX10_best_38 : decode cX10_best 38 = .ok (.iload_n 2, 1) := by decide +kernel
theorem dX10_best_39 : decode cX10_best 39 = .ok (.ifCond .ne 14, 3) := by decide +kernel
theorem dX10_best_42 : decode cX10_best 42 = .ok (.aload_n 0, 1) := by decide +kernel
theorem dX10_best_43 : decode cX10_best 43 = .ok (.getfield 131, 3) := by decide +kernel
theorem dX10_best_46 : decode cX10_best 46 = .ok (.iload_n 1, 1) := by decide +kernel
theorem dX10_best_47 : decode cX10_best 47 = .ok (.iaload, 1) := by decide +kernel
theorem dX10_best_48 : decode cX10_best 48 = .ok (.iconst 4, 1) := by decide +kernel
theorem dX10_best_49 : decode cX10_best 49 = .ok (.idiv, 1) := by decide +kernel
theorem dX10_best_50 : decode cX10_best 50 = .ok (.goto 48, 3) := by decide +kernel
theorem dX10_best_53 : decode cX10_best 53 = .ok (.iload_n 2, 1) := by decide +kernel
theorem dX10_best_54 : decode cX10_best 54 = .ok (.iconst 1, 1) := by decide +kernel
theorem dX10_best_55 : decode cX10_best 55 = .ok (.if_icmp .ne 14, 3) := by decide +kernel
theorem dX10_best_58 : decode cX10_best 58 = .ok (.aload_n 0, 1) := by decide +kernel
theorem dX10_best_59 : decode cX10_best 59 = .ok (.getfield 131, 3) := by decide +kernel
theorem dX10_best_62 : decode cX10_best 62 = .ok (.iload_n 1, 1) := by decide +kernel
theorem dX10_best_63 : decode cX10_best 63 = .ok (.iaload, 1) := by decide +kernel
theorem dX10_best_64 : decode cX10_best 64 = .ok (.iconst 4, 1) := by decide +kernel
theorem dX10_best_65 : decode cX10_best 65 = .ok (.irem, 1) := by decide +kernel
theorem dX10_best_66 : decode cX10_best 66 = .ok (.goto 32, 3) := by decide +kernel
theorem dX10_best_69 : decode cX10_best 69 = .ok (.iload_n 2, 1) := by decide +kernel
theorem dX10_best_70 : decode cX10_best 70 = .ok (.iconst 2, 1) := by decide +kernel
theorem dX10_best_71 : decode cX10_best 71 = .ok (.if_icmp .ne 11, 3) := by decide +kernel
theorem dX10_best_74 : decode cX10_best 74 = .ok (.aload_n 0, 1) := by decide +kernel
theorem dX10_best_75 : decode cX10_best 75 = .ok (.iload_n 1, 1) := by decide +kernel
theorem dX10_best_76 : decode cX10_best 76 = .ok (.invokevirtual 446, 3) := by decide +kernel
theorem dX10_best_79 : decode cX10_best 79 = .ok (.goto 19, 3) := by decide +kernel
theorem dX10_best_82 : decode cX10_best 82 = .ok (.aload_n 0, 1) := by decide +kernel
theorem dX10_best_83 : decode cX10_best 83 = .ok (.getfield 128, 3) := by decide +kernel
theorem dX10_best_86 : decode cX10_best 86 = .ok (.bipush 12, 2) := by decide +kernel
theorem dX10_best_88 : decode cX10_best 88 = .ok (.iload_n 1, 1) := by decide +kernel
theorem dX10_best_89 : decode cX10_best 89 = .ok (.imul, 1) := by decide +kernel
theorem dX10_best_90 : decode cX10_best 90 = .ok (.aload_n 0, 1) := by decide +kernel
theorem dX10_best_91 : decode cX10_best 91 = .ok (.getfield 131, 3) := by decide +kernel
theorem dX10_best_94 : decode cX10_best 94 = .ok (.iload_n 1, 1) := by decide +kernel
theorem dX10_best_95 : decode cX10_best 95 = .ok (.iaload, 1) := by decide +kernel
theorem dX10_best_96 : decode cX10_best 96 = .ok (.iadd, 1) := by decide +kernel
theorem dX10_best_97 : decode cX10_best 97 = .ok (.iaload, 1) := by decide +kernel
theorem dX10_best_98 : decode cX10_best 98 = .ok (.ireturn, 1) := by decide +kernel
theorem dX10_isWell_0 : decode cX10_isWell 0 = .ok (.iload_n 2, 1) := by decide +kernel
theorem dX10_isWell_1 : decode cX10_isWell 1 = .ok (.ifCond .eq 8, 3) := by decide +kernel
theorem dX10_isWell_4 : decode cX10_isWell 4 = .ok (.iload_n 2, 1) := by decide +kernel
theorem dX10_isWell_5 : decode cX10_isWell 5 = .ok (.iconst 3, 1) := by decide +kernel
theorem dX10_isWell_6 : decode cX10_isWell 6 = .ok (.if_icmp .le 42, 3) := by decide +kernel
theorem dX10_isWell_9 : decode cX10_isWell 9 = .ok (.aload_n 0, 1) := by decide +kernel
theorem dX10_isWell_10 : decode cX10_isWell 10 = .ok (.getfield 128, 3) := by decide +kernel
theorem dX10_isWell_13 : decode cX10_isWell 13 = .ok (.bipush 12, 2) := by decide +kernel
theorem dX10_isWell_15 : decode cX10_isWell 15 = .ok (.iload_n 1, 1) := by decide +kernel
theorem dX10_isWell_16 : decode cX10_isWell 16 = .ok (.imul, 1) := by decide +kernel
theorem dX10_isWell_17 : decode cX10_isWell 17 = .ok (.iload_n 2, 1) := by decide +kernel
theorem dX10_isWell_18 : decode cX10_isWell 18 = .ok (.iadd, 1) := by decide +kernel
theorem dX10_isWell_19 : decode cX10_isWell 19 = .ok (.iaload, 1) := by decide +kernel
theorem dX10_isWell_20 : decode cX10_isWell 20 = .ok (.aload_n 0, 1) := by decide +kernel
theorem dX10_isWell_21 : decode cX10_isWell 21 = .ok (.getfield 128, 3) := by decide +kernel
theorem dX10_isWell_24 : decode cX10_isWell 24 = .ok (.bipush 12, 2) := by decide +kernel
theorem dX10_isWell_26 : decode cX10_isWell 26 = .ok (.iload_n 1, 1) := by decide +kernel
theorem dX10_isWell_27 : decode cX10_isWell 27 = .ok (.imul, 1) := by decide +kernel
theorem dX10_isWell_28 : decode cX10_isWell 28 = .ok (.aload_n 0, 1) := by decide +kernel
theorem dX10_isWell_29 : decode cX10_isWell 29 = .ok (.getfield 131, 3) := by decide +kernel
theorem dX10_isWell_32 : decode cX10_isWell 32 = .ok (.iload_n 1, 1) := by decide +kernel
theorem dX10_isWell_33 : decode cX10_isWell 33 = .ok (.iaload, 1) := by decide +kernel
theorem dX10_isWell_34 : decode cX10_isWell 34 = .ok (.iadd, 1) := by decide +kernel
theorem dX10_isWell_35 : decode cX10_isWell 35 = .ok (.iaload, 1) := by decide +kernel
theorem dX10_isWell_36 : decode cX10_isWell 36 = .ok (.aload_n 0, 1) := by decide +kernel
theorem dX10_isWell_37 : decode cX10_isWell 37 = .ok (.getfield 83, 3) := by decide +kernel
theorem dX10_isWell_40 : decode cX10_isWell 40 = .ok (.iadd, 1) := by decide +kernel
theorem dX10_isWell_41 : decode cX10_isWell 41 = .ok (.if_icmp .gt 7, 3) := by decide +kernel
theorem dX10_isWell_44 : decode cX10_isWell 44 = .ok (.iconst 1, 1) := by decide +kernel
theorem dX10_isWell_45 : decode cX10_isWell 45 = .ok (.goto 4, 3) := by decide +kernel
theorem dX10_isWell_48 : decode cX10_isWell 48 = .ok (.iconst 0, 1) := by decide +kernel
theorem dX10_isWell_49 : decode cX10_isWell 49 = .ok (.ireturn, 1) := by decide +kernel
theorem dX10_well_0 : decode cX10_well 0 = .ok (.aload_n 0, 1) := by decide +kernel
theorem dX10_well_1 : decode cX10_well 1 = .ok (.iconst 0, 1) := by decide +kernel
theorem dX10_well_2 : decode cX10_well 2 = .ok (.putfield 153, 3) := by decide +kernel
theorem dX10_well_5 : decode cX10_well 5 = .ok (.aload_n 0, 1) := by decide +kernel
theorem dX10_well_6 : decode cX10_well 6 = .ok (.iload_n 1, 1) := by decide +kernel
theorem dX10_well_7 : decode cX10_well 7 = .ok (.invokevirtual 437, 3) := by decide +kernel
theorem dX10_well_10 : decode cX10_well 10 = .ok (.ifCond .ne 5, 3) := by decide +kernel
theorem dX10_well_13 : decode cX10_well 13 = .ok (.iconst (-1), 1) := by decide +kernel
theorem dX10_well_14 : decode cX10_well 14 = .ok (.ireturn, 1) := by decide +kernel
theorem dX10_well_15 : decode cX10_well 15 = .ok (.aload_n 0, 1) := by decide +kernel
theorem dX10_well_16 : decode cX10_well 16 = .ok (.invokevirtual 440, 3) := by decide +kernel
theorem dX10_well_19 : decode cX10_well 19 = .ok (.aload_n 0, 1) := by decide +kernel
theorem dX10_well_20 : decode cX10_well 20 = .ok (.iload_n 1, 1) := by decide +kernel
theorem dX10_well_21 : decode cX10_well 21 = .ok (.invokevirtual 443, 3) := by decide +kernel
theorem dX10_well_24 : decode cX10_well 24 = .ok (.ifCond .ne 5, 3) := by decide +kernel
theorem dX10_well_27 : decode cX10_well 27 = .ok (.iconst (-1), 1) := by decide +kernel
theorem dX10_well_28 : decode cX10_well 28 = .ok (.ireturn, 1) := by decide +kernel
theorem dX10_well_29 : decode cX10_well 29 = .ok (.iconst 0, 1) := by decide +kernel
theorem dX10_well_30 : decode cX10_well 30 = .ok (.istore_n 2, 1) := by decide +kernel
theorem dX10_well_31 : decode cX10_well 31 = .ok (.iconst 0, 1) := by decide +kernel
theorem dX10_well_32 : decode cX10_well 32 = .ok (.istore_n 3, 1) := by decide +kernel
theorem dX10_well_33 : decode cX10_well 33 = .ok (.iload_n 3, 1) := by decide +kernel
theorem dX10_well_34 : decode cX10_well 34 = .ok (.bipush 12, 2) := by decide +kernel
theorem dX10_well_36 : decode cX10_well 36 = .ok (.if_icmp .ge 24, 3) := by decide +kernel
theorem dX10_well_39 : decode cX10_well 39 = .ok (.aload_n 0, 1) := by decide +kernel
theorem dX10_well_40 : decode cX10_well 40 = .ok (.iload_n 1, 1) := by decide +kernel
theorem dX10_well_41 : decode cX10_well 41 = .ok (.iload_n 3, 1) := by decide +kernel
theorem dX10_well_42 : decode cX10_well 42 = .ok (.invokevirtual 449, 3) := by decide +kernel
theorem dX10_well_45 : decode cX10_well 45 = .ok (.ifCond .eq 9, 3) := by decide +kernel
theorem dX10_well_48 : decode cX10_well 48 = .ok (.iload_n 2, 1) := by decide +kernel
theorem dX10_well_49 : decode cX10_well 49 = .ok (.iconst 1, 1) := by decide +kernel
theorem dX10_well_50 : decode cX10_well 50 = .ok (.iload_n 3, 1) := by decide +kernel
theorem dX10_well_51 : decode cX10_well 51 = .ok (.ishl, 1) := by decide +kernel
theorem dX10_well_52 : decode cX10_well 52 = .ok (.ior, 1) := by decide +kernel
theorem dX10_well_53 : decode cX10_well 53 = .ok (.istore_n 2, 1) := by decide +kernel
theorem dX10_well_54 : decode cX10_well 54 = .ok (.iinc 3 1, 3) := by decide +kernel
theorem dX10_well_57 : decode cX10_well 57 = .ok (.goto (-24), 3) := by decide +kernel
theorem dX10_well_60 : decode cX10_well 60 = .ok (.iload_n 2, 1) := by decide +kernel
theorem dX10_well_61 : decode cX10_well 61 = .ok (.ireturn, 1) := by decide +kernel
theorem dX10_spanOf_0 : decode cX10_spanOf 0 = .ok (.aload_n 0, 1) := by decide +kernel
theorem dX10_spanOf_1 : decode cX10_spanOf 1 = .ok (.iload_n 1, 1) := by decide +kernel
theorem dX10_spanOf_2 : decode cX10_spanOf 2 = .ok (.invokevirtual 446, 3) := by decide +kernel
theorem dX10_spanOf_5 : decode cX10_spanOf 5 = .ok (.istore_n 3, 1) := by decide +kernel
theorem dX10_spanOf_6 : decode cX10_spanOf 6 = .ok (.iconst 0, 1) := by decide +kernel
theorem dX10_spanOf_7 : decode cX10_spanOf 7 = .ok (.istore 4, 2) := by decide +kernel
theorem dX10_spanOf_9 : decode cX10_spanOf 9 = .ok (.iload 4, 2) := by decide +kernel
theorem dX10_spanOf_11 : decode cX10_spanOf 11 = .ok (.bipush 12, 2) := by decide +kernel
theorem dX10_spanOf_13 : decode cX10_spanOf 13 = .ok (.if_icmp .ge 59, 3) := by decide +kernel
theorem dX10_spanOf_16 : decode cX10_spanOf 16 = .ok (.aload_n 0, 1) := by decide +kernel
theorem dX10_spanOf_17 : decode cX10_spanOf 17 = .ok (.iload_n 1, 1) := by decide +kernel
theorem dX10_spanOf_18 : decode cX10_spanOf 18 = .ok (.iload 4, 2) := by decide +kernel
theorem dX10_spanOf_20 : decode cX10_spanOf 20 = .ok (.invokevirtual 449, 3) := by decide +kernel
theorem dX10_spanOf_23 : decode cX10_spanOf 23 = .ok (.ifCond .eq 43, 3) := by decide +kernel
theorem dX10_spanOf_26 : decode cX10_spanOf 26 = .ok (.iload_n 2, 1) := by decide +kernel
theorem dX10_spanOf_27 : decode cX10_spanOf 27 = .ok (.ifCond .eq 22, 3) := by decide +kernel
theorem dX10_spanOf_30 : decode cX10_spanOf 30 = .ok (.iload_n 3, 1) := by decide +kernel
theorem dX10_spanOf_31 : decode cX10_spanOf 31 = .ok (.aload_n 0, 1) := by decide +kernel
theorem dX10_spanOf_32 : decode cX10_spanOf 32 = .ok (.getfield 125, 3) := by decide +kernel
theorem dX10_spanOf_35 : decode cX10_spanOf 35 = .ok (.bipush 12, 2) := by decide +kernel
theorem dX10_spanOf_37 : decode cX10_spanOf 37 = .ok (.iload_n 1, 1) := by decide +kernel
theorem dX10_spanOf_38 : decode cX10_spanOf 38 = .ok (.imul, 1) := by decide +kernel
theorem dX10_spanOf_39 : decode cX10_spanOf 39 = .ok (.iload 4, 2) := by decide +kernel
theorem dX10_spanOf_41 : decode cX10_spanOf 41 = .ok (.iadd, 1) := by decide +kernel
theorem dX10_spanOf_42 : decode cX10_spanOf 42 = .ok (.iaload, 1) := by decide +kernel
theorem dX10_spanOf_43 : decode cX10_spanOf 43 = .ok (.invokestatic 452, 3) := by decide +kernel
theorem dX10_spanOf_46 : decode cX10_spanOf 46 = .ok (.goto 19, 3) := by decide +kernel
theorem dX10_spanOf_49 : decode cX10_spanOf 49 = .ok (.iload_n 3, 1) := by decide +kernel
theorem dX10_spanOf_50 : decode cX10_spanOf 50 = .ok (.aload_n 0, 1) := by decide +kernel
theorem dX10_spanOf_51 : decode cX10_spanOf 51 = .ok (.getfield 125, 3) := by decide +kernel
theorem dX10_spanOf_54 : decode cX10_spanOf 54 = .ok (.bipush 12, 2) := by decide +kernel
theorem dX10_spanOf_56 : decode cX10_spanOf 56 = .ok (.iload_n 1, 1) := by decide +kernel
theorem dX10_spanOf_57 : decode cX10_spanOf 57 = .ok (.imul, 1) := by decide +kernel
theorem dX10_spanOf_58 : decode cX10_spanOf 58 = .ok (.iload 4, 2) := by decide +kernel
theorem dX10_spanOf_60 : decode cX10_spanOf 60 = .ok (.iadd, 1) := by decide +kernel
theorem dX10_spanOf_61 : decode cX10_spanOf 61 = .ok (.iaload, 1) := by decide +kernel
theorem dX10_spanOf_62 : decode cX10_spanOf 62 = .ok (.invokestatic 285, 3) := by decide +kernel
theorem dX10_spanOf_65 : decode cX10_spanOf 65 = .ok (.istore_n 3, 1) := by decide +kernel
theorem dX10_spanOf_66 : decode cX10_spanOf 66 = .ok (.iinc 4 1, 3) := by decide +kernel
theorem dX10_spanOf_69 : decode cX10_spanOf 69 = .ok (.goto (-60), 3) := by decide +kernel
theorem dX10_spanOf_72 : decode cX10_spanOf 72 = .ok (.iload_n 3, 1) := by decide +kernel
theorem dX10_spanOf_73 : decode cX10_spanOf 73 = .ok (.ireturn, 1) := by decide +kernel
theorem dX10_span_0 : decode cX10_span 0 = .ok (.aload_n 0, 1) := by decide +kernel
theorem dX10_span_1 : decode cX10_span 1 = .ok (.iconst 0, 1) := by decide +kernel
theorem dX10_span_2 : decode cX10_span 2 = .ok (.putfield 153, 3) := by decide +kernel
theorem dX10_span_5 : decode cX10_span 5 = .ok (.aload_n 0, 1) := by decide +kernel
theorem dX10_span_6 : decode cX10_span 6 = .ok (.iload_n 1, 1) := by decide +kernel
theorem dX10_span_7 : decode cX10_span 7 = .ok (.invokevirtual 437, 3) := by decide +kernel
theorem dX10_span_10 : decode cX10_span 10 = .ok (.ifCond .eq 12, 3) := by decide +kernel
theorem dX10_span_13 : decode cX10_span 13 = .ok (.iload_n 2, 1) := by decide +kernel
theorem dX10_span_14 : decode cX10_span 14 = .ok (.ifCond .lt 8, 3) := by decide +kernel
theorem dX10_span_17 : decode cX10_span 17 = .ok (.iload_n 2, 1) := by decide +kernel
theorem dX10_span_18 : decode cX10_span 18 = .ok (.iconst 1, 1) := by decide +kernel
theorem dX10_span_19 : decode cX10_span 19 = .ok (.if_icmp .le 5, 3) := by decide +kernel
theorem dX10_span_22 : decode cX10_span 22 = .ok (.iconst (-1), 1) := by decide +kernel
theorem dX10_span_23 : decode cX10_span 23 = .ok (.ireturn, 1) := by decide +kernel
theorem dX10_span_24 : decode cX10_span 24 = .ok (.aload_n 0, 1) := by decide +kernel
theorem dX10_span_25 : decode cX10_span 25 = .ok (.invokevirtual 440, 3) := by decide +kernel
theorem dX10_span_28 : decode cX10_span 28 = .ok (.aload_n 0, 1) := by decide +kernel
theorem dX10_span_29 : decode cX10_span 29 = .ok (.iload_n 1, 1) := by decide +kernel
theorem dX10_span_30 : decode cX10_span 30 = .ok (.invokevirtual 443, 3) := by decide +kernel
theorem dX10_span_33 : decode cX10_span 33 = .ok (.ifCond .eq 21, 3) := by decide +kernel
theorem dX10_span_36 : decode cX10_span 36 = .ok (.aload_n 0, 1) := by decide +kernel
theorem dX10_span_37 : decode cX10_span 37 = .ok (.iload_n 1, 1) := by decide +kernel
theorem dX10_span_38 : decode cX10_span 38 = .ok (.iload_n 2, 1) := by decide +kernel
theorem dX10_span_39 : decode cX10_span 39 = .ok (.iconst 1, 1) := by decide +kernel
theorem dX10_span_40 : decode cX10_span 40 = .ok (.if_icmp .ne 7, 3) := by decide +kernel
theorem dX10_span_43 : decode cX10_span 43 = .ok (.iconst 1, 1) := by decide +kernel
theorem dX10_span_44 : decode cX10_span 44 = .ok (.goto 4, 3) := by decide +kernel
theorem dX10_span_47 : decode cX10_span 47 = .ok (.iconst 0, 1) := by decide +kernel
theorem dX10_span_48 : decode cX10_span 48 = .ok (.invokevirtual 455, 3) := by decide +kernel
theorem dX10_span_51 : decode cX10_span 51 = .ok (.goto 4, 3) := by decide +kernel
theorem dX10_span_54 : decode cX10_span 54 = .ok (.iconst (-1), 1) := by decide +kernel
theorem dX10_span_55 : decode cX10_span 55 = .ok (.ireturn, 1) := by decide +kernel
theorem dX10_isUnit_0 : decode cX10_isUnit 0 = .ok (.iload_n 0, 1) := by decide +kernel
theorem dX10_isUnit_1 : decode cX10_isUnit 1 = .ok (.bipush 100, 2) := by decide +kernel
theorem dX10_isUnit_3 : decode cX10_isUnit 3 = .ok (.if_icmp .lt 14, 3) := by decide +kernel
theorem dX10_isUnit_6 : decode cX10_isUnit 6 = .ok (.iload_n 0, 1) := by decide +kernel
theorem dX10_isUnit_7 : decode cX10_isUnit 7 = .ok (.sipush 9999, 3) := by decide +kernel
theorem dX10_isUnit_10 : decode cX10_isUnit 10 = .ok (.if_icmp .gt 7, 3) := by decide +kernel
theorem dX10_isUnit_13 : decode cX10_isUnit 13 = .ok (.iconst 1, 1) := by decide +kernel
theorem dX10_isUnit_14 : decode cX10_isUnit 14 = .ok (.goto 4, 3) := by decide +kernel
theorem dX10_isUnit_17 : decode cX10_isUnit 17 = .ok (.iconst 0, 1) := by decide +kernel
theorem dX10_isUnit_18 : decode cX10_isUnit 18 = .ok (.ireturn, 1) := by decide +kernel
theorem dX10_part_0 : decode cX10_part 0 = .ok (.aload_n 0, 1) := by decide +kernel
theorem dX10_part_1 : decode cX10_part 1 = .ok (.getfield 376, 3) := by decide +kernel
theorem dX10_part_4 : decode cX10_part 4 = .ok (.ifCond .eq 9, 3) := by decide +kernel
theorem dX10_part_7 : decode cX10_part 7 = .ok (.iload_n 1, 1) := by decide +kernel
theorem dX10_part_8 : decode cX10_part 8 = .ok (.iconst 2, 1) := by decide +kernel
theorem dX10_part_9 : decode cX10_part 9 = .ok (.idiv, 1) := by decide +kernel
theorem dX10_part_10 : decode cX10_part 10 = .ok (.goto 4, 3) := by decide +kernel
theorem dX10_part_13 : decode cX10_part 13 = .ok (.iload_n 1, 1) := by decide +kernel
theorem dX10_part_14 : decode cX10_part 14 = .ok (.ireturn, 1) := by decide +kernel
theorem dX10_offBy_0 : decode cX10_offBy 0 = .ok (.iload_n 0, 1) := by decide +kernel
theorem dX10_offBy_1 : decode cX10_offBy 1 = .ok (.iload_n 1, 1) := by decide +kernel
theorem dX10_offBy_2 : decode cX10_offBy 2 = .ok (.irem, 1) := by decide +kernel
theorem dX10_offBy_3 : decode cX10_offBy 3 = .ok (.iload_n 1, 1) := by decide +kernel
theorem dX10_offBy_4 : decode cX10_offBy 4 = .ok (.iload_n 0, 1) := by decide +kernel
theorem dX10_offBy_5 : decode cX10_offBy 5 = .ok (.iload_n 1, 1) := by decide +kernel
theorem dX10_offBy_6 : decode cX10_offBy 6 = .ok (.irem, 1) := by decide +kernel
theorem dX10_offBy_7 : decode cX10_offBy 7 = .ok (.isub, 1) := by decide +kernel
theorem dX10_offBy_8 : decode cX10_offBy 8 = .ok (.invokestatic 285, 3) := by decide +kernel
theorem dX10_offBy_11 : decode cX10_offBy 11 = .ok (.ireturn, 1) := by decide +kernel
theorem dX10_timesBy_0 : decode cX10_timesBy 0 = .ok (.iload_n 0, 1) := by decide +kernel
theorem dX10_timesBy_1 : decode cX10_timesBy 1 = .ok (.iload_n 1, 1) := by decide +kernel
theorem dX10_timesBy_2 : decode cX10_timesBy 2 = .ok (.idiv, 1) := by decide +kernel
theorem dX10_timesBy_3 : decode cX10_timesBy 3 = .ok (.iconst 2, 1) := by decide +kernel
theorem dX10_timesBy_4 : decode cX10_timesBy 4 = .ok (.iload_n 0, 1) := by decide +kernel
theorem dX10_timesBy_5 : decode cX10_timesBy 5 = .ok (.iload_n 1, 1) := by decide +kernel
theorem dX10_timesBy_6 : decode cX10_timesBy 6 = .ok (.irem, 1) := by decide +kernel
theorem dX10_timesBy_7 : decode cX10_timesBy 7 = .ok (.imul, 1) := by decide +kernel
theorem dX10_timesBy_8 : decode cX10_timesBy 8 = .ok (.iload_n 1, 1) := by decide +kernel
theorem dX10_timesBy_9 : decode cX10_timesBy 9 = .ok (.if_icmp .le 7, 3) := by decide +kernel
theorem dX10_timesBy_12 : decode cX10_timesBy 12 = .ok (.iconst 1, 1) := by decide +kernel
theorem dX10_timesBy_13 : decode cX10_timesBy 13 = .ok (.goto 4, 3) := by decide +kernel
theorem dX10_timesBy_16 : decode cX10_timesBy 16 = .ok (.iconst 0, 1) := by decide +kernel
theorem dX10_timesBy_17 : decode cX10_timesBy 17 = .ok (.iadd, 1) := by decide +kernel
theorem dX10_timesBy_18 : decode cX10_timesBy 18 = .ok (.ireturn, 1) := by decide +kernel
theorem dX10_whole_0 : decode cX10_whole 0 = .ok (.aload_n 0, 1) := by decide +kernel
theorem dX10_whole_1 : decode cX10_whole 1 = .ok (.iconst 0, 1) := by decide +kernel
theorem dX10_whole_2 : decode cX10_whole 2 = .ok (.putfield 153, 3) := by decide +kernel
theorem dX10_whole_5 : decode cX10_whole 5 = .ok (.iload_n 1, 1) := by decide +kernel
theorem dX10_whole_6 : decode cX10_whole 6 = .ok (.ifCond .lt 26, 3) := by decide +kernel
theorem dX10_whole_9 : decode cX10_whole 9 = .ok (.iload_n 1, 1) := by decide +kernel
theorem dX10_whole_10 : decode cX10_whole 10 = .ok (.ldc_w 459, 3) := by decide +kernel
theorem dX10_whole_13 : decode cX10_whole 13 = .ok (.if_icmp .gt 19, 3) := by decide +kernel
theorem dX10_whole_16 : decode cX10_whole 16 = .ok (.iload_n 2, 1) := by decide +kernel
theorem dX10_whole_17 : decode cX10_whole 17 = .ok (.invokestatic 460, 3) := by decide +kernel
theorem dX10_whole_20 : decode cX10_whole 20 = .ok (.ifCond .eq 12, 3) := by decide +kernel
theorem dX10_whole_23 : decode cX10_whole 23 = .ok (.iload_n 3, 1) := by decide +kernel
theorem dX10_whole_24 : decode cX10_whole 24 = .ok (.ifCond .lt 8, 3) := by decide +kernel
theorem dX10_whole_27 : decode cX10_whole 27 = .ok (.iload_n 3, 1) := by decide +kernel
theorem dX10_whole_28 : decode cX10_whole 28 = .ok (.iconst 1, 1) := by decide +kernel
theorem dX10_whole_29 : decode cX10_whole 29 = .ok (.if_icmp .le 5, 3) := by decide +kernel
theorem dX10_whole_32 : decode cX10_whole 32 = .ok (.iconst (-1), 1) := by decide +kernel
theorem dX10_whole_33 : decode cX10_whole 33 = .ok (.ireturn, 1) := by decide +kernel
theorem dX10_whole_34 : decode cX10_whole 34 = .ok (.iload_n 3, 1) := by decide +kernel
theorem dX10_whole_35 : decode cX10_whole 35 = .ok (.ifCond .ne 15, 3) := by decide +kernel
theorem dX10_whole_38 : decode cX10_whole 38 = .ok (.iload_n 1, 1) := by decide +kernel
theorem dX10_whole_39 : decode cX10_whole 39 = .ok (.aload_n 0, 1) := by decide +kernel
theorem dX10_whole_40 : decode cX10_whole 40 = .ok (.iload_n 2, 1) := by decide +kernel
theorem dX10_whole_41 : decode cX10_whole 41 = .ok (.invokevirtual 463, 3) := by decide +kernel
theorem dX10_whole_44 : decode cX10_whole 44 = .ok (.invokestatic 466, 3) := by decide +kernel
theorem dX10_whole_47 : decode cX10_whole 47 = .ok (.goto 12, 3) := by decide +kernel
theorem dX10_whole_50 : decode cX10_whole 50 = .ok (.iload_n 1, 1) := by decide +kernel
theorem dX10_whole_51 : decode cX10_whole 51 = .ok (.aload_n 0, 1) := by decide +kernel
theorem dX10_whole_52 : decode cX10_whole 52 = .ok (.iload_n 2, 1) := by decide +kernel
theorem dX10_whole_53 : decode cX10_whole 53 = .ok (.invokevirtual 463, 3) := by decide +kernel
theorem dX10_whole_56 : decode cX10_whole 56 = .ok (.invokestatic 469, 3) := by decide +kernel
theorem dX10_whole_59 : decode cX10_whole 59 = .ok (.ireturn, 1) := by decide +kernel
theorem dX10_is_0 : decode cX10_is 0 = .ok (.iload_n 0, 1) := by decide +kernel
theorem dX10_is_1 : decode cX10_is 1 = .ok (.ifCond .eq 7, 3) := by decide +kernel
theorem dX10_is_4 : decode cX10_is 4 = .ok (.lconst 1, 1) := by decide +kernel
theorem dX10_is_5 : decode cX10_is 5 = .ok (.goto 4, 3) := by decide +kernel
theorem dX10_is_8 : decode cX10_is 8 = .ok (.lconst 0, 1) := by decide +kernel
theorem dX10_is_9 : decode cX10_is 9 = .ok (.lreturn, 1) := by decide +kernel
theorem dX10_works_0 : decode cX10_works 0 = .ok (.aload_n 0, 1) := by decide +kernel
theorem dX10_works_1 : decode cX10_works 1 = .ok (.getfield 137, 3) := by decide +kernel
theorem dX10_works_4 : decode cX10_works 4 = .ok (.aload_n 0, 1) := by decide +kernel
theorem dX10_works_5 : decode cX10_works 5 = .ok (.getfield 472, 3) := by decide +kernel
theorem dX10_works_8 : decode cX10_works 8 = .ok (.iconst 1, 1) := by decide +kernel
theorem dX10_works_9 : decode cX10_works 9 = .ok (.isub, 1) := by decide +kernel
theorem dX10_works_10 : decode cX10_works 10 = .ok (.laload, 1) := by decide +kernel
theorem dX10_works_11 : decode cX10_works 11 = .ok (.lstore_n 2, 1) := by decide +kernel
theorem dX10_works_12 : decode cX10_works 12 = .ok (.iload_n 1, 1) := by decide +kernel
theorem dX10_works_13 : decode cX10_works 13 = .ok (.sipush 260, 3) := by decide +kernel
theorem dX10_works_16 : decode cX10_works 16 = .ok (.if_icmp .ne 30, 3) := by decide +kernel
theorem dX10_works_19 : decode cX10_works 19 = .ok (.aload_n 0, 1) := by decide +kernel
theorem dX10_works_20 : decode cX10_works 20 = .ok (.getfield 137, 3) := by decide +kernel
theorem dX10_works_23 : decode cX10_works 23 = .ok (.aload_n 0, 1) := by decide +kernel
theorem dX10_works_24 : decode cX10_works 24 = .ok (.getfield 472, 3) := by decide +kernel
theorem dX10_works_27 : decode cX10_works 27 = .ok (.iconst 1, 1) := by decide +kernel
theorem dX10_works_28 : decode cX10_works 28 = .ok (.isub, 1) := by decide +kernel
theorem dX10_works_29 : decode cX10_works 29 = .ok (.lload_n 2, 1) := by decide +kernel
theorem dX10_works_30 : decode cX10_works 30 = .ok (.lconst 0, 1) := by decide +kernel
theorem dX10_works_31 : decode cX10_works 31 = .ok (.lcmp, 1) := by decide +kernel
theorem dX10_works_32 : decode cX10_works 32 = .ok (.ifCond .ne 7, 3) := by decide +kernel
theorem dX10_works_35 : decode cX10_works 35 = .ok (.iconst 1, 1) := by decide +kernel
theorem dX10_works_36 : decode cX10_works 36 = .ok (.goto 4, 3) := by decide +kernel
theorem dX10_works_39 : decode cX10_works 39 = .ok (.iconst 0, 1) := by decide +kernel
theorem dX10_works_40 : decode cX10_works 40 = .ok (.invokestatic 475, 3) := by decide +kernel
theorem dX10_works_43 : decode cX10_works 43 = .ok (.lastore, 1) := by decide +kernel
theorem dX10_works_44 : decode cX10_works 44 = .ok (.iconst 1, 1) := by decide +kernel
theorem dX10_works_45 : decode cX10_works 45 = .ok (.ireturn, 1) := by decide +kernel
theorem dX10_works_46 : decode cX10_works 46 = .ok (.aload_n 0, 1) := by decide +kernel
theorem dX10_works_47 : decode cX10_works 47 = .ok (.getfield 137, 3) := by decide +kernel
theorem dX10_works_50 : decode cX10_works 50 = .ok (.aload_n 0, 1) := by decide +kernel
theorem dX10_works_51 : decode cX10_works 51 = .ok (.getfield 472, 3) := by decide +kernel
theorem dX10_works_54 : decode cX10_works 54 = .ok (.iconst 2, 1) := by decide +kernel
theorem dX10_works_55 : decode cX10_works 55 = .ok (.isub, 1) := by decide +kernel
theorem dX10_works_56 : decode cX10_works 56 = .ok (.laload, 1) := by decide +kernel
theorem dX10_works_57 : decode cX10_works 57 = .ok (.lstore 4, 2) := by decide +kernel
theorem dX10_works_59 : decode cX10_works 59 = .ok (.aload_n 0, 1) := by decide +kernel
theorem dX10_works_60 : decode cX10_works 60 = .ok (.dup, 1) := by decide +kernel
theorem dX10_works_61 : decode cX10_works 61 = .ok (.getfield 472, 3) := by decide +kernel
theorem dX10_works_64 : decode cX10_works 64 = .ok (.iconst 1, 1) := by decide +kernel
theorem dX10_works_65 : decode cX10_works 65 = .ok (.isub, 1) := by decide +kernel
theorem dX10_works_66 : decode cX10_works 66 = .ok (.putfield 472, 3) := by decide +kernel
theorem dX10_works_69 : decode cX10_works 69 = .ok (.iload_n 1, 1) := by decide +kernel
theorem dX10_works_70 : decode cX10_works 70 = .ok (.lookupswitch 314 #[(42, 116), (43, 98), (45, 107), (47, 151), (60, 168), (61, 208), (62, 188), (256, 228), (257, 268), (258, 248), (261, 288)], 98) := by decide +kernel
theorem dX10_works_168 : decode cX10_works 168 = .ok (.lload 4, 2) := by decide +kernel
theorem dX10_works_170 : decode cX10_works 170 = .ok (.lload_n 2, 1) := by decide +kernel
theorem dX10_works_171 : decode cX10_works 171 = .ok (.ladd, 1) := by decide +kernel
theorem dX10_works_172 : decode cX10_works 172 = .ok (.lstore 6, 2) := by decide +kernel
theorem dX10_works_174 : decode cX10_works 174 = .ok (.goto 233, 3) := by decide +kernel
theorem dX10_works_177 : decode cX10_works 177 = .ok (.lload 4, 2) := by decide +kernel
theorem dX10_works_179 : decode cX10_works 179 = .ok (.lload_n 2, 1) := by decide +kernel
theorem dX10_works_180 : decode cX10_works 180 = .ok (.lsub, 1) := by decide +kernel
theorem dX10_works_181 : decode cX10_works 181 = .ok (.lstore 6, 2) := by decide +kernel
theorem dX10_works_183 : decode cX10_works 183 = .ok (.goto 224, 3) := by decide +kernel
theorem dX10_works_186 : decode cX10_works 186 = .ok (.lload 4, 2) := by decide +kernel
theorem dX10_works_188 : decode cX10_works 188 = .ok (.lconst 0, 1) := by decide +kernel
theorem dX10_works_189 : decode cX10_works 189 = .ok (.lcmp, 1) := by decide +kernel
theorem dX10_works_190 : decode cX10_works 190 = .ok (.ifCond .eq 22, 3) := by decide +kernel
theorem dX10_works_193 : decode cX10_works 193 = .ok (.lload_n 2, 1) := by decide +kernel
theorem dX10_works_194 : decode cX10_works 194 = .ok (.invokestatic 479, 3) := by decide +kernel
theorem dX10_works_197 : decode cX10_works 197 = .ok (.ldc2_w 482, 3) := by decide +kernel
theorem dX10_works_200 : decode cX10_works 200 = .ok (.lload 4, 2) := by decide +kernel
theorem dX10_works_202 : decode cX10_works 202 = .ok (.invokestatic 479, 3) := by decide +kernel
theorem dX10_works_205 : decode cX10_works 205 = .ok (.ldiv, 1) := by decide +kernel
theorem dX10_works_206 : decode cX10_works 206 = .ok (.lcmp, 1) := by decide +kernel
theorem dX10_works_207 : decode cX10_works 207 = .ok (.ifCond .le 5, 3) := by decide +kernel
theorem dX10_works_210 : decode cX10_works 210 = .ok (.iconst 0, 1) := by decide +kernel
theorem dX10_works_211 : decode cX10_works 211 = .ok (.ireturn, 1) := by decide +kernel
theorem dX10_works_212 : decode cX10_works 212 = .ok (.lload 4, 2) := by decide +kernel
theorem dX10_works_214 : decode cX10_works 214 = .ok (.lload_n 2, 1) := by decide +kernel
theorem dX10_works_215 : decode cX10_works 215 = .ok (.lmul, 1) := by decide +kernel
theorem dX10_works_216 : decode cX10_works 216 = .ok (.lstore 6, 2) := by decide +kernel
theorem dX10_works_218 : decode cX10_works 218 = .ok (.goto 189, 3) := by decide +kernel
theorem dX10_works_221 : decode cX10_works 221 = .ok (.lload_n 2, 1) := by decide +kernel
theorem dX10_works_222 : decode cX10_works 222 = .ok (.lconst 0, 1) := by decide +kernel
theorem dX10_works_223 : decode cX10_works 223 = .ok (.lcmp, 1) := by decide +kernel
theorem dX10_works_224 : decode cX10_works 224 = .ok (.ifCond .ne 5, 3) := by decide +kernel
theorem dX10_works_227 : decode cX10_works 227 = .ok (.iconst 0, 1) := by decide +kernel
theorem dX10_works_228 : decode cX10_works 228 = .ok (.ireturn, 1) := by decide +kernel
theorem dX10_works_229 : decode cX10_works 229 = .ok (.lload 4, 2) := by decide +kernel
theorem dX10_works_231 : decode cX10_works 231 = .ok (.lload_n 2, 1) := by decide +kernel
theorem dX10_works_232 : decode cX10_works 232 = .ok (.ldiv, 1) := by decide +kernel
theorem dX10_works_233 : decode cX10_works 233 = .ok (.lstore 6, 2) := by decide +kernel
theorem dX10_works_235 : decode cX10_works 235 = .ok (.goto 172, 3) := by decide +kernel
theorem dX10_works_238 : decode cX10_works 238 = .ok (.lload 4, 2) := by decide +kernel
theorem dX10_works_240 : decode cX10_works 240 = .ok (.lload_n 2, 1) := by decide +kernel
theorem dX10_works_241 : decode cX10_works 241 = .ok (.lcmp, 1) := by decide +kernel
theorem dX10_works_242 : decode cX10_works 242 = .ok (.ifCond .ge 7, 3) := by decide +kernel
theorem dX10_works_245 : decode cX10_works 245 = .ok (.iconst 1, 1) := by decide +kernel
theorem dX10_works_246 : decode cX10_works 246 = .ok (.goto 4, 3) := by decide +kernel
theorem dX10_works_249 : decode cX10_works 249 = .ok (.iconst 0, 1) := by decide +kernel
theorem dX10_works_250 : decode cX10_works 250 = .ok (.invokestatic 475, 3) := by decide +kernel
theorem dX10_works_253 : decode cX10_works 253 = .ok (.lstore 6, 2) := by decide +kernel
theorem dX10_works_255 : decode cX10_works 255 = .ok (.goto 152, 3) := by decide +kernel
theorem dX10_works_258 : decode cX10_works 258 = .ok (.lload 4, 2) := by decide +kernel
theorem dX10_works_260 : decode cX10_works 260 = .ok (.lload_n 2, 1) := by decide +kernel
theorem dX10_works_261 : decode cX10_works 261 = .ok (.lcmp, 1) := by decide +kernel
theorem dX10_works_262 : decode cX10_works 262 = .ok (.ifCond .le 7, 3) := by decide +kernel
theorem dX10_works_265 : decode cX10_works 265 = .ok (.iconst 1, 1) := by decide +kernel
theorem dX10_works_266 : decode cX10_works 266 = .ok (.goto 4, 3) := by decide +kernel
theorem dX10_works_269 : decode cX10_works 269 = .ok (.iconst 0, 1) := by decide +kernel
theorem dX10_works_270 : decode cX10_works 270 = .ok (.invokestatic 475, 3) := by decide +kernel
theorem dX10_works_273 : decode cX10_works 273 = .ok (.lstore 6, 2) := by decide +kernel
theorem dX10_works_275 : decode cX10_works 275 = .ok (.goto 132, 3) := by decide +kernel
theorem dX10_works_278 : decode cX10_works 278 = .ok (.lload 4, 2) := by decide +kernel
theorem dX10_works_280 : decode cX10_works 280 = .ok (.lload_n 2, 1) := by decide +kernel
theorem dX10_works_281 : decode cX10_works 281 = .ok (.lcmp, 1) := by decide +kernel
theorem dX10_works_282 : decode cX10_works 282 = .ok (.ifCond .ne 7, 3) := by decide +kernel
theorem dX10_works_285 : decode cX10_works 285 = .ok (.iconst 1, 1) := by decide +kernel
theorem dX10_works_286 : decode cX10_works 286 = .ok (.goto 4, 3) := by decide +kernel
theorem dX10_works_289 : decode cX10_works 289 = .ok (.iconst 0, 1) := by decide +kernel
theorem dX10_works_290 : decode cX10_works 290 = .ok (.invokestatic 475, 3) := by decide +kernel
theorem dX10_works_293 : decode cX10_works 293 = .ok (.lstore 6, 2) := by decide +kernel
theorem dX10_works_295 : decode cX10_works 295 = .ok (.goto 112, 3) := by decide +kernel
theorem dX10_works_298 : decode cX10_works 298 = .ok (.lload 4, 2) := by decide +kernel
theorem dX10_works_300 : decode cX10_works 300 = .ok (.lload_n 2, 1) := by decide +kernel
theorem dX10_works_301 : decode cX10_works 301 = .ok (.lcmp, 1) := by decide +kernel
theorem dX10_works_302 : decode cX10_works 302 = .ok (.ifCond .gt 7, 3) := by decide +kernel
theorem dX10_works_305 : decode cX10_works 305 = .ok (.iconst 1, 1) := by decide +kernel
theorem dX10_works_306 : decode cX10_works 306 = .ok (.goto 4, 3) := by decide +kernel
theorem dX10_works_309 : decode cX10_works 309 = .ok (.iconst 0, 1) := by decide +kernel
theorem dX10_works_310 : decode cX10_works 310 = .ok (.invokestatic 475, 3) := by decide +kernel
theorem dX10_works_313 : decode cX10_works 313 = .ok (.lstore 6, 2) := by decide +kernel
theorem dX10_works_315 : decode cX10_works 315 = .ok (.goto 92, 3) := by decide +kernel
theorem dX10_works_318 : decode cX10_works 318 = .ok (.lload 4, 2) := by decide +kernel
theorem dX10_works_320 : decode cX10_works 320 = .ok (.lload_n 2, 1) := by decide +kernel
theorem dX10_works_321 : decode cX10_works 321 = .ok (.lcmp, 1) := by decide +kernel
theorem dX10_works_322 : decode cX10_works 322 = .ok (.ifCond .lt 7, 3) := by decide +kernel
theorem dX10_works_325 : decode cX10_works 325 = .ok (.iconst 1, 1) := by decide +kernel
theorem dX10_works_326 : decode cX10_works 326 = .ok (.goto 4, 3) := by decide +kernel
theorem dX10_works_329 : decode cX10_works 329 = .ok (.iconst 0, 1) := by decide +kernel
theorem dX10_works_330 : decode cX10_works 330 = .ok (.invokestatic 475, 3) := by decide +kernel
theorem dX10_works_333 : decode cX10_works 333 = .ok (.lstore 6, 2) := by decide +kernel
theorem dX10_works_335 : decode cX10_works 335 = .ok (.goto 72, 3) := by decide +kernel
theorem dX10_works_338 : decode cX10_works 338 = .ok (.lload 4, 2) := by decide +kernel
theorem dX10_works_340 : decode cX10_works 340 = .ok (.lload_n 2, 1) := by decide +kernel
theorem dX10_works_341 : decode cX10_works 341 = .ok (.lcmp, 1) := by decide +kernel
theorem dX10_works_342 : decode cX10_works 342 = .ok (.ifCond .eq 7, 3) := by decide +kernel
theorem dX10_works_345 : decode cX10_works 345 = .ok (.iconst 1, 1) := by decide +kernel
theorem dX10_works_346 : decode cX10_works 346 = .ok (.goto 4, 3) := by decide +kernel
theorem dX10_works_349 : decode cX10_works 349 = .ok (.iconst 0, 1) := by decide +kernel
theorem dX10_works_350 : decode cX10_works 350 = .ok (.invokestatic 475, 3) := by decide +kernel
theorem dX10_works_353 : decode cX10_works 353 = .ok (.lstore 6, 2) := by decide +kernel
theorem dX10_works_355 : decode cX10_works 355 = .ok (.goto 52, 3) := by decide +kernel
theorem dX10_works_358 : decode cX10_works 358 = .ok (.lload 4, 2) := by decide +kernel
theorem dX10_works_360 : decode cX10_works 360 = .ok (.lconst 0, 1) := by decide +kernel
theorem dX10_works_361 : decode cX10_works 361 = .ok (.lcmp, 1) := by decide +kernel
theorem dX10_works_362 : decode cX10_works 362 = .ok (.ifCond .eq 13, 3) := by decide +kernel
theorem dX10_works_365 : decode cX10_works 365 = .ok (.lload_n 2, 1) := by decide +kernel
theorem dX10_works_366 : decode cX10_works 366 = .ok (.lconst 0, 1) := by decide +kernel
theorem dX10_works_367 : decode cX10_works 367 = .ok (.lcmp, 1) := by decide +kernel
theorem dX10_works_368 : decode cX10_works 368 = .ok (.ifCond .eq 7, 3) := by decide +kernel
theorem dX10_works_371 : decode cX10_works 371 = .ok (.iconst 1, 1) := by decide +kernel
theorem dX10_works_372 : decode cX10_works 372 = .ok (.goto 4, 3) := by decide +kernel
theorem dX10_works_375 : decode cX10_works 375 = .ok (.iconst 0, 1) := by decide +kernel
theorem dX10_works_376 : decode cX10_works 376 = .ok (.invokestatic 475, 3) := by decide +kernel
theorem dX10_works_379 : decode cX10_works 379 = .ok (.lstore 6, 2) := by decide +kernel
theorem dX10_works_381 : decode cX10_works 381 = .ok (.goto 26, 3) := by decide +kernel
theorem dX10_works_384 : decode cX10_works 384 = .ok (.lload 4, 2) := by decide +kernel
theorem dX10_works_386 : decode cX10_works 386 = .ok (.lconst 0, 1) := by decide +kernel
theorem dX10_works_387 : decode cX10_works 387 = .ok (.lcmp, 1) := by decide +kernel
theorem dX10_works_388 : decode cX10_works 388 = .ok (.ifCond .ne 9, 3) := by decide +kernel
theorem dX10_works_391 : decode cX10_works 391 = .ok (.lload_n 2, 1) := by decide +kernel
theorem dX10_works_392 : decode cX10_works 392 = .ok (.lconst 0, 1) := by decide +kernel
theorem dX10_works_393 : decode cX10_works 393 = .ok (.lcmp, 1) := by decide +kernel
theorem dX10_works_394 : decode cX10_works 394 = .ok (.ifCond .eq 7, 3) := by decide +kernel
theorem dX10_works_397 : decode cX10_works 397 = .ok (.iconst 1, 1) := by decide +kernel
theorem dX10_works_398 : decode cX10_works 398 = .ok (.goto 4, 3) := by decide +kernel
theorem dX10_works_401 : decode cX10_works 401 = .ok (.iconst 0, 1) := by decide +kernel
theorem dX10_works_402 : decode cX10_works 402 = .ok (.invokestatic 475, 3) := by decide +kernel
theorem dX10_works_405 : decode cX10_works 405 = .ok (.lstore 6, 2) := by decide +kernel
theorem dX10_works_407 : decode cX10_works 407 = .ok (.aload_n 0, 1) := by decide +kernel
theorem dX10_works_408 : decode cX10_works 408 = .ok (.getfield 137, 3) := by decide +kernel
theorem dX10_works_411 : decode cX10_works 411 = .ok (.aload_n 0, 1) := by decide +kernel
theorem dX10_works_412 : decode cX10_works 412 = .ok (.getfield 472, 3) := by decide +kernel
theorem dX10_works_415 : decode cX10_works 415 = .ok (.iconst 1, 1) := by decide +kernel
theorem dX10_works_416 : decode cX10_works 416 = .ok (.isub, 1) := by decide +kernel
theorem dX10_works_417 : decode cX10_works 417 = .ok (.lload 6, 2) := by decide +kernel
theorem dX10_works_419 : decode cX10_works 419 = .ok (.lastore, 1) := by decide +kernel
theorem dX10_works_420 : decode cX10_works 420 = .ok (.lload 6, 2) := by decide +kernel
theorem dX10_works_422 : decode cX10_works 422 = .ok (.ldc2_w 482, 3) := by decide +kernel
theorem dX10_works_425 : decode cX10_works 425 = .ok (.lcmp, 1) := by decide +kernel
theorem dX10_works_426 : decode cX10_works 426 = .ok (.ifCond .gt 16, 3) := by decide +kernel
theorem dX10_works_429 : decode cX10_works 429 = .ok (.lload 6, 2) := by decide +kernel
theorem dX10_works_431 : decode cX10_works 431 = .ok (.ldc2_w 484, 3) := by decide +kernel
theorem dX10_works_434 : decode cX10_works 434 = .ok (.lcmp, 1) := by decide +kernel
theorem dX10_works_435 : decode cX10_works 435 = .ok (.ifCond .lt 7, 3) := by decide +kernel
theorem dX10_works_438 : decode cX10_works 438 = .ok (.iconst 1, 1) := by decide +kernel
theorem dX10_works_439 : decode cX10_works 439 = .ok (.goto 4, 3) := by decide +kernel
theorem dX10_works_442 : decode cX10_works 442 = .ok (.iconst 0, 1) := by decide +kernel
theorem dX10_works_443 : decode cX10_works 443 = .ok (.ireturn, 1) := by decide +kernel
theorem dX10_isNear_0 : decode cX10_isNear 0 = .ok (.iload_n 2, 1) := by decide +kernel
theorem dX10_isNear_1 : decode cX10_isNear 1 = .ok (.aload_n 0, 1) := by decide +kernel
theorem dX10_isNear_2 : decode cX10_isNear 2 = .ok (.iload_n 3, 1) := by decide +kernel
theorem dX10_isNear_3 : decode cX10_isNear 3 = .ok (.invokevirtual 463, 3) := by decide +kernel
theorem dX10_isNear_6 : decode cX10_isNear 6 = .ok (.invokestatic 466, 3) := by decide +kernel
theorem dX10_isNear_9 : decode cX10_isNear 9 = .ok (.istore 4, 2) := by decide +kernel
theorem dX10_isNear_11 : decode cX10_isNear 11 = .ok (.aload_n 0, 1) := by decide +kernel
theorem dX10_isNear_12 : decode cX10_isNear 12 = .ok (.getfield 352, 3) := by decide +kernel
theorem dX10_isNear_15 : decode cX10_isNear 15 = .ok (.ifCond .ne 18, 3) := by decide +kernel
theorem dX10_isNear_18 : decode cX10_isNear 18 = .ok (.bipush 8, 2) := by decide +kernel
theorem dX10_isNear_20 : decode cX10_isNear 20 = .ok (.iload 4, 2) := by decide +kernel
theorem dX10_isNear_22 : decode cX10_isNear 22 = .ok (.imul, 1) := by decide +kernel
theorem dX10_isNear_23 : decode cX10_isNear 23 = .ok (.iload_n 3, 1) := by decide +kernel
theorem dX10_isNear_24 : decode cX10_isNear 24 = .ok (.if_icmp .gt 7, 3) := by decide +kernel
theorem dX10_isNear_27 : decode cX10_isNear 27 = .ok (.iconst 1, 1) := by decide +kernel
theorem dX10_isNear_28 : decode cX10_isNear 28 = .ok (.goto 4, 3) := by decide +kernel
theorem dX10_isNear_31 : decode cX10_isNear 31 = .ok (.iconst 0, 1) := by decide +kernel
theorem dX10_isNear_32 : decode cX10_isNear 32 = .ok (.ireturn, 1) := by decide +kernel
theorem dX10_isNear_33 : decode cX10_isNear 33 = .ok (.aload_n 0, 1) := by decide +kernel
theorem dX10_isNear_34 : decode cX10_isNear 34 = .ok (.getfield 141, 3) := by decide +kernel
theorem dX10_isNear_37 : decode cX10_isNear 37 = .ok (.iconst 0, 1) := by decide +kernel
theorem dX10_isNear_38 : decode cX10_isNear 38 = .ok (.iload 4, 2) := by decide +kernel
theorem dX10_isNear_40 : decode cX10_isNear 40 = .ok (.i2l, 1) := by decide +kernel
theorem dX10_isNear_41 : decode cX10_isNear 41 = .ok (.lastore, 1) := by decide +kernel
theorem dX10_isNear_42 : decode cX10_isNear 42 = .ok (.aload_n 0, 1) := by decide +kernel
theorem dX10_isNear_43 : decode cX10_isNear 43 = .ok (.getfield 141, 3) := by decide +kernel
theorem dX10_isNear_46 : decode cX10_isNear 46 = .ok (.iconst 1, 1) := by decide +kernel
theorem dX10_isNear_47 : decode cX10_isNear 47 = .ok (.iload_n 3, 1) := by decide +kernel
theorem dX10_isNear_48 : decode cX10_isNear 48 = .ok (.i2l, 1) := by decide +kernel
theorem dX10_isNear_49 : decode cX10_isNear 49 = .ok (.lastore, 1) := by decide +kernel
theorem dX10_isNear_50 : decode cX10_isNear 50 = .ok (.aload_n 0, 1) := by decide +kernel
theorem dX10_isNear_51 : decode cX10_isNear 51 = .ok (.getfield 141, 3) := by decide +kernel
theorem dX10_isNear_54 : decode cX10_isNear 54 = .ok (.iconst 2, 1) := by decide +kernel
theorem dX10_isNear_55 : decode cX10_isNear 55 = .ok (.iload_n 2, 1) := by decide +kernel
theorem dX10_isNear_56 : decode cX10_isNear 56 = .ok (.i2l, 1) := by decide +kernel
theorem dX10_isNear_57 : decode cX10_isNear 57 = .ok (.lastore, 1) := by decide +kernel
theorem dX10_isNear_58 : decode cX10_isNear 58 = .ok (.aload_n 0, 1) := by decide +kernel
theorem dX10_isNear_59 : decode cX10_isNear 59 = .ok (.getfield 141, 3) := by decide +kernel
theorem dX10_isNear_62 : decode cX10_isNear 62 = .ok (.iconst 3, 1) := by decide +kernel
theorem dX10_isNear_63 : decode cX10_isNear 63 = .ok (.iload_n 2, 1) := by decide +kernel
theorem dX10_isNear_64 : decode cX10_isNear 64 = .ok (.aload_n 0, 1) := by decide +kernel
theorem dX10_isNear_65 : decode cX10_isNear 65 = .ok (.iload_n 3, 1) := by decide +kernel
theorem dX10_isNear_66 : decode cX10_isNear 66 = .ok (.invokevirtual 463, 3) := by decide +kernel
theorem dX10_isNear_69 : decode cX10_isNear 69 = .ok (.invokestatic 469, 3) := by decide +kernel
theorem dX10_isNear_72 : decode cX10_isNear 72 = .ok (.i2l, 1) := by decide +kernel
theorem dX10_isNear_73 : decode cX10_isNear 73 = .ok (.lastore, 1) := by decide +kernel
theorem dX10_isNear_74 : decode cX10_isNear 74 = .ok (.aload_n 0, 1) := by decide +kernel
theorem dX10_isNear_75 : decode cX10_isNear 75 = .ok (.getfield 141, 3) := by decide +kernel
theorem dX10_isNear_78 : decode cX10_isNear 78 = .ok (.iconst 4, 1) := by decide +kernel
theorem dX10_isNear_79 : decode cX10_isNear 79 = .ok (.aload_n 0, 1) := by decide +kernel
theorem dX10_isNear_80 : decode cX10_isNear 80 = .ok (.getfield 134, 3) := by decide +kernel
theorem dX10_isNear_83 : decode cX10_isNear 83 = .ok (.iload_n 1, 1) := by decide +kernel
theorem dX10_isNear_84 : decode cX10_isNear 84 = .ok (.iaload, 1) := by decide +kernel
theorem dX10_isNear_85 : decode cX10_isNear 85 = .ok (.i2l, 1) := by decide +kernel
theorem dX10_isNear_86 : decode cX10_isNear 86 = .ok (.lastore, 1) := by decide +kernel
theorem dX10_isNear_87 : decode cX10_isNear 87 = .ok (.aload_n 0, 1) := by decide +kernel
theorem dX10_isNear_88 : decode cX10_isNear 88 = .ok (.getfield 141, 3) := by decide +kernel
theorem dX10_isNear_91 : decode cX10_isNear 91 = .ok (.iconst 5, 1) := by decide +kernel
theorem dX10_isNear_92 : decode cX10_isNear 92 = .ok (.aload_n 0, 1) := by decide +kernel
theorem dX10_isNear_93 : decode cX10_isNear 93 = .ok (.getfield 131, 3) := by decide +kernel
theorem dX10_isNear_96 : decode cX10_isNear 96 = .ok (.iload_n 1, 1) := by decide +kernel
theorem dX10_isNear_97 : decode cX10_isNear 97 = .ok (.iaload, 1) := by decide +kernel
theorem dX10_isNear_98 : decode cX10_isNear 98 = .ok (.iconst 4, 1) := by decide +kernel
theorem dX10_isNear_99 : decode cX10_isNear 99 = .ok (.idiv, 1) := by decide +kernel
theorem dX10_isNear_100 : decode cX10_isNear 100 = .ok (.i2l, 1) := by decide +kernel
theorem dX10_isNear_101 : decode cX10_isNear 101 = .ok (.lastore, 1) := by decide +kernel
theorem dX10_isNear_102 : decode cX10_isNear 102 = .ok (.aload_n 0, 1) := by decide +kernel
theorem dX10_isNear_103 : decode cX10_isNear 103 = .ok (.iconst 0, 1) := by decide +kernel
theorem dX10_isNear_104 : decode cX10_isNear 104 = .ok (.putfield 472, 3) := by decide +kernel
theorem dX10_isNear_107 : decode cX10_isNear 107 = .ok (.iconst 0, 1) := by decide +kernel
theorem dX10_isNear_108 : decode cX10_isNear 108 = .ok (.istore 5, 2) := by decide +kernel
theorem dX10_isNear_110 : decode cX10_isNear 110 = .ok (.iload 5, 2) := by decide +kernel
theorem dX10_isNear_112 : decode cX10_isNear 112 = .ok (.aload_n 0, 1) := by decide +kernel
theorem dX10_isNear_113 : decode cX10_isNear 113 = .ok (.getfield 352, 3) := by decide +kernel
theorem dX10_isNear_116 : decode cX10_isNear 116 = .ok (.if_icmp .ge 88, 3) := by decide +kernel
theorem dX10_isNear_119 : decode cX10_isNear 119 = .ok (.aload_n 0, 1) := by decide +kernel
theorem dX10_isNear_120 : decode cX10_isNear 120 = .ok (.getfield 70, 3) := by decide +kernel
theorem dX10_isNear_123 : decode cX10_isNear 123 = .ok (.iload 5, 2) := by decide +kernel
theorem dX10_isNear_125 : decode cX10_isNear 125 = .ok (.iaload, 1) := by decide +kernel
theorem dX10_isNear_126 : decode cX10_isNear 126 = .ok (.iconst 2, 1) := by decide +kernel
theorem dX10_isNear_127 : decode cX10_isNear 127 = .ok (.if_icmp .ne 19, 3) := by decide +kernel
theorem dX10_isNear_130 : decode cX10_isNear 130 = .ok (.aload_n 0, 1) := by decide +kernel
theorem dX10_isNear_131 : decode cX10_isNear 131 = .ok (.aload_n 0, 1) := by decide +kernel
theorem dX10_isNear_132 : decode cX10_isNear 132 = .ok (.getfield 73, 3) := by decide +kernel
theorem dX10_isNear_135 : decode cX10_isNear 135 = .ok (.iload 5, 2) := by decide +kernel
theorem dX10_isNear_137 : decode cX10_isNear 137 = .ok (.iaload, 1) := by decide +kernel
theorem dX10_isNear_138 : decode cX10_isNear 138 = .ok (.invokevirtual 486, 3) := by decide +kernel
theorem dX10_isNear_141 : decode cX10_isNear 141 = .ok (.ifCond .ne 57, 3) := by decide +kernel
theorem dX10_isNear_144 : decode cX10_isNear 144 = .ok (.iconst 0, 1) := by decide +kernel
theorem dX10_isNear_145 : decode cX10_isNear 145 = .ok (.ireturn, 1) := by decide +kernel
theorem dX10_isNear_146 : decode cX10_isNear 146 = .ok (.aload_n 0, 1) := by decide +kernel
theorem dX10_isNear_147 : decode cX10_isNear 147 = .ok (.getfield 137, 3) := by decide +kernel
theorem dX10_isNear_150 : decode cX10_isNear 150 = .ok (.aload_n 0, 1) := by decide +kernel
theorem dX10_isNear_151 : decode cX10_isNear 151 = .ok (.getfield 472, 3) := by decide +kernel
theorem dX10_isNear_154 : decode cX10_isNear 154 = .ok (.aload_n 0, 1) := by decide +kernel
theorem dX10_isNear_155 : decode cX10_isNear 155 = .ok (.getfield 70, 3) := by decide +kernel
theorem dX10_isNear_158 : decode cX10_isNear 158 = .ok (.iload 5, 2) := by decide +kernel
theorem dX10_isNear_160 : decode cX10_isNear 160 = .ok (.iaload, 1) := by decide +kernel
theorem dX10_isNear_161 : decode cX10_isNear 161 = .ok (.ifCond .ne 14, 3) := by decide +kernel
theorem dX10_isNear_164 : decode cX10_isNear 164 = .ok (.aload_n 0, 1) := by decide +kernel
theorem dX10_isNear_165 : decode cX10_isNear 165 = .ok (.getfield 73, 3) := by decide +kernel
theorem dX10_isNear_168 : decode cX10_isNear 168 = .ok (.iload 5, 2) := by decide +kernel
theorem dX10_isNear_170 : decode cX10_isNear 170 = .ok (.iaload, 1) := by decide +kernel
theorem dX10_isNear_171 : decode cX10_isNear 171 = .ok (.i2l, 1) := by decide +kernel
theorem dX10_isNear_172 : decode cX10_isNear 172 = .ok (.goto 15, 3) := by decide +kernel
theorem dX10_isNear_175 : decode cX10_isNear 175 = .ok (.aload_n 0, 1) := by decide +kernel
theorem dX10_isNear_176 : decode cX10_isNear 176 = .ok (.getfield 141, 3) := by decide +kernel
theorem dX10_isNear_179 : decode cX10_isNear 179 = .ok (.aload_n 0, 1) := by decide +kernel
theorem dX10_isNear_180 : decode cX10_isNear 180 = .ok (.getfield 73, 3) := by decide +kernel
theorem dX10_isNear_183 : decode cX10_isNear 183 = .ok (.iload 5, 2) := by decide +kernel
theorem dX10_isNear_185 : decode cX10_isNear 185 = .ok (.iaload, 1) := by decide +kernel
theorem dX10_isNear_186 : decode cX10_isNear 186 = .ok (.laload, 1) := by decide +kernel
theorem dX10_isNear_187 : decode cX10_isNear 187 = .ok (.lastore, 1) := by decide +kernel
theorem dX10_isNear_188 : decode cX10_isNear 188 = .ok (.aload_n 0, 1) := by decide +kernel
theorem dX10_isNear_189 : decode cX10_isNear 189 = .ok (.dup, 1) := by decide +kernel
theorem dX10_isNear_190 : decode cX10_isNear 190 = .ok (.getfield 472, 3) := by decide +kernel
theorem dX10_isNear_193 : decode cX10_isNear 193 = .ok (.iconst 1, 1) := by decide +kernel
theorem dX10_isNear_194 : decode cX10_isNear 194 = .ok (.iadd, 1) := by decide +kernel
theorem dX10_isNear_195 : decode cX10_isNear 195 = .ok (.putfield 472, 3) := by decide +kernel
theorem dX10_isNear_198 : decode cX10_isNear 198 = .ok (.iinc 5 1, 3) := by decide +kernel
theorem dX10_isNear_201 : decode cX10_isNear 201 = .ok (.goto (-91), 3) := by decide +kernel
theorem dX10_isNear_204 : decode cX10_isNear 204 = .ok (.aload_n 0, 1) := by decide +kernel
theorem dX10_isNear_205 : decode cX10_isNear 205 = .ok (.getfield 137, 3) := by decide +kernel
theorem dX10_isNear_208 : decode cX10_isNear 208 = .ok (.iconst 0, 1) := by decide +kernel
theorem dX10_isNear_209 : decode cX10_isNear 209 = .ok (.laload, 1) := by decide +kernel
theorem dX10_isNear_210 : decode cX10_isNear 210 = .ok (.lconst 0, 1) := by decide +kernel
theorem dX10_isNear_211 : decode cX10_isNear 211 = .ok (.lcmp, 1) := by decide +kernel
theorem dX10_isNear_212 : decode cX10_isNear 212 = .ok (.ifCond .eq 7, 3) := by decide +kernel
theorem dX10_isNear_215 : decode cX10_isNear 215 = .ok (.iconst 1, 1) := by decide +kernel
theorem dX10_isNear_216 : decode cX10_isNear 216 = .ok (.goto 4, 3) := by decide +kernel
theorem dX10_isNear_219 : decode cX10_isNear 219 = .ok (.iconst 0, 1) := by decide +kernel
theorem dX10_isNear_220 : decode cX10_isNear 220 = .ok (.ireturn, 1) := by decide +kernel
theorem dX10_near_0 : decode cX10_near 0 = .ok (.aload_n 0, 1) := by decide +kernel
theorem dX10_near_1 : decode cX10_near 1 = .ok (.iconst 0, 1) := by decide +kernel
theorem dX10_near_2 : decode cX10_near 2 = .ok (.putfield 153, 3) := by decide +kernel
theorem dX10_near_5 : decode cX10_near 5 = .ok (.iload_n 1, 1) := by decide +kernel
theorem dX10_near_6 : decode cX10_near 6 = .ok (.invokestatic 460, 3) := by decide +kernel
theorem dX10_near_9 : decode cX10_near 9 = .ok (.ifCond .ne 5, 3) := by decide +kernel
theorem dX10_near_12 : decode cX10_near 12 = .ok (.iconst (-1), 1) := by decide +kernel
theorem dX10_near_13 : decode cX10_near 13 = .ok (.ireturn, 1) := by decide +kernel
theorem dX10_near_14 : decode cX10_near 14 = .ok (.aload_n 0, 1) := by decide +kernel
theorem dX10_near_15 : decode cX10_near 15 = .ok (.invokevirtual 440, 3) := by decide +kernel
theorem dX10_near_18 : decode cX10_near 18 = .ok (.iconst 0, 1) := by decide +kernel
theorem dX10_near_19 : decode cX10_near 19 = .ok (.istore_n 2, 1) := by decide +kernel
theorem dX10_near_20 : decode cX10_near 20 = .ok (.iconst 0, 1) := by decide +kernel
theorem dX10_near_21 : decode cX10_near 21 = .ok (.istore_n 3, 1) := by decide +kernel
theorem dX10_near_22 : decode cX10_near 22 = .ok (.iload_n 3, 1) := by decide +kernel
theorem dX10_near_23 : decode cX10_near 23 = .ok (.aload_n 0, 1) := by decide +kernel
theorem dX10_near_24 : decode cX10_near 24 = .ok (.getfield 340, 3) := by decide +kernel
theorem dX10_near_27 : decode cX10_near 27 = .ok (.if_icmp .ge 37, 3) := by decide +kernel
theorem dX10_near_30 : decode cX10_near 30 = .ok (.aload_n 0, 1) := by decide +kernel
theorem dX10_near_31 : decode cX10_near 31 = .ok (.iload_n 3, 1) := by decide +kernel
theorem dX10_near_32 : decode cX10_near 32 = .ok (.invokevirtual 443, 3) := by decide +kernel
theorem dX10_near_35 : decode cX10_near 35 = .ok (.ifCond .eq 23, 3) := by decide +kernel
theorem dX10_near_38 : decode cX10_near 38 = .ok (.aload_n 0, 1) := by decide +kernel
theorem dX10_near_39 : decode cX10_near 39 = .ok (.iload_n 3, 1) := by decide +kernel
theorem dX10_near_40 : decode cX10_near 40 = .ok (.aload_n 0, 1) := by decide +kernel
theorem dX10_near_41 : decode cX10_near 41 = .ok (.iload_n 3, 1) := by decide +kernel
theorem dX10_near_42 : decode cX10_near 42 = .ok (.invokevirtual 446, 3) := by decide +kernel
theorem dX10_near_45 : decode cX10_near 45 = .ok (.iload_n 1, 1) := by decide +kernel
theorem dX10_near_46 : decode cX10_near 46 = .ok (.invokevirtual 489, 3) := by decide +kernel
theorem dX10_near_49 : decode cX10_near 49 = .ok (.ifCond .eq 9, 3) := by decide +kernel
theorem dX10_near_52 : decode cX10_near 52 = .ok (.iload_n 2, 1) := by decide +kernel
theorem dX10_near_53 : decode cX10_near 53 = .ok (.iconst 1, 1) := by decide +kernel
theorem dX10_near_54 : decode cX10_near 54 = .ok (.iload_n 3, 1) := by decide +kernel
theorem dX10_near_55 : decode cX10_near 55 = .ok (.ishl, 1) := by decide +kernel
theorem dX10_near_56 : decode cX10_near 56 = .ok (.ior, 1) := by decide +kernel
theorem dX10_near_57 : decode cX10_near 57 = .ok (.istore_n 2, 1) := by decide +kernel
theorem dX10_near_58 : decode cX10_near 58 = .ok (.iinc 3 1, 3) := by decide +kernel
theorem dX10_near_61 : decode cX10_near 61 = .ok (.goto (-39), 3) := by decide +kernel
theorem dX10_near_64 : decode cX10_near 64 = .ok (.iload_n 2, 1) := by decide +kernel
theorem dX10_near_65 : decode cX10_near 65 = .ok (.ireturn, 1) := by decide +kernel
theorem dX10_reckon_0 : decode cX10_reckon 0 = .ok (.iconst 0, 1) := by decide +kernel
theorem dX10_reckon_1 : decode cX10_reckon 1 = .ok (.istore_n 3, 1) := by decide +kernel
theorem dX10_reckon_2 : decode cX10_reckon 2 = .ok (.iload_n 3, 1) := by decide +kernel
theorem dX10_reckon_3 : decode cX10_reckon 3 = .ok (.aload_n 0, 1) := by decide +kernel
theorem dX10_reckon_4 : decode cX10_reckon 4 = .ok (.getfield 340, 3) := by decide +kernel
theorem dX10_reckon_7 : decode cX10_reckon 7 = .ok (.if_icmp .ge 76, 3) := by decide +kernel
theorem dX10_reckon_10 : decode cX10_reckon 10 = .ok (.aload_n 0, 1) := by decide +kernel
theorem dX10_reckon_11 : decode cX10_reckon 11 = .ok (.iload_n 3, 1) := by decide +kernel
theorem dX10_reckon_12 : decode cX10_reckon 12 = .ok (.invokevirtual 443, 3) := by decide +kernel
theorem dX10_reckon_15 : decode cX10_reckon 15 = .ok (.ifCond .eq 39, 3) := by decide +kernel
theorem dX10_reckon_18 : decode cX10_reckon 18 = .ok (.iload_n 1, 1) := by decide +kernel
theorem dX10_reckon_19 : decode cX10_reckon 19 = .ok (.iconst (-1), 1) := by decide +kernel
theorem dX10_reckon_20 : decode cX10_reckon 20 = .ok (.if_icmp .eq 13, 3) := by decide +kernel
theorem dX10_reckon_23 : decode cX10_reckon 23 = .ok (.aload_n 0, 1) := by decide +kernel
theorem dX10_reckon_24 : decode cX10_reckon 24 = .ok (.getfield 21, 3) := by decide +kernel
theorem dX10_reckon_27 : decode cX10_reckon 27 = .ok (.iload_n 3, 1) := by decide +kernel
theorem dX10_reckon_28 : decode cX10_reckon 28 = .ok (.iaload, 1) := by decide +kernel
theorem dX10_reckon_29 : decode cX10_reckon 29 = .ok (.iload_n 1, 1) := by decide +kernel
theorem dX10_reckon_30 : decode cX10_reckon 30 = .ok (.if_icmp .ne 24, 3) := by decide +kernel
theorem dX10_reckon_33 : decode cX10_reckon 33 = .ok (.iload_n 2, 1) := by decide +kernel
theorem dX10_reckon_34 : decode cX10_reckon 34 = .ok (.iconst (-1), 1) := by decide +kernel
theorem dX10_reckon_35 : decode cX10_reckon 35 = .ok (.if_icmp .eq 15, 3) := by decide +kernel
theorem dX10_reckon_38 : decode cX10_reckon 38 = .ok (.aload_n 0, 1) := by decide +kernel
theorem dX10_reckon_39 : decode cX10_reckon 39 = .ok (.getfield 131, 3) := by decide +kernel
theorem dX10_reckon_42 : decode cX10_reckon 42 = .ok (.iload_n 3, 1) := by decide +kernel
theorem dX10_reckon_43 : decode cX10_reckon 43 = .ok (.iaload, 1) := by decide +kernel
theorem dX10_reckon_44 : decode cX10_reckon 44 = .ok (.iconst 4, 1) := by decide +kernel
theorem dX10_reckon_45 : decode cX10_reckon 45 = .ok (.idiv, 1) := by decide +kernel
theorem dX10_reckon_46 : decode cX10_reckon 46 = .ok (.iload_n 2, 1) := by decide +kernel
theorem dX10_reckon_47 : decode cX10_reckon 47 = .ok (.if_icmp .ne 7, 3) := by decide +kernel
theorem dX10_reckon_50 : decode cX10_reckon 50 = .ok (.iconst 1, 1) := by decide +kernel
theorem dX10_reckon_51 : decode cX10_reckon 51 = .ok (.goto 4, 3) := by decide +kernel
theorem dX10_reckon_54 : decode cX10_reckon 54 = .ok (.iconst 0, 1) := by decide +kernel
theorem dX10_reckon_55 : decode cX10_reckon 55 = .ok (.istore 4, 2) := by decide +kernel
theorem dX10_reckon_57 : decode cX10_reckon 57 = .ok (.aload_n 0, 1) := by decide +kernel
theorem dX10_reckon_58 : decode cX10_reckon 58 = .ok (.getfield 144, 3) := by decide +kernel
theorem dX10_reckon_61 : decode cX10_reckon 61 = .ok (.iload_n 3, 1) := by decide +kernel
theorem dX10_reckon_62 : decode cX10_reckon 62 = .ok (.iload 4, 2) := by decide +kernel
theorem dX10_reckon_64 : decode cX10_reckon 64 = .ok (.ifCond .eq 11, 3) := by decide +kernel
theorem dX10_reckon_67 : decode cX10_reckon 67 = .ok (.aload_n 0, 1) := by decide +kernel
theorem dX10_reckon_68 : decode cX10_reckon 68 = .ok (.iload_n 3, 1) := by decide +kernel
theorem dX10_reckon_69 : decode cX10_reckon 69 = .ok (.invokevirtual 446, 3) := by decide +kernel
theorem dX10_reckon_72 : decode cX10_reckon 72 = .ok (.goto 4, 3) := by decide +kernel
theorem dX10_reckon_75 : decode cX10_reckon 75 = .ok (.iconst (-1), 1) := by decide +kernel
theorem dX10_reckon_76 : decode cX10_reckon 76 = .ok (.iastore, 1) := by decide +kernel
theorem dX10_reckon_77 : decode cX10_reckon 77 = .ok (.iinc 3 1, 3) := by decide +kernel
theorem dX10_reckon_80 : decode cX10_reckon 80 = .ok (.goto (-78), 3) := by decide +kernel
theorem dX10_reckon_83 : decode cX10_reckon 83 = .ok (.return_, 1) := by decide +kernel
theorem dX10_reckonedMany_0 : decode cX10_reckonedMany 0 = .ok (.iconst 0, 1) := by decide +kernel
theorem dX10_reckonedMany_1 : decode cX10_reckonedMany 1 = .ok (.istore_n 1, 1) := by decide +kernel
theorem dX10_reckonedMany_2 : decode cX10_reckonedMany 2 = .ok (.iconst 0, 1) := by decide +kernel
theorem dX10_reckonedMany_3 : decode cX10_reckonedMany 3 = .ok (.istore_n 2, 1) := by decide +kernel
theorem dX10_reckonedMany_4 : decode cX10_reckonedMany 4 = .ok (.iload_n 2, 1) := by decide +kernel
theorem dX10_reckonedMany_5 : decode cX10_reckonedMany 5 = .ok (.aload_n 0, 1) := by decide +kernel
theorem dX10_reckonedMany_6 : decode cX10_reckonedMany 6 = .ok (.getfield 340, 3) := by decide +kernel
theorem dX10_reckonedMany_9 : decode cX10_reckonedMany 9 = .ok (.if_icmp .ge 27, 3) := by decide +kernel
theorem dX10_reckonedMany_12 : decode cX10_reckonedMany 12 = .ok (.iload_n 1, 1) := by decide +kernel
theorem dX10_reckonedMany_13 : decode cX10_reckonedMany 13 = .ok (.aload_n 0, 1) := by decide +kernel
theorem dX10_reckonedMany_14 : decode cX10_reckonedMany 14 = .ok (.getfield 144, 3) := by decide +kernel
theorem dX10_reckonedMany_17 : decode cX10_reckonedMany 17 = .ok (.iload_n 2, 1) := by decide +kernel
theorem dX10_reckonedMany_18 : decode cX10_reckonedMany 18 = .ok (.iaload, 1) := by decide +kernel
theorem dX10_reckonedMany_19 : decode cX10_reckonedMany 19 = .ok (.iconst (-1), 1) := by decide +kernel
theorem dX10_reckonedMany_20 : decode cX10_reckonedMany 20 = .ok (.if_icmp .eq 7, 3) := by decide +kernel
theorem dX10_reckonedMany_23 : decode cX10_reckonedMany 23 = .ok (.iconst 1, 1) := by decide +kernel
theorem dX10_reckonedMany_24 : decode cX10_reckonedMany 24 = .ok (.goto 4, 3) := by decide +kernel
theorem dX10_reckonedMany_27 : decode cX10_reckonedMany 27 = .ok (.iconst 0, 1) := by decide +kernel
theorem dX10_reckonedMany_28 : decode cX10_reckonedMany 28 = .ok (.iadd, 1) := by decide +kernel
theorem dX10_reckonedMany_29 : decode cX10_reckonedMany 29 = .ok (.istore_n 1, 1) := by decide +kernel
theorem dX10_reckonedMany_30 : decode cX10_reckonedMany 30 = .ok (.iinc 2 1, 3) := by decide +kernel
theorem dX10_reckonedMany_33 : decode cX10_reckonedMany 33 = .ok (.goto (-29), 3) := by decide +kernel
