theorem dX10_reckonedMany_36 : decode cX10_reckonedMany 36 = .ok (.iload_n 1, 1) := by decide +kernel
theorem dX10_reckonedMany_37 : decode cX10_reckonedMany 37 = .ok (.ireturn, 1) := by decide +kernel
theorem dX10_lumpsOf_0 : decode cX10_lumpsOf 0 = .ok (.aload_n 0, 1) := by decide +kernel
theorem dX10_lumpsOf_1 : decode cX10_lumpsOf 1 = .ok (.iload_n 1, 1) := by decide +kernel
theorem dX10_lumpsOf_2 : decode cX10_lumpsOf 2 = .ok (.invokevirtual 463, 3) := by decide +kernel
theorem dX10_lumpsOf_5 : decode cX10_lumpsOf 5 = .ok (.istore_n 2, 1) := by decide +kernel
theorem dX10_lumpsOf_6 : decode cX10_lumpsOf 6 = .ok (.iconst 0, 1) := by decide +kernel
theorem dX10_lumpsOf_7 : decode cX10_lumpsOf 7 = .ok (.istore_n 3, 1) := by decide +kernel
theorem dX10_lumpsOf_8 : decode cX10_lumpsOf 8 = .ok (.iconst 0, 1) := by decide +kernel
theorem dX10_lumpsOf_9 : decode cX10_lumpsOf 9 = .ok (.istore 4, 2) := by decide +kernel
theorem dX10_lumpsOf_11 : decode cX10_lumpsOf 11 = .ok (.iload 4, 2) := by decide +kernel
theorem dX10_lumpsOf_13 : decode cX10_lumpsOf 13 = .ok (.aload_n 0, 1) := by decide +kernel
theorem dX10_lumpsOf_14 : decode cX10_lumpsOf 14 = .ok (.getfield 340, 3) := by decide +kernel
theorem dX10_lumpsOf_17 : decode cX10_lumpsOf 17 = .ok (.if_icmp .ge 40, 3) := by decide +kernel
theorem dX10_lumpsOf_20 : decode cX10_lumpsOf 20 = .ok (.aload_n 0, 1) := by decide +kernel
theorem dX10_lumpsOf_21 : decode cX10_lumpsOf 21 = .ok (.getfield 144, 3) := by decide +kernel
theorem dX10_lumpsOf_24 : decode cX10_lumpsOf 24 = .ok (.iload 4, 2) := by decide +kernel
theorem dX10_lumpsOf_26 : decode cX10_lumpsOf 26 = .ok (.iaload, 1) := by decide +kernel
theorem dX10_lumpsOf_27 : decode cX10_lumpsOf 27 = .ok (.iconst (-1), 1) := by decide +kernel
theorem dX10_lumpsOf_28 : decode cX10_lumpsOf 28 = .ok (.if_icmp .eq 23, 3) := by decide +kernel
theorem dX10_lumpsOf_31 : decode cX10_lumpsOf 31 = .ok (.iload_n 3, 1) := by decide +kernel
theorem dX10_lumpsOf_32 : decode cX10_lumpsOf 32 = .ok (.sipush 4000, 3) := by decide +kernel
theorem dX10_lumpsOf_35 : decode cX10_lumpsOf 35 = .ok (.aload_n 0, 1) := by decide +kernel
theorem dX10_lumpsOf_36 : decode cX10_lumpsOf 36 = .ok (.getfield 144, 3) := by decide +kernel
theorem dX10_lumpsOf_39 : decode cX10_lumpsOf 39 = .ok (.iload 4, 2) := by decide +kernel
theorem dX10_lumpsOf_41 : decode cX10_lumpsOf 41 = .ok (.iaload, 1) := by decide +kernel
theorem dX10_lumpsOf_42 : decode cX10_lumpsOf 42 = .ok (.iload_n 2, 1) := by decide +kernel
theorem dX10_lumpsOf_43 : decode cX10_lumpsOf 43 = .ok (.invokestatic 466, 3) := by decide +kernel
theorem dX10_lumpsOf_46 : decode cX10_lumpsOf 46 = .ok (.imul, 1) := by decide +kernel
theorem dX10_lumpsOf_47 : decode cX10_lumpsOf 47 = .ok (.iload_n 2, 1) := by decide +kernel
theorem dX10_lumpsOf_48 : decode cX10_lumpsOf 48 = .ok (.idiv, 1) := by decide +kernel
theorem dX10_lumpsOf_49 : decode cX10_lumpsOf 49 = .ok (.iadd, 1) := by decide +kernel
theorem dX10_lumpsOf_50 : decode cX10_lumpsOf 50 = .ok (.istore_n 3, 1) := by decide +kernel
theorem dX10_lumpsOf_51 : decode cX10_lumpsOf 51 = .ok (.iinc 4 1, 3) := by decide +kernel
theorem dX10_lumpsOf_54 : decode cX10_lumpsOf 54 = .ok (.goto (-43), 3) := by decide +kernel
theorem dX10_lumpsOf_57 : decode cX10_lumpsOf 57 = .ok (.iload_n 3, 1) := by decide +kernel
theorem dX10_lumpsOf_58 : decode cX10_lumpsOf 58 = .ok (.ireturn, 1) := by decide +kernel
theorem dX10_lumps_0 : decode cX10_lumps 0 = .ok (.aload_n 0, 1) := by decide +kernel
theorem dX10_lumps_1 : decode cX10_lumps 1 = .ok (.iconst 0, 1) := by decide +kernel
theorem dX10_lumps_2 : decode cX10_lumps 2 = .ok (.putfield 153, 3) := by decide +kernel
theorem dX10_lumps_5 : decode cX10_lumps 5 = .ok (.iload_n 1, 1) := by decide +kernel
theorem dX10_lumps_6 : decode cX10_lumps 6 = .ok (.invokestatic 460, 3) := by decide +kernel
theorem dX10_lumps_9 : decode cX10_lumps 9 = .ok (.ifCond .ne 5, 3) := by decide +kernel
theorem dX10_lumps_12 : decode cX10_lumps 12 = .ok (.iconst (-1), 1) := by decide +kernel
theorem dX10_lumps_13 : decode cX10_lumps 13 = .ok (.ireturn, 1) := by decide +kernel
theorem dX10_lumps_14 : decode cX10_lumps 14 = .ok (.aload_n 0, 1) := by decide +kernel
theorem dX10_lumps_15 : decode cX10_lumps 15 = .ok (.invokevirtual 440, 3) := by decide +kernel
theorem dX10_lumps_18 : decode cX10_lumps 18 = .ok (.aload_n 0, 1) := by decide +kernel
theorem dX10_lumps_19 : decode cX10_lumps 19 = .ok (.iconst (-1), 1) := by decide +kernel
theorem dX10_lumps_20 : decode cX10_lumps 20 = .ok (.iconst (-1), 1) := by decide +kernel
theorem dX10_lumps_21 : decode cX10_lumps 21 = .ok (.invokevirtual 493, 3) := by decide +kernel
theorem dX10_lumps_24 : decode cX10_lumps 24 = .ok (.aload_n 0, 1) := by decide +kernel
theorem dX10_lumps_25 : decode cX10_lumps 25 = .ok (.iload_n 1, 1) := by decide +kernel
theorem dX10_lumps_26 : decode cX10_lumps 26 = .ok (.invokevirtual 496, 3) := by decide +kernel
theorem dX10_lumps_29 : decode cX10_lumps 29 = .ok (.ireturn, 1) := by decide +kernel
theorem dX10_areUnits_0 : decode cX10_areUnits 0 = .ok (.iload_n 0, 1) := by decide +kernel
theorem dX10_areUnits_1 : decode cX10_areUnits 1 = .ok (.invokestatic 460, 3) := by decide +kernel
theorem dX10_areUnits_4 : decode cX10_areUnits 4 = .ok (.ifCond .eq 42, 3) := by decide +kernel
theorem dX10_areUnits_7 : decode cX10_areUnits 7 = .ok (.iload_n 1, 1) := by decide +kernel
theorem dX10_areUnits_8 : decode cX10_areUnits 8 = .ok (.invokestatic 460, 3) := by decide +kernel
theorem dX10_areUnits_11 : decode cX10_areUnits 11 = .ok (.ifCond .eq 35, 3) := by decide +kernel
theorem dX10_areUnits_14 : decode cX10_areUnits 14 = .ok (.iload_n 0, 1) := by decide +kernel
theorem dX10_areUnits_15 : decode cX10_areUnits 15 = .ok (.iload_n 1, 1) := by decide +kernel
theorem dX10_areUnits_16 : decode cX10_areUnits 16 = .ok (.if_icmp .gt 30, 3) := by decide +kernel
theorem dX10_areUnits_19 : decode cX10_areUnits 19 = .ok (.iload_n 2, 1) := by decide +kernel
theorem dX10_areUnits_20 : decode cX10_areUnits 20 = .ok (.iconst 1, 1) := by decide +kernel
theorem dX10_areUnits_21 : decode cX10_areUnits 21 = .ok (.if_icmp .lt 25, 3) := by decide +kernel
theorem dX10_areUnits_24 : decode cX10_areUnits 24 = .ok (.iload_n 2, 1) := by decide +kernel
theorem dX10_areUnits_25 : decode cX10_areUnits 25 = .ok (.sipush 9999, 3) := by decide +kernel
theorem dX10_areUnits_28 : decode cX10_areUnits 28 = .ok (.if_icmp .gt 18, 3) := by decide +kernel
theorem dX10_areUnits_31 : decode cX10_areUnits 31 = .ok (.iload_n 1, 1) := by decide +kernel
theorem dX10_areUnits_32 : decode cX10_areUnits 32 = .ok (.iload_n 0, 1) := by decide +kernel
theorem dX10_areUnits_33 : decode cX10_areUnits 33 = .ok (.isub, 1) := by decide +kernel
theorem dX10_areUnits_34 : decode cX10_areUnits 34 = .ok (.iload_n 2, 1) := by decide +kernel
theorem dX10_areUnits_35 : decode cX10_areUnits 35 = .ok (.idiv, 1) := by decide +kernel
theorem dX10_areUnits_36 : decode cX10_areUnits 36 = .ok (.iconst 1, 1) := by decide +kernel
theorem dX10_areUnits_37 : decode cX10_areUnits 37 = .ok (.iadd, 1) := by decide +kernel
theorem dX10_areUnits_38 : decode cX10_areUnits 38 = .ok (.iload_n 3, 1) := by decide +kernel
theorem dX10_areUnits_39 : decode cX10_areUnits 39 = .ok (.if_icmp .gt 7, 3) := by decide +kernel
theorem dX10_areUnits_42 : decode cX10_areUnits 42 = .ok (.iconst 1, 1) := by decide +kernel
theorem dX10_areUnits_43 : decode cX10_areUnits 43 = .ok (.goto 4, 3) := by decide +kernel
theorem dX10_areUnits_46 : decode cX10_areUnits 46 = .ok (.iconst 0, 1) := by decide +kernel
theorem dX10_areUnits_47 : decode cX10_areUnits 47 = .ok (.ireturn, 1) := by decide +kernel
theorem dX10_bestOf_0 : decode cX10_bestOf 0 = .ok (.iload_n 1, 1) := by decide +kernel
theorem dX10_bestOf_1 : decode cX10_bestOf 1 = .ok (.istore 4, 2) := by decide +kernel
theorem dX10_bestOf_3 : decode cX10_bestOf 3 = .ok (.aload_n 0, 1) := by decide +kernel
theorem dX10_bestOf_4 : decode cX10_bestOf 4 = .ok (.iload_n 1, 1) := by decide +kernel
theorem dX10_bestOf_5 : decode cX10_bestOf 5 = .ok (.invokevirtual 496, 3) := by decide +kernel
theorem dX10_bestOf_8 : decode cX10_bestOf 8 = .ok (.istore 5, 2) := by decide +kernel
theorem dX10_bestOf_10 : decode cX10_bestOf 10 = .ok (.iload_n 1, 1) := by decide +kernel
theorem dX10_bestOf_11 : decode cX10_bestOf 11 = .ok (.istore 6, 2) := by decide +kernel
theorem dX10_bestOf_13 : decode cX10_bestOf 13 = .ok (.iload 6, 2) := by decide +kernel
theorem dX10_bestOf_15 : decode cX10_bestOf 15 = .ok (.iload_n 2, 1) := by decide +kernel
theorem dX10_bestOf_16 : decode cX10_bestOf 16 = .ok (.if_icmp .gt 38, 3) := by decide +kernel
theorem dX10_bestOf_19 : decode cX10_bestOf 19 = .ok (.aload_n 0, 1) := by decide +kernel
theorem dX10_bestOf_20 : decode cX10_bestOf 20 = .ok (.iload 6, 2) := by decide +kernel
theorem dX10_bestOf_22 : decode cX10_bestOf 22 = .ok (.invokevirtual 496, 3) := by decide +kernel
theorem dX10_bestOf_25 : decode cX10_bestOf 25 = .ok (.istore 7, 2) := by decide +kernel
theorem dX10_bestOf_27 : decode cX10_bestOf 27 = .ok (.iload 7, 2) := by decide +kernel
theorem dX10_bestOf_29 : decode cX10_bestOf 29 = .ok (.iload 5, 2) := by decide +kernel
theorem dX10_bestOf_31 : decode cX10_bestOf 31 = .ok (.if_icmp .lt 6, 3) := by decide +kernel
theorem dX10_bestOf_34 : decode cX10_bestOf 34 = .ok (.goto 11, 3) := by decide +kernel
theorem dX10_bestOf_37 : decode cX10_bestOf 37 = .ok (.iload 6, 2) := by decide +kernel
theorem dX10_bestOf_39 : decode cX10_bestOf 39 = .ok (.istore 4, 2) := by decide +kernel
theorem dX10_bestOf_41 : decode cX10_bestOf 41 = .ok (.iload 7, 2) := by decide +kernel
theorem dX10_bestOf_43 : decode cX10_bestOf 43 = .ok (.istore 5, 2) := by decide +kernel
theorem dX10_bestOf_45 : decode cX10_bestOf 45 = .ok (.iload 6, 2) := by decide +kernel
theorem dX10_bestOf_47 : decode cX10_bestOf 47 = .ok (.iload_n 3, 1) := by decide +kernel
theorem dX10_bestOf_48 : decode cX10_bestOf 48 = .ok (.iadd, 1) := by decide +kernel
theorem dX10_bestOf_49 : decode cX10_bestOf 49 = .ok (.istore 6, 2) := by decide +kernel
theorem dX10_bestOf_51 : decode cX10_bestOf 51 = .ok (.goto (-38), 3) := by decide +kernel
theorem dX10_bestOf_54 : decode cX10_bestOf 54 = .ok (.iload 4, 2) := by decide +kernel
theorem dX10_bestOf_56 : decode cX10_bestOf 56 = .ok (.ireturn, 1) := by decide +kernel
theorem dX10_unit_0 : decode cX10_unit 0 = .ok (.aload_n 0, 1) := by decide +kernel
theorem dX10_unit_1 : decode cX10_unit 1 = .ok (.iconst 0, 1) := by decide +kernel
theorem dX10_unit_2 : decode cX10_unit 2 = .ok (.putfield 153, 3) := by decide +kernel
theorem dX10_unit_5 : decode cX10_unit 5 = .ok (.iload_n 1, 1) := by decide +kernel
theorem dX10_unit_6 : decode cX10_unit 6 = .ok (.iload_n 2, 1) := by decide +kernel
theorem dX10_unit_7 : decode cX10_unit 7 = .ok (.iload_n 3, 1) := by decide +kernel
theorem dX10_unit_8 : decode cX10_unit 8 = .ok (.sipush 1000, 3) := by decide +kernel
theorem dX10_unit_11 : decode cX10_unit 11 = .ok (.invokestatic 499, 3) := by decide +kernel
theorem dX10_unit_14 : decode cX10_unit 14 = .ok (.ifCond .eq 14, 3) := by decide +kernel
theorem dX10_unit_17 : decode cX10_unit 17 = .ok (.iload 4, 2) := by decide +kernel
theorem dX10_unit_19 : decode cX10_unit 19 = .ok (.ifCond .lt 9, 3) := by decide +kernel
theorem dX10_unit_22 : decode cX10_unit 22 = .ok (.iload 4, 2) := by decide +kernel
theorem dX10_unit_24 : decode cX10_unit 24 = .ok (.iconst 2, 1) := by decide +kernel
theorem dX10_unit_25 : decode cX10_unit 25 = .ok (.if_icmp .le 5, 3) := by decide +kernel
theorem dX10_unit_28 : decode cX10_unit 28 = .ok (.iconst (-1), 1) := by decide +kernel
theorem dX10_unit_29 : decode cX10_unit 29 = .ok (.ireturn, 1) := by decide +kernel
theorem dX10_unit_30 : decode cX10_unit 30 = .ok (.aload_n 0, 1) := by decide +kernel
theorem dX10_unit_31 : decode cX10_unit 31 = .ok (.invokevirtual 440, 3) := by decide +kernel
theorem dX10_unit_34 : decode cX10_unit 34 = .ok (.aload_n 0, 1) := by decide +kernel
theorem dX10_unit_35 : decode cX10_unit 35 = .ok (.iconst (-1), 1) := by decide +kernel
theorem dX10_unit_36 : decode cX10_unit 36 = .ok (.iconst (-1), 1) := by decide +kernel
theorem dX10_unit_37 : decode cX10_unit 37 = .ok (.invokevirtual 493, 3) := by decide +kernel
theorem dX10_unit_40 : decode cX10_unit 40 = .ok (.aload_n 0, 1) := by decide +kernel
theorem dX10_unit_41 : decode cX10_unit 41 = .ok (.iload_n 1, 1) := by decide +kernel
theorem dX10_unit_42 : decode cX10_unit 42 = .ok (.iload_n 2, 1) := by decide +kernel
theorem dX10_unit_43 : decode cX10_unit 43 = .ok (.iload_n 3, 1) := by decide +kernel
theorem dX10_unit_44 : decode cX10_unit 44 = .ok (.invokevirtual 503, 3) := by decide +kernel
theorem dX10_unit_47 : decode cX10_unit 47 = .ok (.istore 5, 2) := by decide +kernel
theorem dX10_unit_49 : decode cX10_unit 49 = .ok (.iload 4, 2) := by decide +kernel
theorem dX10_unit_51 : decode cX10_unit 51 = .ok (.ifCond .ne 8, 3) := by decide +kernel
theorem dX10_unit_54 : decode cX10_unit 54 = .ok (.iload 5, 2) := by decide +kernel
theorem dX10_unit_56 : decode cX10_unit 56 = .ok (.goto 25, 3) := by decide +kernel
theorem dX10_unit_59 : decode cX10_unit 59 = .ok (.iload 4, 2) := by decide +kernel
theorem dX10_unit_61 : decode cX10_unit 61 = .ok (.iconst 1, 1) := by decide +kernel
theorem dX10_unit_62 : decode cX10_unit 62 = .ok (.if_icmp .ne 12, 3) := by decide +kernel
theorem dX10_unit_65 : decode cX10_unit 65 = .ok (.aload_n 0, 1) := by decide +kernel
theorem dX10_unit_66 : decode cX10_unit 66 = .ok (.iload 5, 2) := by decide +kernel
theorem dX10_unit_68 : decode cX10_unit 68 = .ok (.invokevirtual 496, 3) := by decide +kernel
theorem dX10_unit_71 : decode cX10_unit 71 = .ok (.goto 10, 3) := by decide +kernel
theorem dX10_unit_74 : decode cX10_unit 74 = .ok (.iload_n 2, 1) := by decide +kernel
theorem dX10_unit_75 : decode cX10_unit 75 = .ok (.iload_n 1, 1) := by decide +kernel
theorem dX10_unit_76 : decode cX10_unit 76 = .ok (.isub, 1) := by decide +kernel
theorem dX10_unit_77 : decode cX10_unit 77 = .ok (.iload_n 3, 1) := by decide +kernel
theorem dX10_unit_78 : decode cX10_unit 78 = .ok (.idiv, 1) := by decide +kernel
theorem dX10_unit_79 : decode cX10_unit 79 = .ok (.iconst 1, 1) := by decide +kernel
theorem dX10_unit_80 : decode cX10_unit 80 = .ok (.iadd, 1) := by decide +kernel
theorem dX10_unit_81 : decode cX10_unit 81 = .ok (.ireturn, 1) := by decide +kernel
theorem dX10_odds_0 : decode cX10_odds 0 = .ok (.aload_n 0, 1) := by decide +kernel
theorem dX10_odds_1 : decode cX10_odds 1 = .ok (.iconst 0, 1) := by decide +kernel
theorem dX10_odds_2 : decode cX10_odds 2 = .ok (.putfield 153, 3) := by decide +kernel
theorem dX10_odds_5 : decode cX10_odds 5 = .ok (.iload_n 1, 1) := by decide +kernel
theorem dX10_odds_6 : decode cX10_odds 6 = .ok (.invokestatic 460, 3) := by decide +kernel
theorem dX10_odds_9 : decode cX10_odds 9 = .ok (.ifCond .eq 7, 3) := by decide +kernel
theorem dX10_odds_12 : decode cX10_odds 12 = .ok (.iload_n 2, 1) := by decide +kernel
theorem dX10_odds_13 : decode cX10_odds 13 = .ok (.ifCond .ge 5, 3) := by decide +kernel
theorem dX10_odds_16 : decode cX10_odds 16 = .ok (.iconst (-1), 1) := by decide +kernel
theorem dX10_odds_17 : decode cX10_odds 17 = .ok (.ireturn, 1) := by decide +kernel
theorem dX10_odds_18 : decode cX10_odds 18 = .ok (.aload_n 0, 1) := by decide +kernel
theorem dX10_odds_19 : decode cX10_odds 19 = .ok (.invokevirtual 440, 3) := by decide +kernel
theorem dX10_odds_22 : decode cX10_odds 22 = .ok (.aload_n 0, 1) := by decide +kernel
theorem dX10_odds_23 : decode cX10_odds 23 = .ok (.iconst (-1), 1) := by decide +kernel
theorem dX10_odds_24 : decode cX10_odds 24 = .ok (.iconst (-1), 1) := by decide +kernel
theorem dX10_odds_25 : decode cX10_odds 25 = .ok (.invokevirtual 493, 3) := by decide +kernel
theorem dX10_odds_28 : decode cX10_odds 28 = .ok (.iload_n 2, 1) := by decide +kernel
theorem dX10_odds_29 : decode cX10_odds 29 = .ok (.aload_n 0, 1) := by decide +kernel
theorem dX10_odds_30 : decode cX10_odds 30 = .ok (.invokevirtual 507, 3) := by decide +kernel
theorem dX10_odds_33 : decode cX10_odds 33 = .ok (.if_icmp .le 5, 3) := by decide +kernel
theorem dX10_odds_36 : decode cX10_odds 36 = .ok (.iconst (-1), 1) := by decide +kernel
theorem dX10_odds_37 : decode cX10_odds 37 = .ok (.ireturn, 1) := by decide +kernel
theorem dX10_odds_38 : decode cX10_odds 38 = .ok (.aload_n 0, 1) := by decide +kernel
theorem dX10_odds_39 : decode cX10_odds 39 = .ok (.iload_n 1, 1) := by decide +kernel
theorem dX10_odds_40 : decode cX10_odds 40 = .ok (.invokevirtual 463, 3) := by decide +kernel
theorem dX10_odds_43 : decode cX10_odds 43 = .ok (.istore_n 3, 1) := by decide +kernel
theorem dX10_odds_44 : decode cX10_odds 44 = .ok (.iconst 0, 1) := by decide +kernel
theorem dX10_odds_45 : decode cX10_odds 45 = .ok (.istore 4, 2) := by decide +kernel
theorem dX10_odds_47 : decode cX10_odds 47 = .ok (.iload 4, 2) := by decide +kernel
theorem dX10_odds_49 : decode cX10_odds 49 = .ok (.bipush 8, 2) := by decide +kernel
theorem dX10_odds_51 : decode cX10_odds 51 = .ok (.if_icmp .gt 28, 3) := by decide +kernel
theorem dX10_odds_54 : decode cX10_odds 54 = .ok (.aload_n 0, 1) := by decide +kernel
theorem dX10_odds_55 : decode cX10_odds 55 = .ok (.getfield 147, 3) := by decide +kernel
theorem dX10_odds_58 : decode cX10_odds 58 = .ok (.iload 4, 2) := by decide +kernel
theorem dX10_odds_60 : decode cX10_odds 60 = .ok (.iload 4, 2) := by decide +kernel
theorem dX10_odds_62 : decode cX10_odds 62 = .ok (.ifCond .ne 9, 3) := by decide +kernel
theorem dX10_odds_65 : decode cX10_odds 65 = .ok (.ldc_w 510, 3) := by decide +kernel
theorem dX10_odds_68 : decode cX10_odds 68 = .ok (.goto 4, 3) := by decide +kernel
theorem dX10_odds_71 : decode cX10_odds 71 = .ok (.iconst 0, 1) := by decide +kernel
theorem dX10_odds_72 : decode cX10_odds 72 = .ok (.iastore, 1) := by decide +kernel
theorem dX10_odds_73 : decode cX10_odds 73 = .ok (.iinc 4 1, 3) := by decide +kernel
theorem dX10_odds_76 : decode cX10_odds 76 = .ok (.goto (-29), 3) := by decide +kernel
theorem dX10_odds_79 : decode cX10_odds 79 = .ok (.iconst 0, 1) := by decide +kernel
theorem dX10_odds_80 : decode cX10_odds 80 = .ok (.istore 4, 2) := by decide +kernel
theorem dX10_odds_82 : decode cX10_odds 82 = .ok (.iload 4, 2) := by decide +kernel
theorem dX10_odds_84 : decode cX10_odds 84 = .ok (.aload_n 0, 1) := by decide +kernel
theorem dX10_odds_85 : decode cX10_odds 85 = .ok (.getfield 340, 3) := by decide +kernel
theorem dX10_odds_88 : decode cX10_odds 88 = .ok (.if_icmp .ge 149, 3) := by decide +kernel
theorem dX10_odds_91 : decode cX10_odds 91 = .ok (.aload_n 0, 1) := by decide +kernel
theorem dX10_odds_92 : decode cX10_odds 92 = .ok (.iload 4, 2) := by decide +kernel
theorem dX10_odds_94 : decode cX10_odds 94 = .ok (.invokevirtual 443, 3) := by decide +kernel
theorem dX10_odds_97 : decode cX10_odds 97 = .ok (.ifCond .ne 6, 3) := by decide +kernel
theorem dX10_odds_100 : decode cX10_odds 100 = .ok (.goto 131, 3) := by decide +kernel
theorem dX10_odds_103 : decode cX10_odds 103 = .ok (.aload_n 0, 1) := by decide +kernel
theorem dX10_odds_104 : decode cX10_odds 104 = .ok (.iload 4, 2) := by decide +kernel
theorem dX10_odds_106 : decode cX10_odds 106 = .ok (.invokevirtual 446, 3) := by decide +kernel
theorem dX10_odds_109 : decode cX10_odds 109 = .ok (.aload_n 0, 1) := by decide +kernel
theorem dX10_odds_110 : decode cX10_odds 110 = .ok (.iload 4, 2) := by decide +kernel
theorem dX10_odds_112 : decode cX10_odds 112 = .ok (.invokevirtual 446, 3) := by decide +kernel
theorem dX10_odds_115 : decode cX10_odds 115 = .ok (.iload_n 3, 1) := by decide +kernel
theorem dX10_odds_116 : decode cX10_odds 116 = .ok (.irem, 1) := by decide +kernel
theorem dX10_odds_117 : decode cX10_odds 117 = .ok (.isub, 1) := by decide +kernel
theorem dX10_odds_118 : decode cX10_odds 118 = .ok (.istore 5, 2) := by decide +kernel
theorem dX10_odds_120 : decode cX10_odds 120 = .ok (.iconst 0, 1) := by decide +kernel
theorem dX10_odds_121 : decode cX10_odds 121 = .ok (.istore 6, 2) := by decide +kernel
theorem dX10_odds_123 : decode cX10_odds 123 = .ok (.iconst 0, 1) := by decide +kernel
theorem dX10_odds_124 : decode cX10_odds 124 = .ok (.istore 7, 2) := by decide +kernel
theorem dX10_odds_126 : decode cX10_odds 126 = .ok (.iload 7, 2) := by decide +kernel
theorem dX10_odds_128 : decode cX10_odds 128 = .ok (.iload_n 3, 1) := by decide +kernel
theorem dX10_odds_129 : decode cX10_odds 129 = .ok (.if_icmp .ge 34, 3) := by decide +kernel
theorem dX10_odds_132 : decode cX10_odds 132 = .ok (.iload 6, 2) := by decide +kernel
theorem dX10_odds_134 : decode cX10_odds 134 = .ok (.aload_n 0, 1) := by decide +kernel
theorem dX10_odds_135 : decode cX10_odds 135 = .ok (.iload 4, 2) := by decide +kernel
theorem dX10_odds_137 : decode cX10_odds 137 = .ok (.iload 5, 2) := by decide +kernel
theorem dX10_odds_139 : decode cX10_odds 139 = .ok (.iload 7, 2) := by decide +kernel
theorem dX10_odds_141 : decode cX10_odds 141 = .ok (.iadd, 1) := by decide +kernel
theorem dX10_odds_142 : decode cX10_odds 142 = .ok (.iload_n 1, 1) := by decide +kernel
theorem dX10_odds_143 : decode cX10_odds 143 = .ok (.invokevirtual 489, 3) := by decide +kernel
theorem dX10_odds_146 : decode cX10_odds 146 = .ok (.ifCond .eq 7, 3) := by decide +kernel
theorem dX10_odds_149 : decode cX10_odds 149 = .ok (.iconst 1, 1) := by decide +kernel
theorem dX10_odds_150 : decode cX10_odds 150 = .ok (.goto 4, 3) := by decide +kernel
theorem dX10_odds_153 : decode cX10_odds 153 = .ok (.iconst 0, 1) := by decide +kernel
theorem dX10_odds_154 : decode cX10_odds 154 = .ok (.iadd, 1) := by decide +kernel
theorem dX10_odds_155 : decode cX10_odds 155 = .ok (.istore 6, 2) := by decide +kernel
theorem dX10_odds_157 : decode cX10_odds 157 = .ok (.iinc 7 1, 3) := by decide +kernel
theorem dX10_odds_160 : decode cX10_odds 160 = .ok (.goto (-34), 3) := by decide +kernel
theorem dX10_odds_163 : decode cX10_odds 163 = .ok (.bipush 8, 2) := by decide +kernel
theorem dX10_odds_165 : decode cX10_odds 165 = .ok (.istore 7, 2) := by decide +kernel
theorem dX10_odds_167 : decode cX10_odds 167 = .ok (.iload 7, 2) := by decide +kernel
theorem dX10_odds_169 : decode cX10_odds 169 = .ok (.ifCond .lt 62, 3) := by decide +kernel
theorem dX10_odds_172 : decode cX10_odds 172 = .ok (.aload_n 0, 1) := by decide +kernel
theorem dX10_odds_173 : decode cX10_odds 173 = .ok (.getfield 147, 3) := by decide +kernel
theorem dX10_odds_176 : decode cX10_odds 176 = .ok (.iload 7, 2) := by decide +kernel
theorem dX10_odds_178 : decode cX10_odds 178 = .ok (.aload_n 0, 1) := by decide +kernel
theorem dX10_odds_179 : decode cX10_odds 179 = .ok (.getfield 147, 3) := by decide +kernel
theorem dX10_odds_182 : decode cX10_odds 182 = .ok (.iload 7, 2) := by decide +kernel
theorem dX10_odds_184 : decode cX10_odds 184 = .ok (.iaload, 1) := by decide +kernel
theorem dX10_odds_185 : decode cX10_odds 185 = .ok (.i2l, 1) := by decide +kernel
theorem dX10_odds_186 : decode cX10_odds 186 = .ok (.iload_n 3, 1) := by decide +kernel
theorem dX10_odds_187 : decode cX10_odds 187 = .ok (.iload 6, 2) := by decide +kernel
theorem dX10_odds_189 : decode cX10_odds 189 = .ok (.isub, 1) := by decide +kernel
theorem dX10_odds_190 : decode cX10_odds 190 = .ok (.i2l, 1) := by decide +kernel
theorem dX10_odds_191 : decode cX10_odds 191 = .ok (.lmul, 1) := by decide +kernel
theorem dX10_odds_192 : decode cX10_odds 192 = .ok (.iload_n 3, 1) := by decide +kernel
theorem dX10_odds_193 : decode cX10_odds 193 = .ok (.i2l, 1) := by decide +kernel
theorem dX10_odds_194 : decode cX10_odds 194 = .ok (.ldiv, 1) := by decide +kernel
theorem dX10_odds_195 : decode cX10_odds 195 = .ok (.l2i, 1) := by decide +kernel
theorem dX10_odds_196 : decode cX10_odds 196 = .ok (.iload 7, 2) := by decide +kernel
theorem dX10_odds_198 : decode cX10_odds 198 = .ok (.ifCond .le 24, 3) := by decide +kernel
theorem dX10_odds_201 : decode cX10_odds 201 = .ok (.aload_n 0, 1) := by decide +kernel
theorem dX10_odds_202 : decode cX10_odds 202 = .ok (.getfield 147, 3) := by decide +kernel
theorem dX10_odds_205 : decode cX10_odds 205 = .ok (.iload 7, 2) := by decide +kernel
theorem dX10_odds_207 : decode cX10_odds 207 = .ok (.iconst 1, 1) := by decide +kernel
theorem dX10_odds_208 : decode cX10_odds 208 = .ok (.isub, 1) := by decide +kernel
theorem dX10_odds_209 : decode cX10_odds 209 = .ok (.iaload, 1) := by decide +kernel
theorem dX10_odds_210 : decode cX10_odds 210 = .ok (.i2l, 1) := by decide +kernel
theorem dX10_odds_211 : decode cX10_odds 211 = .ok (.iload 6, 2) := by decide +kernel
theorem dX10_odds_213 : decode cX10_odds 213 = .ok (.i2l, 1) := by decide +kernel
theorem dX10_odds_214 : decode cX10_odds 214 = .ok (.lmul, 1) := by decide +kernel
theorem dX10_odds_215 : decode cX10_odds 215 = .ok (.iload_n 3, 1) := by decide +kernel
theorem dX10_odds_216 : decode cX10_odds 216 = .ok (.i2l, 1) := by decide +kernel
theorem dX10_odds_217 : decode cX10_odds 217 = .ok (.ldiv, 1) := by decide +kernel
theorem dX10_odds_218 : decode cX10_odds 218 = .ok (.l2i, 1) := by decide +kernel
theorem dX10_odds_219 : decode cX10_odds 219 = .ok (.goto 4, 3) := by decide +kernel
theorem dX10_odds_222 : decode cX10_odds 222 = .ok (.iconst 0, 1) := by decide +kernel
theorem dX10_odds_223 : decode cX10_odds 223 = .ok (.iadd, 1) := by decide +kernel
theorem dX10_odds_224 : decode cX10_odds 224 = .ok (.iastore, 1) := by decide +kernel
theorem dX10_odds_225 : decode cX10_odds 225 = .ok (.iinc 7 (-1), 3) := by decide +kernel
theorem dX10_odds_228 : decode cX10_odds 228 = .ok (.goto (-61), 3) := by decide +kernel
theorem dX10_odds_231 : decode cX10_odds 231 = .ok (.iinc 4 1, 3) := by decide +kernel
theorem dX10_odds_234 : decode cX10_odds 234 = .ok (.goto (-152), 3) := by decide +kernel
theorem dX10_odds_237 : decode cX10_odds 237 = .ok (.iconst 0, 1) := by decide +kernel
theorem dX10_odds_238 : decode cX10_odds 238 = .ok (.istore 4, 2) := by decide +kernel
theorem dX10_odds_240 : decode cX10_odds 240 = .ok (.iload_n 2, 1) := by decide +kernel
theorem dX10_odds_241 : decode cX10_odds 241 = .ok (.istore 5, 2) := by decide +kernel
theorem dX10_odds_243 : decode cX10_odds 243 = .ok (.iload 5, 2) := by decide +kernel
theorem dX10_odds_245 : decode cX10_odds 245 = .ok (.bipush 8, 2) := by decide +kernel
theorem dX10_odds_247 : decode cX10_odds 247 = .ok (.if_icmp .gt 21, 3) := by decide +kernel
theorem dX10_odds_250 : decode cX10_odds 250 = .ok (.iload 4, 2) := by decide +kernel
theorem dX10_odds_252 : decode cX10_odds 252 = .ok (.aload_n 0, 1) := by decide +kernel
theorem dX10_odds_253 : decode cX10_odds 253 = .ok (.getfield 147, 3) := by decide +kernel
theorem dX10_odds_256 : decode cX10_odds 256 = .ok (.iload 5, 2) := by decide +kernel
theorem dX10_odds_258 : decode cX10_odds 258 = .ok (.iaload, 1) := by decide +kernel
theorem dX10_odds_259 : decode cX10_odds 259 = .ok (.iadd, 1) := by decide +kernel
theorem dX10_odds_260 : decode cX10_odds 260 = .ok (.istore 4, 2) := by decide +kernel
theorem dX10_odds_262 : decode cX10_odds 262 = .ok (.iinc 5 1, 3) := by decide +kernel
theorem dX10_odds_265 : decode cX10_odds 265 = .ok (.goto (-22), 3) := by decide +kernel
theorem dX10_odds_268 : decode cX10_odds 268 = .ok (.iload 4, 2) := by decide +kernel
theorem dX10_odds_270 : decode cX10_odds 270 = .ok (.ireturn, 1) := by decide +kernel
theorem dX10_any_0 : decode cX10_any 0 = .ok (.aload_n 0, 1) := by decide +kernel
theorem dX10_any_1 : decode cX10_any 1 = .ok (.iconst 0, 1) := by decide +kernel
theorem dX10_any_2 : decode cX10_any 2 = .ok (.putfield 153, 3) := by decide +kernel
theorem dX10_any_5 : decode cX10_any 5 = .ok (.iload_n 1, 1) := by decide +kernel
theorem dX10_any_6 : decode cX10_any 6 = .ok (.iload_n 2, 1) := by decide +kernel
theorem dX10_any_7 : decode cX10_any 7 = .ok (.iload_n 3, 1) := by decide +kernel
theorem dX10_any_8 : decode cX10_any 8 = .ok (.bipush 100, 2) := by decide +kernel
theorem dX10_any_10 : decode cX10_any 10 = .ok (.invokestatic 499, 3) := by decide +kernel
theorem dX10_any_13 : decode cX10_any 13 = .ok (.ifCond .eq 34, 3) := by decide +kernel
theorem dX10_any_16 : decode cX10_any 16 = .ok (.iload 4, 2) := by decide +kernel
theorem dX10_any_18 : decode cX10_any 18 = .ok (.ifCond .lt 29, 3) := by decide +kernel
theorem dX10_any_21 : decode cX10_any 21 = .ok (.iload 4, 2) := by decide +kernel
theorem dX10_any_23 : decode cX10_any 23 = .ok (.sipush 9999, 3) := by decide +kernel
theorem dX10_any_26 : decode cX10_any 26 = .ok (.if_icmp .gt 21, 3) := by decide +kernel
theorem dX10_any_29 : decode cX10_any 29 = .ok (.iload 5, 2) := by decide +kernel
theorem dX10_any_31 : decode cX10_any 31 = .ok (.ifCond .lt 16, 3) := by decide +kernel
theorem dX10_any_34 : decode cX10_any 34 = .ok (.iload 6, 2) := by decide +kernel
theorem dX10_any_36 : decode cX10_any 36 = .ok (.iconst 1, 1) := by decide +kernel
theorem dX10_any_37 : decode cX10_any 37 = .ok (.if_icmp .lt 10, 3) := by decide +kernel
theorem dX10_any_40 : decode cX10_any 40 = .ok (.iload 6, 2) := by decide +kernel
theorem dX10_any_42 : decode cX10_any 42 = .ok (.bipush 50, 2) := by decide +kernel
theorem dX10_any_44 : decode cX10_any 44 = .ok (.if_icmp .le 5, 3) := by decide +kernel
theorem dX10_any_47 : decode cX10_any 47 = .ok (.iconst (-1), 1) := by decide +kernel
theorem dX10_any_48 : decode cX10_any 48 = .ok (.ireturn, 1) := by decide +kernel
theorem dX10_any_49 : decode cX10_any 49 = .ok (.aload_n 0, 1) := by decide +kernel
theorem dX10_any_50 : decode cX10_any 50 = .ok (.invokevirtual 440, 3) := by decide +kernel
theorem dX10_any_53 : decode cX10_any 53 = .ok (.aload_n 0, 1) := by decide +kernel
theorem dX10_any_54 : decode cX10_any 54 = .ok (.iconst (-1), 1) := by decide +kernel
theorem dX10_any_55 : decode cX10_any 55 = .ok (.iconst (-1), 1) := by decide +kernel
theorem dX10_any_56 : decode cX10_any 56 = .ok (.invokevirtual 493, 3) := by decide +kernel
theorem dX10_any_59 : decode cX10_any 59 = .ok (.aload_n 0, 1) := by decide +kernel
theorem dX10_any_60 : decode cX10_any 60 = .ok (.aload_n 0, 1) := by decide +kernel
theorem dX10_any_61 : decode cX10_any 61 = .ok (.iload_n 1, 1) := by decide +kernel
theorem dX10_any_62 : decode cX10_any 62 = .ok (.iload_n 2, 1) := by decide +kernel
theorem dX10_any_63 : decode cX10_any 63 = .ok (.iload_n 3, 1) := by decide +kernel
theorem dX10_any_64 : decode cX10_any 64 = .ok (.invokevirtual 503, 3) := by decide +kernel
theorem dX10_any_67 : decode cX10_any 67 = .ok (.invokevirtual 496, 3) := by decide +kernel
theorem dX10_any_70 : decode cX10_any 70 = .ok (.istore 7, 2) := by decide +kernel
theorem dX10_any_72 : decode cX10_any 72 = .ok (.aload_n 0, 1) := by decide +kernel
theorem dX10_any_73 : decode cX10_any 73 = .ok (.iload 5, 2) := by decide +kernel
theorem dX10_any_75 : decode cX10_any 75 = .ok (.putfield 511, 3) := by decide +kernel
theorem dX10_any_78 : decode cX10_any 78 = .ok (.iconst 0, 1) := by decide +kernel
theorem dX10_any_79 : decode cX10_any 79 = .ok (.istore 8, 2) := by decide +kernel
theorem dX10_any_81 : decode cX10_any 81 = .ok (.iconst 0, 1) := by decide +kernel
theorem dX10_any_82 : decode cX10_any 82 = .ok (.istore 9, 2) := by decide +kernel
theorem dX10_any_84 : decode cX10_any 84 = .ok (.iload 9, 2) := by decide +kernel
theorem dX10_any_86 : decode cX10_any 86 = .ok (.iload 6, 2) := by decide +kernel
theorem dX10_any_88 : decode cX10_any 88 = .ok (.if_icmp .ge 120, 3) := by decide +kernel
theorem dX10_any_91 : decode cX10_any 91 = .ok (.iconst 0, 1) := by decide +kernel
theorem dX10_any_92 : decode cX10_any 92 = .ok (.istore 10, 2) := by decide +kernel
theorem dX10_any_94 : decode cX10_any 94 = .ok (.iload 10, 2) := by decide +kernel
theorem dX10_any_96 : decode cX10_any 96 = .ok (.aload_n 0, 1) := by decide +kernel
theorem dX10_any_97 : decode cX10_any 97 = .ok (.getfield 340, 3) := by decide +kernel
theorem dX10_any_100 : decode cX10_any 100 = .ok (.if_icmp .ge 76, 3) := by decide +kernel
theorem dX10_any_103 : decode cX10_any 103 = .ok (.aload_n 0, 1) := by decide +kernel
theorem dX10_any_104 : decode cX10_any 104 = .ok (.iload 10, 2) := by decide +kernel
theorem dX10_any_106 : decode cX10_any 106 = .ok (.invokevirtual 443, 3) := by decide +kernel
theorem dX10_any_109 : decode cX10_any 109 = .ok (.ifCond .ne 6, 3) := by decide +kernel
theorem dX10_any_112 : decode cX10_any 112 = .ok (.goto 58, 3) := by decide +kernel
theorem dX10_any_115 : decode cX10_any 115 = .ok (.aload_n 0, 1) := by decide +kernel
theorem dX10_any_116 : decode cX10_any 116 = .ok (.aload_n 0, 1) := by decide +kernel
theorem dX10_any_117 : decode cX10_any 117 = .ok (.getfield 511, 3) := by decide +kernel
theorem dX10_any_120 : decode cX10_any 120 = .ok (.ldc_w 514, 3) := by decide +kernel
theorem dX10_any_123 : decode cX10_any 123 = .ok (.imul, 1) := by decide +kernel
theorem dX10_any_124 : decode cX10_any 124 = .ok (.sipush 12345, 3) := by decide +kernel
theorem dX10_any_127 : decode cX10_any 127 = .ok (.iadd, 1) := by decide +kernel
theorem dX10_any_128 : decode cX10_any 128 = .ok (.ldc_w 515, 3) := by decide +kernel
theorem dX10_any_131 : decode cX10_any 131 = .ok (.iand, 1) := by decide +kernel
theorem dX10_any_132 : decode cX10_any 132 = .ok (.putfield 511, 3) := by decide +kernel
theorem dX10_any_135 : decode cX10_any 135 = .ok (.aload_n 0, 1) := by decide +kernel
theorem dX10_any_136 : decode cX10_any 136 = .ok (.getfield 144, 3) := by decide +kernel
theorem dX10_any_139 : decode cX10_any 139 = .ok (.iload 10, 2) := by decide +kernel
theorem dX10_any_141 : decode cX10_any 141 = .ok (.iconst 0, 1) := by decide +kernel
theorem dX10_any_142 : decode cX10_any 142 = .ok (.aload_n 0, 1) := by decide +kernel
theorem dX10_any_143 : decode cX10_any 143 = .ok (.iload 10, 2) := by decide +kernel
theorem dX10_any_145 : decode cX10_any 145 = .ok (.invokevirtual 446, 3) := by decide +kernel
theorem dX10_any_148 : decode cX10_any 148 = .ok (.aload_n 0, 1) := by decide +kernel
theorem dX10_any_149 : decode cX10_any 149 = .ok (.getfield 511, 3) := by decide +kernel
theorem dX10_any_152 : decode cX10_any 152 = .ok (.bipush 16, 2) := by decide +kernel
theorem dX10_any_154 : decode cX10_any 154 = .ok (.ishr, 1) := by decide +kernel
theorem dX10_any_155 : decode cX10_any 155 = .ok (.iconst 2, 1) := by decide +kernel
theorem dX10_any_156 : decode cX10_any 156 = .ok (.iload 4, 2) := by decide +kernel
theorem dX10_any_158 : decode cX10_any 158 = .ok (.imul, 1) := by decide +kernel
theorem dX10_any_159 : decode cX10_any 159 = .ok (.iconst 1, 1) := by decide +kernel
theorem dX10_any_160 : decode cX10_any 160 = .ok (.iadd, 1) := by decide +kernel
theorem dX10_any_161 : decode cX10_any 161 = .ok (.irem, 1) := by decide +kernel
theorem dX10_any_162 : decode cX10_any 162 = .ok (.iadd, 1) := by decide +kernel
theorem dX10_any_163 : decode cX10_any 163 = .ok (.iload 4, 2) := by decide +kernel
theorem dX10_any_165 : decode cX10_any 165 = .ok (.isub, 1) := by decide +kernel
theorem dX10_any_166 : decode cX10_any 166 = .ok (.invokestatic 452, 3) := by decide +kernel
theorem dX10_any_169 : decode cX10_any 169 = .ok (.iastore, 1) := by decide +kernel
theorem dX10_any_170 : decode cX10_any 170 = .ok (.iinc 10 1, 3) := by decide +kernel
theorem dX10_any_173 : decode cX10_any 173 = .ok (.goto (-79), 3) := by decide +kernel
theorem dX10_any_176 : decode cX10_any 176 = .ok (.iload 8, 2) := by decide +kernel
theorem dX10_any_178 : decode cX10_any 178 = .ok (.aload_n 0, 1) := by decide +kernel
theorem dX10_any_179 : decode cX10_any 179 = .ok (.aload_n 0, 1) := by decide +kernel
theorem dX10_any_180 : decode cX10_any 180 = .ok (.iload_n 1, 1) := by decide +kernel
theorem dX10_any_181 : decode cX10_any 181 = .ok (.iload_n 2, 1) := by decide +kernel
theorem dX10_any_182 : decode cX10_any 182 = .ok (.iload_n 3, 1) := by decide +kernel
theorem dX10_any_183 : decode cX10_any 183 = .ok (.invokevirtual 503, 3) := by decide +kernel
theorem dX10_any_186 : decode cX10_any 186 = .ok (.invokevirtual 496, 3) := by decide +kernel
theorem dX10_any_189 : decode cX10_any 189 = .ok (.iload 7, 2) := by decide +kernel
theorem dX10_any_191 : decode cX10_any 191 = .ok (.if_icmp .gt 7, 3) := by decide +kernel
theorem dX10_any_194 : decode cX10_any 194 = .ok (.iconst 1, 1) := by decide +kernel
theorem dX10_any_195 : decode cX10_any 195 = .ok (.goto 4, 3) := by decide +kernel
theorem dX10_any_198 : decode cX10_any 198 = .ok (.iconst 0, 1) := by decide +kernel
theorem dX10_any_199 : decode cX10_any 199 = .ok (.iadd, 1) := by decide +kernel
theorem dX10_any_200 : decode cX10_any 200 = .ok (.istore 8, 2) := by decide +kernel
theorem dX10_any_202 : decode cX10_any 202 = .ok (.iinc 9 1, 3) := by decide +kernel
theorem dX10_any_205 : decode cX10_any 205 = .ok (.goto (-121), 3) := by decide +kernel
theorem dX10_any_208 : decode cX10_any 208 = .ok (.iload 8, 2) := by decide +kernel
theorem dX10_any_210 : decode cX10_any 210 = .ok (.ireturn, 1) := by decide +kernel
theorem dX10_chosen_0 : decode cX10_chosen 0 = .ok (.aload_n 0, 1) := by decide +kernel
theorem dX10_chosen_1 : decode cX10_chosen 1 = .ok (.iconst 0, 1) := by decide +kernel
theorem dX10_chosen_2 : decode cX10_chosen 2 = .ok (.putfield 153, 3) := by decide +kernel
theorem dX10_chosen_5 : decode cX10_chosen 5 = .ok (.iload_n 1, 1) := by decide +kernel
theorem dX10_chosen_6 : decode cX10_chosen 6 = .ok (.invokestatic 460, 3) := by decide +kernel
theorem dX10_chosen_9 : decode cX10_chosen 9 = .ok (.ifCond .eq 12, 3) := by decide +kernel
theorem dX10_chosen_12 : decode cX10_chosen 12 = .ok (.iload_n 2, 1) := by decide +kernel
theorem dX10_chosen_13 : decode cX10_chosen 13 = .ok (.ifCond .lt 8, 3) := by decide +kernel
theorem dX10_chosen_16 : decode cX10_chosen 16 = .ok (.iload_n 2, 1) := by decide +kernel
theorem dX10_chosen_17 : decode cX10_chosen 17 = .ok (.iconst 1, 1) := by decide +kernel
theorem dX10_chosen_18 : decode cX10_chosen 18 = .ok (.if_icmp .le 5, 3) := by decide +kernel
theorem dX10_chosen_21 : decode cX10_chosen 21 = .ok (.iconst (-1), 1) := by decide +kernel
theorem dX10_chosen_22 : decode cX10_chosen 22 = .ok (.ireturn, 1) := by decide +kernel
theorem dX10_chosen_23 : decode cX10_chosen 23 = .ok (.aload_n 0, 1) := by decide +kernel
theorem dX10_chosen_24 : decode cX10_chosen 24 = .ok (.invokevirtual 440, 3) := by decide +kernel
theorem dX10_chosen_27 : decode cX10_chosen 27 = .ok (.aload_n 0, 1) := by decide +kernel
theorem dX10_chosen_28 : decode cX10_chosen 28 = .ok (.iload_n 1, 1) := by decide +kernel
theorem dX10_chosen_29 : decode cX10_chosen 29 = .ok (.invokevirtual 463, 3) := by decide +kernel
theorem dX10_chosen_32 : decode cX10_chosen 32 = .ok (.istore_n 3, 1) := by decide +kernel
theorem dX10_chosen_33 : decode cX10_chosen 33 = .ok (.iconst 0, 1) := by decide +kernel
theorem dX10_chosen_34 : decode cX10_chosen 34 = .ok (.istore 4, 2) := by decide +kernel
theorem dX10_chosen_36 : decode cX10_chosen 36 = .ok (.iconst 0, 1) := by decide +kernel
theorem dX10_chosen_37 : decode cX10_chosen 37 = .ok (.istore 5, 2) := by decide +kernel
theorem dX10_chosen_39 : decode cX10_chosen 39 = .ok (.iload 5, 2) := by decide +kernel
theorem dX10_chosen_41 : decode cX10_chosen 41 = .ok (.aload_n 0, 1) := by decide +kernel
theorem dX10_chosen_42 : decode cX10_chosen 42 = .ok (.getfield 340, 3) := by decide +kernel
theorem dX10_chosen_45 : decode cX10_chosen 45 = .ok (.if_icmp .ge 148, 3) := by decide +kernel
theorem dX10_chosen_48 : decode cX10_chosen 48 = .ok (.aload_n 0, 1) := by decide +kernel
theorem dX10_chosen_49 : decode cX10_chosen 49 = .ok (.getfield 144, 3) := by decide +kernel
theorem dX10_chosen_52 : decode cX10_chosen 52 = .ok (.iload 5, 2) := by decide +kernel
theorem dX10_chosen_54 : decode cX10_chosen 54 = .ok (.iconst (-1), 1) := by decide +kernel
theorem dX10_chosen_55 : decode cX10_chosen 55 = .ok (.iastore, 1) := by decide +kernel
theorem dX10_chosen_56 : decode cX10_chosen 56 = .ok (.aload_n 0, 1) := by decide +kernel
theorem dX10_chosen_57 : decode cX10_chosen 57 = .ok (.iload 5, 2) := by decide +kernel
theorem dX10_chosen_59 : decode cX10_chosen 59 = .ok (.invokevirtual 443, 3) := by decide +kernel
theorem dX10_chosen_62 : decode cX10_chosen 62 = .ok (.ifCond .ne 6, 3) := by decide +kernel
theorem dX10_chosen_65 : decode cX10_chosen 65 = .ok (.goto 122, 3) := by decide +kernel
theorem dX10_chosen_68 : decode cX10_chosen 68 = .ok (.iconst (-1), 1) := by decide +kernel
theorem dX10_chosen_69 : decode cX10_chosen 69 = .ok (.istore 6, 2) := by decide +kernel
theorem dX10_chosen_71 : decode cX10_chosen 71 = .ok (.iconst 0, 1) := by decide +kernel
theorem dX10_chosen_72 : decode cX10_chosen 72 = .ok (.istore 7, 2) := by decide +kernel
theorem dX10_chosen_74 : decode cX10_chosen 74 = .ok (.iload 7, 2) := by decide +kernel
theorem dX10_chosen_76 : decode cX10_chosen 76 = .ok (.bipush 12, 2) := by decide +kernel
theorem dX10_chosen_78 : decode cX10_chosen 78 = .ok (.if_icmp .ge 67, 3) := by decide +kernel
theorem dX10_chosen_81 : decode cX10_chosen 81 = .ok (.aload_n 0, 1) := by decide +kernel
theorem dX10_chosen_82 : decode cX10_chosen 82 = .ok (.iload 5, 2) := by decide +kernel
theorem dX10_chosen_84 : decode cX10_chosen 84 = .ok (.iload 7, 2) := by decide +kernel
theorem dX10_chosen_86 : decode cX10_chosen 86 = .ok (.invokevirtual 449, 3) := by decide +kernel
theorem dX10_chosen_89 : decode cX10_chosen 89 = .ok (.ifCond .eq 50, 3) := by decide +kernel
theorem dX10_chosen_92 : decode cX10_chosen 92 = .ok (.iload 6, 2) := by decide +kernel
theorem dX10_chosen_94 : decode cX10_chosen 94 = .ok (.iconst (-1), 1) := by decide +kernel
theorem dX10_chosen_95 : decode cX10_chosen 95 = .ok (.if_icmp .eq 40, 3) := by decide +kernel
theorem dX10_chosen_98 : decode cX10_chosen 98 = .ok (.aload_n 0, 1) := by decide +kernel
theorem dX10_chosen_99 : decode cX10_chosen 99 = .ok (.getfield 125, 3) := by decide +kernel
theorem dX10_chosen_102 : decode cX10_chosen 102 = .ok (.bipush 12, 2) := by decide +kernel
theorem dX10_chosen_104 : decode cX10_chosen 104 = .ok (.iload 5, 2) := by decide +kernel
theorem dX10_chosen_106 : decode cX10_chosen 106 = .ok (.imul, 1) := by decide +kernel
theorem dX10_chosen_107 : decode cX10_chosen 107 = .ok (.iload 7, 2) := by decide +kernel
theorem dX10_chosen_109 : decode cX10_chosen 109 = .ok (.iadd, 1) := by decide +kernel
theorem dX10_chosen_110 : decode cX10_chosen 110 = .ok (.iaload, 1) := by decide +kernel
theorem dX10_chosen_111 : decode cX10_chosen 111 = .ok (.iload_n 3, 1) := by decide +kernel
theorem dX10_chosen_112 : decode cX10_chosen 112 = .ok (.invokestatic 466, 3) := by decide +kernel
theorem dX10_chosen_115 : decode cX10_chosen 115 = .ok (.aload_n 0, 1) := by decide +kernel
theorem dX10_chosen_116 : decode cX10_chosen 116 = .ok (.getfield 125, 3) := by decide +kernel
theorem dX10_chosen_119 : decode cX10_chosen 119 = .ok (.bipush 12, 2) := by decide +kernel
theorem dX10_chosen_121 : decode cX10_chosen 121 = .ok (.iload 5, 2) := by decide +kernel
theorem dX10_chosen_123 : decode cX10_chosen 123 = .ok (.imul, 1) := by decide +kernel
theorem dX10_chosen_124 : decode cX10_chosen 124 = .ok (.iload 6, 2) := by decide +kernel
theorem dX10_chosen_126 : decode cX10_chosen 126 = .ok (.iadd, 1) := by decide +kernel
theorem dX10_chosen_127 : decode cX10_chosen 127 = .ok (.iaload, 1) := by decide +kernel
theorem dX10_chosen_128 : decode cX10_chosen 128 = .ok (.iload_n 3, 1) := by decide +kernel
theorem dX10_chosen_129 : decode cX10_chosen 129 = .ok (.invokestatic 466, 3) := by decide +kernel
theorem dX10_chosen_132 : decode cX10_chosen 132 = .ok (.if_icmp .ge 7, 3) := by decide +kernel
theorem dX10_chosen_135 : decode cX10_chosen 135 = .ok (.iload 7, 2) := by decide +kernel
theorem dX10_chosen_137 : decode cX10_chosen 137 = .ok (.istore 6, 2) := by decide +kernel
theorem dX10_chosen_139 : decode cX10_chosen 139 = .ok (.iinc 7 1, 3) := by decide +kernel
theorem dX10_chosen_142 : decode cX10_chosen 142 = .ok (.goto (-68), 3) := by decide +kernel
theorem dX10_chosen_145 : decode cX10_chosen 145 = .ok (.aload_n 0, 1) := by decide +kernel
theorem dX10_chosen_146 : decode cX10_chosen 146 = .ok (.getfield 144, 3) := by decide +kernel
theorem dX10_chosen_149 : decode cX10_chosen 149 = .ok (.iload 5, 2) := by decide +kernel
theorem dX10_chosen_151 : decode cX10_chosen 151 = .ok (.aload_n 0, 1) := by decide +kernel
theorem dX10_chosen_152 : decode cX10_chosen 152 = .ok (.getfield 125, 3) := by decide +kernel
theorem dX10_chosen_155 : decode cX10_chosen 155 = .ok (.bipush 12, 2) := by decide +kernel
theorem dX10_chosen_157 : decode cX10_chosen 157 = .ok (.iload 5, 2) := by decide +kernel
theorem dX10_chosen_159 : decode cX10_chosen 159 = .ok (.imul, 1) := by decide +kernel
theorem dX10_chosen_160 : decode cX10_chosen 160 = .ok (.iload 6, 2) := by decide +kernel
theorem dX10_chosen_162 : decode cX10_chosen 162 = .ok (.iadd, 1) := by decide +kernel
theorem dX10_chosen_163 : decode cX10_chosen 163 = .ok (.iaload, 1) := by decide +kernel
theorem dX10_chosen_164 : decode cX10_chosen 164 = .ok (.iastore, 1) := by decide +kernel
theorem dX10_chosen_165 : decode cX10_chosen 165 = .ok (.iload 4, 2) := by decide +kernel
theorem dX10_chosen_167 : decode cX10_chosen 167 = .ok (.iload 6, 2) := by decide +kernel
theorem dX10_chosen_169 : decode cX10_chosen 169 = .ok (.aload_n 0, 1) := by decide +kernel
theorem dX10_chosen_170 : decode cX10_chosen 170 = .ok (.getfield 131, 3) := by decide +kernel
theorem dX10_chosen_173 : decode cX10_chosen 173 = .ok (.iload 5, 2) := by decide +kernel
theorem dX10_chosen_175 : decode cX10_chosen 175 = .ok (.iaload, 1) := by decide +kernel
theorem dX10_chosen_176 : decode cX10_chosen 176 = .ok (.if_icmp .eq 7, 3) := by decide +kernel
theorem dX10_chosen_179 : decode cX10_chosen 179 = .ok (.iconst 1, 1) := by decide +kernel
theorem dX10_chosen_180 : decode cX10_chosen 180 = .ok (.goto 4, 3) := by decide +kernel
theorem dX10_chosen_183 : decode cX10_chosen 183 = .ok (.iconst 0, 1) := by decide +kernel
theorem dX10_chosen_184 : decode cX10_chosen 184 = .ok (.iadd, 1) := by decide +kernel
theorem dX10_chosen_185 : decode cX10_chosen 185 = .ok (.istore 4, 2) := by decide +kernel
theorem dX10_chosen_187 : decode cX10_chosen 187 = .ok (.iinc 5 1, 3) := by decide +kernel
theorem dX10_chosen_190 : decode cX10_chosen 190 = .ok (.goto (-151), 3) := by decide +kernel
theorem dX10_chosen_193 : decode cX10_chosen 193 = .ok (.iload_n 2, 1) := by decide +kernel
theorem dX10_chosen_194 : decode cX10_chosen 194 = .ok (.ifCond .ne 11, 3) := by decide +kernel
theorem dX10_chosen_197 : decode cX10_chosen 197 = .ok (.aload_n 0, 1) := by decide +kernel
theorem dX10_chosen_198 : decode cX10_chosen 198 = .ok (.iload_n 1, 1) := by decide +kernel
theorem dX10_chosen_199 : decode cX10_chosen 199 = .ok (.invokevirtual 496, 3) := by decide +kernel
theorem dX10_chosen_202 : decode cX10_chosen 202 = .ok (.goto 5, 3) := by decide +kernel
theorem dX10_chosen_205 : decode cX10_chosen 205 = .ok (.iload 4, 2) := by decide +kernel
theorem dX10_chosen_207 : decode cX10_chosen 207 = .ok (.ireturn, 1) := by decide +kernel
theorem dX10_binOfRing_0 : decode cX10_binOfRing 0 = .ok (.aload_n 0, 1) := by decide +kernel
theorem dX10_binOfRing_1 : decode cX10_binOfRing 1 = .ok (.iload_n 2, 1) := by decide +kernel
theorem dX10_binOfRing_2 : decode cX10_binOfRing 2 = .ok (.invokevirtual 463, 3) := by decide +kernel
theorem dX10_binOfRing_5 : decode cX10_binOfRing 5 = .ok (.istore_n 3, 1) := by decide +kernel
theorem dX10_binOfRing_6 : decode cX10_binOfRing 6 = .ok (.iconst 5, 1) := by decide +kernel
theorem dX10_binOfRing_7 : decode cX10_binOfRing 7 = .ok (.bipush 12, 2) := by decide +kernel
theorem dX10_binOfRing_9 : decode cX10_binOfRing 9 = .ok (.aload_n 0, 1) := by decide +kernel
theorem dX10_binOfRing_10 : decode cX10_binOfRing 10 = .ok (.iload_n 1, 1) := by decide +kernel
theorem dX10_binOfRing_11 : decode cX10_binOfRing 11 = .ok (.invokevirtual 446, 3) := by decide +kernel
theorem dX10_binOfRing_14 : decode cX10_binOfRing 14 = .ok (.iload_n 3, 1) := by decide +kernel
theorem dX10_binOfRing_15 : decode cX10_binOfRing 15 = .ok (.invokestatic 466, 3) := by decide +kernel
theorem dX10_binOfRing_18 : decode cX10_binOfRing 18 = .ok (.imul, 1) := by decide +kernel
theorem dX10_binOfRing_19 : decode cX10_binOfRing 19 = .ok (.iload_n 3, 1) := by decide +kernel
theorem dX10_binOfRing_20 : decode cX10_binOfRing 20 = .ok (.idiv, 1) := by decide +kernel
theorem dX10_binOfRing_21 : decode cX10_binOfRing 21 = .ok (.invokestatic 285, 3) := by decide +kernel
theorem dX10_binOfRing_24 : decode cX10_binOfRing 24 = .ok (.ireturn, 1) := by decide +kernel
theorem dX10_toldBy_0 : decode cX10_toldBy 0 = .ok (.aload_n 0, 1) := by decide +kernel
theorem dX10_toldBy_1 : decode cX10_toldBy 1 = .ok (.getfield 49, 3) := by decide +kernel
theorem dX10_toldBy_4 : decode cX10_toldBy 4 = .ok (.iload_n 1, 1) := by decide +kernel
theorem dX10_toldBy_5 : decode cX10_toldBy 5 = .ok (.iaload, 1) := by decide +kernel
theorem dX10_toldBy_6 : decode cX10_toldBy 6 = .ok (.i2l, 1) := by decide +kernel
theorem dX10_toldBy_7 : decode cX10_toldBy 7 = .ok (.lstore_n 3, 1) := by decide +kernel
theorem dX10_toldBy_8 : decode cX10_toldBy 8 = .ok (.iconst 0, 1) := by decide +kernel
theorem dX10_toldBy_9 : decode cX10_toldBy 9 = .ok (.istore 5, 2) := by decide +kernel
theorem dX10_toldBy_11 : decode cX10_toldBy 11 = .ok (.iload 5, 2) := by decide +kernel
theorem dX10_toldBy_13 : decode cX10_toldBy 13 = .ok (.aload_n 0, 1) := by decide +kernel
theorem dX10_toldBy_14 : decode cX10_toldBy 14 = .ok (.getfield 340, 3) := by decide +kernel
theorem dX10_toldBy_17 : decode cX10_toldBy 17 = .ok (.if_icmp .ge 39, 3) := by decide +kernel
theorem dX10_toldBy_20 : decode cX10_toldBy 20 = .ok (.aload_n 0, 1) := by decide +kernel
theorem dX10_toldBy_21 : decode cX10_toldBy 21 = .ok (.iload 5, 2) := by decide +kernel
theorem dX10_toldBy_23 : decode cX10_toldBy 23 = .ok (.invokevirtual 443, 3) := by decide +kernel
theorem dX10_toldBy_26 : decode cX10_toldBy 26 = .ok (.ifCond .eq 24, 3) := by decide +kernel
theorem dX10_toldBy_29 : decode cX10_toldBy 29 = .ok (.lload_n 3, 1) := by decide +kernel
theorem dX10_toldBy_30 : decode cX10_toldBy 30 = .ok (.aload_n 0, 1) := by decide +kernel
theorem dX10_toldBy_31 : decode cX10_toldBy 31 = .ok (.getfield 52, 3) := by decide +kernel
theorem dX10_toldBy_34 : decode cX10_toldBy 34 = .ok (.bipush 6, 2) := by decide +kernel
theorem dX10_toldBy_36 : decode cX10_toldBy 36 = .ok (.iload_n 1, 1) := by decide +kernel
theorem dX10_toldBy_37 : decode cX10_toldBy 37 = .ok (.imul, 1) := by decide +kernel
theorem dX10_toldBy_38 : decode cX10_toldBy 38 = .ok (.aload_n 0, 1) := by decide +kernel
theorem dX10_toldBy_39 : decode cX10_toldBy 39 = .ok (.iload 5, 2) := by decide +kernel
theorem dX10_toldBy_41 : decode cX10_toldBy 41 = .ok (.iload_n 2, 1) := by decide +kernel
theorem dX10_toldBy_42 : decode cX10_toldBy 42 = .ok (.invokevirtual 516, 3) := by decide +kernel
theorem dX10_toldBy_45 : decode cX10_toldBy 45 = .ok (.iadd, 1) := by decide +kernel
theorem dX10_toldBy_46 : decode cX10_toldBy 46 = .ok (.iaload, 1) := by decide +kernel
theorem dX10_toldBy_47 : decode cX10_toldBy 47 = .ok (.i2l, 1) := by decide +kernel
theorem dX10_toldBy_48 : decode cX10_toldBy 48 = .ok (.lmul, 1) := by decide +kernel
theorem dX10_toldBy_49 : decode cX10_toldBy 49 = .ok (.lstore_n 3, 1) := by decide +kernel
theorem dX10_toldBy_50 : decode cX10_toldBy 50 = .ok (.iinc 5 1, 3) := by decide +kernel
theorem dX10_toldBy_53 : decode cX10_toldBy 53 = .ok (.goto (-42), 3) := by decide +kernel
theorem dX10_toldBy_56 : decode cX10_toldBy 56 = .ok (.lload_n 3, 1) := by decide +kernel
theorem dX10_toldBy_57 : decode cX10_toldBy 57 = .ok (.lreturn, 1) := by decide +kernel
theorem dX10_common_0 : decode cX10_common 0 = .ok (.lload_n 0, 1) := by decide +kernel
theorem dX10_common_1 : decode cX10_common 1 = .ok (.invokestatic 479, 3) := by decide +kernel
theorem dX10_common_4 : decode cX10_common 4 = .ok (.lstore 4, 2) := by decide +kernel
theorem dX10_common_6 : decode cX10_common 6 = .ok (.lload_n 2, 1) := by decide +kernel
theorem dX10_common_7 : decode cX10_common 7 = .ok (.lstore 6, 2) := by decide +kernel
theorem dX10_common_9 : decode cX10_common 9 = .ok (.lload 6, 2) := by decide +kernel
theorem dX10_common_11 : decode cX10_common 11 = .ok (.lconst 0, 1) := by decide +kernel
theorem dX10_common_12 : decode cX10_common 12 = .ok (.lcmp, 1) := by decide +kernel
theorem dX10_common_13 : decode cX10_common 13 = .ok (.ifCond .eq 21, 3) := by decide +kernel
theorem dX10_common_16 : decode cX10_common 16 = .ok (.lload 4, 2) := by decide +kernel
theorem dX10_common_18 : decode cX10_common 18 = .ok (.lload 6, 2) := by decide +kernel
theorem dX10_common_20 : decode cX10_common 20 = .ok (.lrem, 1) := by decide +kernel
theorem dX10_common_21 : decode cX10_common 21 = .ok (.lstore 8, 2) := by decide +kernel
theorem dX10_common_23 : decode cX10_common 23 = .ok (.lload 6, 2) := by decide +kernel
theorem dX10_common_25 : decode cX10_common 25 = .ok (.lstore 4, 2) := by decide +kernel
theorem dX10_common_27 : decode cX10_common 27 = .ok (.lload 8, 2) := by decide +kernel
theorem dX10_common_29 : decode cX10_common 29 = .ok (.lstore 6, 2) := by decide +kernel
theorem dX10_common_31 : decode cX10_common 31 = .ok (.goto (-22), 3) := by decide +kernel
theorem dX10_common_34 : decode cX10_common 34 = .ok (.lload 4, 2) := by decide +kernel
theorem dX10_common_36 : decode cX10_common 36 = .ok (.lreturn, 1) := by decide +kernel
theorem dX10_tells_0 : decode cX10_tells 0 = .ok (.aload_n 0, 1) := by decide +kernel
theorem dX10_tells_1 : decode cX10_tells 1 = .ok (.iconst 0, 1) := by decide +kernel
theorem dX10_tells_2 : decode cX10_tells 2 = .ok (.putfield 153, 3) := by decide +kernel
theorem dX10_tells_5 : decode cX10_tells 5 = .ok (.iload_n 1, 1) := by decide +kernel
theorem dX10_tells_6 : decode cX10_tells 6 = .ok (.ifCond .lt 27, 3) := by decide +kernel
theorem dX10_tells_9 : decode cX10_tells 9 = .ok (.iload_n 1, 1) := by decide +kernel
theorem dX10_tells_10 : decode cX10_tells 10 = .ok (.aload_n 0, 1) := by decide +kernel
theorem dX10_tells_11 : decode cX10_tells 11 = .ok (.getfield 343, 3) := by decide +kernel
theorem dX10_tells_14 : decode cX10_tells 14 = .ok (.if_icmp .ge 19, 3) := by decide +kernel
theorem dX10_tells_17 : decode cX10_tells 17 = .ok (.iload_n 2, 1) := by decide +kernel
theorem dX10_tells_18 : decode cX10_tells 18 = .ok (.invokestatic 460, 3) := by decide +kernel
theorem dX10_tells_21 : decode cX10_tells 21 = .ok (.ifCond .eq 12, 3) := by decide +kernel
theorem dX10_tells_24 : decode cX10_tells 24 = .ok (.iload_n 3, 1) := by decide +kernel
theorem dX10_tells_25 : decode cX10_tells 25 = .ok (.ifCond .lt 8, 3) := by decide +kernel
theorem dX10_tells_28 : decode cX10_tells 28 = .ok (.iload_n 3, 1) := by decide +kernel
theorem dX10_tells_29 : decode cX10_tells 29 = .ok (.iconst 1, 1) := by decide +kernel
theorem dX10_tells_30 : decode cX10_tells 30 = .ok (.if_icmp .le 7, 3) := by decide +kernel
theorem dX10_tells_33 : decode cX10_tells 33 = .ok (.ldc2_w 519, 3) := by decide +kernel
theorem dX10_tells_36 : decode cX10_tells 36 = .ok (.lreturn, 1) := by decide +kernel
theorem dX10_tells_37 : decode cX10_tells 37 = .ok (.aload_n 0, 1) := by decide +kernel
theorem dX10_tells_38 : decode cX10_tells 38 = .ok (.invokevirtual 440, 3) := by decide +kernel
theorem dX10_tells_41 : decode cX10_tells 41 = .ok (.lconst 0, 1) := by decide +kernel
theorem dX10_tells_42 : decode cX10_tells 42 = .ok (.lstore 4, 2) := by decide +kernel
theorem dX10_tells_44 : decode cX10_tells 44 = .ok (.iconst 0, 1) := by decide +kernel
theorem dX10_tells_45 : decode cX10_tells 45 = .ok (.istore 6, 2) := by decide +kernel
theorem dX10_tells_47 : decode cX10_tells 47 = .ok (.iload 6, 2) := by decide +kernel
theorem dX10_tells_49 : decode cX10_tells 49 = .ok (.aload_n 0, 1) := by decide +kernel
theorem dX10_tells_50 : decode cX10_tells 50 = .ok (.getfield 343, 3) := by decide +kernel
theorem dX10_tells_53 : decode cX10_tells 53 = .ok (.if_icmp .ge 21, 3) := by decide +kernel
theorem dX10_tells_56 : decode cX10_tells 56 = .ok (.lload 4, 2) := by decide +kernel
theorem dX10_tells_58 : decode cX10_tells 58 = .ok (.aload_n 0, 1) := by decide +kernel
theorem dX10_tells_59 : decode cX10_tells 59 = .ok (.iload 6, 2) := by decide +kernel
theorem dX10_tells_61 : decode cX10_tells 61 = .ok (.iload_n 2, 1) := by decide +kernel
theorem dX10_tells_62 : decode cX10_tells 62 = .ok (.invokevirtual 521, 3) := by decide +kernel
theorem dX10_tells_65 : decode cX10_tells 65 = .ok (.ladd, 1) := by decide +kernel
theorem dX10_tells_66 : decode cX10_tells 66 = .ok (.lstore 4, 2) := by decide +kernel
theorem dX10_tells_68 : decode cX10_tells 68 = .ok (.iinc 6 1, 3) := by decide +kernel
theorem dX10_tells_71 : decode cX10_tells 71 = .ok (.goto (-24), 3) := by decide +kernel
theorem dX10_tells_74 : decode cX10_tells 74 = .ok (.lload 4, 2) := by decide +kernel
theorem dX10_tells_76 : decode cX10_tells 76 = .ok (.lconst 0, 1) := by decide +kernel
theorem dX10_tells_77 : decode cX10_tells 77 = .ok (.lcmp, 1) := by decide +kernel
theorem dX10_tells_78 : decode cX10_tells 78 = .ok (.ifCond .ne 5, 3) := by decide +kernel
theorem dX10_tells_81 : decode cX10_tells 81 = .ok (.lconst 0, 1) := by decide +kernel
theorem dX10_tells_82 : decode cX10_tells 82 = .ok (.lreturn, 1) := by decide +kernel
theorem dX10_tells_83 : decode cX10_tells 83 = .ok (.aload_n 0, 1) := by decide +kernel
theorem dX10_tells_84 : decode cX10_tells 84 = .ok (.iload_n 1, 1) := by decide +kernel
theorem dX10_tells_85 : decode cX10_tells 85 = .ok (.iload_n 2, 1) := by decide +kernel
theorem dX10_tells_86 : decode cX10_tells 86 = .ok (.invokevirtual 521, 3) := by decide +kernel
theorem dX10_tells_89 : decode cX10_tells 89 = .ok (.lload 4, 2) := by decide +kernel
theorem dX10_tells_91 : decode cX10_tells 91 = .ok (.invokestatic 525, 3) := by decide +kernel
theorem dX10_tells_94 : decode cX10_tells 94 = .ok (.lstore 6, 2) := by decide +kernel
theorem dX10_tells_96 : decode cX10_tells 96 = .ok (.iload_n 3, 1) := by decide +kernel
theorem dX10_tells_97 : decode cX10_tells 97 = .ok (.ifCond .ne 15, 3) := by decide +kernel
theorem dX10_tells_100 : decode cX10_tells 100 = .ok (.aload_n 0, 1) := by decide +kernel
theorem dX10_tells_101 : decode cX10_tells 101 = .ok (.iload_n 1, 1) := by decide +kernel
theorem dX10_tells_102 : decode cX10_tells 102 = .ok (.iload_n 2, 1) := by decide +kernel
theorem dX10_tells_103 : decode cX10_tells 103 = .ok (.invokevirtual 521, 3) := by decide +kernel
theorem dX10_tells_106 : decode cX10_tells 106 = .ok (.lload 6, 2) := by decide +kernel
theorem dX10_tells_108 : decode cX10_tells 108 = .ok (.ldiv, 1) := by decide +kernel
theorem dX10_tells_109 : decode cX10_tells 109 = .ok (.goto 8, 3) := by decide +kernel
theorem dX10_tells_112 : decode cX10_tells 112 = .ok (.lload 4, 2) := by decide +kernel
theorem dX10_tells_114 : decode cX10_tells 114 = .ok (.lload 6, 2) := by decide +kernel
theorem dX10_tells_116 : decode cX10_tells 116 = .ok (.ldiv, 1) := by decide +kernel
theorem dX10_tells_117 : decode cX10_tells 117 = .ok (.lreturn, 1) := by decide +kernel
theorem dX10_hump_0 : decode cX10_hump 0 = .ok (.aload_n 0, 1) := by decide +kernel
theorem dX10_hump_1 : decode cX10_hump 1 = .ok (.iconst 0, 1) := by decide +kernel
theorem dX10_hump_2 : decode cX10_hump 2 = .ok (.putfield 153, 3) := by decide +kernel
theorem dX10_hump_5 : decode cX10_hump 5 = .ok (.iload_n 1, 1) := by decide +kernel
theorem dX10_hump_6 : decode cX10_hump 6 = .ok (.invokestatic 460, 3) := by decide +kernel
theorem dX10_hump_9 : decode cX10_hump 9 = .ok (.ifCond .eq 13, 3) := by decide +kernel
theorem dX10_hump_12 : decode cX10_hump 12 = .ok (.iload_n 2, 1) := by decide +kernel
theorem dX10_hump_13 : decode cX10_hump 13 = .ok (.ifCond .lt 9, 3) := by decide +kernel
theorem dX10_hump_16 : decode cX10_hump 16 = .ok (.iload_n 2, 1) := by decide +kernel
theorem dX10_hump_17 : decode cX10_hump 17 = .ok (.bipush 6, 2) := by decide +kernel
theorem dX10_hump_19 : decode cX10_hump 19 = .ok (.if_icmp .lt 5, 3) := by decide +kernel
theorem dX10_hump_22 : decode cX10_hump 22 = .ok (.iconst (-1), 1) := by decide +kernel
theorem dX10_hump_23 : decode cX10_hump 23 = .ok (.ireturn, 1) := by decide +kernel
theorem dX10_hump_24 : decode cX10_hump 24 = .ok (.aload_n 0, 1) := by decide +kernel
theorem dX10_hump_25 : decode cX10_hump 25 = .ok (.invokevirtual 440, 3) := by decide +kernel
theorem dX10_hump_28 : decode cX10_hump 28 = .ok (.iconst 0, 1) := by decide +kernel
theorem dX10_hump_29 : decode cX10_hump 29 = .ok (.istore_n 3, 1) := by decide +kernel
theorem dX10_hump_30 : decode cX10_hump 30 = .ok (.iconst 0, 1) := by decide +kernel
theorem dX10_hump_31 : decode cX10_hump 31 = .ok (.istore 4, 2) := by decide +kernel
theorem dX10_hump_33 : decode cX10_hump 33 = .ok (.iload 4, 2) := by decide +kernel
theorem dX10_hump_35 : decode cX10_hump 35 = .ok (.aload_n 0, 1) := by decide +kernel
theorem dX10_hump_36 : decode cX10_hump 36 = .ok (.getfield 340, 3) := by decide +kernel
theorem dX10_hump_39 : decode cX10_hump 39 = .ok (.if_icmp .ge 37, 3) := by decide +kernel
theorem dX10_hump_42 : decode cX10_hump 42 = .ok (.iload_n 3, 1) := by decide +kernel
theorem dX10_hump_43 : decode cX10_hump 43 = .ok (.aload_n 0, 1) := by decide +kernel
theorem dX10_hump_44 : decode cX10_hump 44 = .ok (.iload 4, 2) := by decide +kernel
theorem dX10_hump_46 : decode cX10_hump 46 = .ok (.invokevirtual 443, 3) := by decide +kernel
theorem dX10_hump_49 : decode cX10_hump 49 = .ok (.ifCond .eq 18, 3) := by decide +kernel
theorem dX10_hump_52 : decode cX10_hump 52 = .ok (.aload_n 0, 1) := by decide +kernel
theorem dX10_hump_53 : decode cX10_hump 53 = .ok (.iload 4, 2) := by decide +kernel
theorem dX10_hump_55 : decode cX10_hump 55 = .ok (.iload_n 1, 1) := by decide +kernel
theorem dX10_hump_56 : decode cX10_hump 56 = .ok (.invokevirtual 516, 3) := by decide +kernel
theorem dX10_hump_59 : decode cX10_hump 59 = .ok (.iload_n 2, 1) := by decide +kernel
theorem dX10_hump_60 : decode cX10_hump 60 = .ok (.if_icmp .ne 7, 3) := by decide +kernel
theorem dX10_hump_63 : decode cX10_hump 63 = .ok (.iconst 1, 1) := by decide +kernel
theorem dX10_hump_64 : decode cX10_hump 64 = .ok (.goto 4, 3) := by decide +kernel
theorem dX10_hump_67 : decode cX10_hump 67 = .ok (.iconst 0, 1) := by decide +kernel
theorem dX10_hump_68 : decode cX10_hump 68 = .ok (.iadd, 1) := by decide +kernel
theorem dX10_hump_69 : decode cX10_hump 69 = .ok (.istore_n 3, 1) := by decide +kernel
theorem dX10_hump_70 : decode cX10_hump 70 = .ok (.iinc 4 1, 3) := by decide +kernel
theorem dX10_hump_73 : decode cX10_hump 73 = .ok (.goto (-40), 3) := by decide +kernel
theorem dX10_hump_76 : decode cX10_hump 76 = .ok (.iload_n 3, 1) := by decide +kernel
theorem dX10_hump_77 : decode cX10_hump 77 = .ok (.ireturn, 1) := by decide +kernel
theorem dX10_wander_0 : decode cX10_wander 0 = .ok (.aload_n 0, 1) := by decide +kernel
theorem dX10_wander_1 : decode cX10_wander 1 = .ok (.iconst 0, 1) := by decide +kernel
theorem dX10_wander_2 : decode cX10_wander 2 = .ok (.putfield 153, 3) := by decide +kernel
theorem dX10_wander_5 : decode cX10_wander 5 = .ok (.iload_n 1, 1) := by decide +kernel
theorem dX10_wander_6 : decode cX10_wander 6 = .ok (.invokestatic 460, 3) := by decide +kernel
theorem dX10_wander_9 : decode cX10_wander 9 = .ok (.ifCond .eq 16, 3) := by decide +kernel
theorem dX10_wander_12 : decode cX10_wander 12 = .ok (.iload_n 2, 1) := by decide +kernel
theorem dX10_wander_13 : decode cX10_wander 13 = .ok (.iconst (-1), 1) := by decide +kernel
theorem dX10_wander_14 : decode cX10_wander 14 = .ok (.if_icmp .lt 11, 3) := by decide +kernel
theorem dX10_wander_17 : decode cX10_wander 17 = .ok (.iload_n 2, 1) := by decide +kernel
theorem dX10_wander_18 : decode cX10_wander 18 = .ok (.aload_n 0, 1) := by decide +kernel
theorem dX10_wander_19 : decode cX10_wander 19 = .ok (.getfield 337, 3) := by decide +kernel
theorem dX10_wander_22 : decode cX10_wander 22 = .ok (.if_icmp .lt 6, 3) := by decide +kernel
theorem dX10_wander_25 : decode cX10_wander 25 = .ok (.bipush (-2), 2) := by decide +kernel
theorem dX10_wander_27 : decode cX10_wander 27 = .ok (.ireturn, 1) := by decide +kernel
theorem dX10_wander_28 : decode cX10_wander 28 = .ok (.aload_n 0, 1) := by decide +kernel
theorem dX10_wander_29 : decode cX10_wander 29 = .ok (.invokevirtual 440, 3) := by decide +kernel
theorem dX10_wander_32 : decode cX10_wander 32 = .ok (.aload_n 0, 1) := by decide +kernel
theorem dX10_wander_33 : decode cX10_wander 33 = .ok (.iload_n 2, 1) := by decide +kernel
theorem dX10_wander_34 : decode cX10_wander 34 = .ok (.iconst (-1), 1) := by decide +kernel
theorem dX10_wander_35 : decode cX10_wander 35 = .ok (.invokevirtual 493, 3) := by decide +kernel
theorem dX10_wander_38 : decode cX10_wander 38 = .ok (.iconst 0, 1) := by decide +kernel
theorem dX10_wander_39 : decode cX10_wander 39 = .ok (.istore_n 3, 1) := by decide +kernel
theorem dX10_wander_40 : decode cX10_wander 40 = .ok (.iconst 0, 1) := by decide +kernel
theorem dX10_wander_41 : decode cX10_wander 41 = .ok (.istore 4, 2) := by decide +kernel
theorem dX10_wander_43 : decode cX10_wander 43 = .ok (.iload 4, 2) := by decide +kernel
theorem dX10_wander_45 : decode cX10_wander 45 = .ok (.aload_n 0, 1) := by decide +kernel
theorem dX10_wander_46 : decode cX10_wander 46 = .ok (.getfield 340, 3) := by decide +kernel
theorem dX10_wander_49 : decode cX10_wander 49 = .ok (.if_icmp .ge 90, 3) := by decide +kernel
theorem dX10_wander_52 : decode cX10_wander 52 = .ok (.aload_n 0, 1) := by decide +kernel
theorem dX10_wander_53 : decode cX10_wander 53 = .ok (.getfield 144, 3) := by decide +kernel
theorem dX10_wander_56 : decode cX10_wander 56 = .ok (.iload 4, 2) := by decide +kernel
theorem dX10_wander_58 : decode cX10_wander 58 = .ok (.iaload, 1) := by decide +kernel
theorem dX10_wander_59 : decode cX10_wander 59 = .ok (.iconst (-1), 1) := by decide +kernel
theorem dX10_wander_60 : decode cX10_wander 60 = .ok (.if_icmp .ne 6, 3) := by decide +kernel
theorem dX10_wander_63 : decode cX10_wander 63 = .ok (.goto 70, 3) := by decide +kernel
theorem dX10_wander_66 : decode cX10_wander 66 = .ok (.aload_n 0, 1) := by decide +kernel
theorem dX10_wander_67 : decode cX10_wander 67 = .ok (.getfield 144, 3) := by decide +kernel
theorem dX10_wander_70 : decode cX10_wander 70 = .ok (.iload 4, 2) := by decide +kernel
theorem dX10_wander_72 : decode cX10_wander 72 = .ok (.iaload, 1) := by decide +kernel
theorem dX10_wander_73 : decode cX10_wander 73 = .ok (.aload_n 0, 1) := by decide +kernel
theorem dX10_wander_74 : decode cX10_wander 74 = .ok (.iload_n 1, 1) := by decide +kernel
theorem dX10_wander_75 : decode cX10_wander 75 = .ok (.invokevirtual 463, 3) := by decide +kernel
theorem dX10_wander_78 : decode cX10_wander 78 = .ok (.invokestatic 469, 3) := by decide +kernel
theorem dX10_wander_81 : decode cX10_wander 81 = .ok (.istore 5, 2) := by decide +kernel
theorem dX10_wander_83 : decode cX10_wander 83 = .ok (.aload_n 0, 1) := by decide +kernel
theorem dX10_wander_84 : decode cX10_wander 84 = .ok (.getfield 144, 3) := by decide +kernel
theorem dX10_wander_87 : decode cX10_wander 87 = .ok (.iload 4, 2) := by decide +kernel
theorem dX10_wander_89 : decode cX10_wander 89 = .ok (.iaload, 1) := by decide +kernel
theorem dX10_wander_90 : decode cX10_wander 90 = .ok (.aload_n 0, 1) := by decide +kernel
theorem dX10_wander_91 : decode cX10_wander 91 = .ok (.iload_n 1, 1) := by decide +kernel
theorem dX10_wander_92 : decode cX10_wander 92 = .ok (.invokevirtual 463, 3) := by decide +kernel
theorem dX10_wander_95 : decode cX10_wander 95 = .ok (.invokestatic 466, 3) := by decide +kernel
theorem dX10_wander_98 : decode cX10_wander 98 = .ok (.aload_n 0, 1) := by decide +kernel
theorem dX10_wander_99 : decode cX10_wander 99 = .ok (.getfield 376, 3) := by decide +kernel
theorem dX10_wander_102 : decode cX10_wander 102 = .ok (.ifCond .eq 7, 3) := by decide +kernel
theorem dX10_wander_105 : decode cX10_wander 105 = .ok (.iconst 2, 1) := by decide +kernel
theorem dX10_wander_106 : decode cX10_wander 106 = .ok (.goto 4, 3) := by decide +kernel
theorem dX10_wander_109 : decode cX10_wander 109 = .ok (.iconst 1, 1) := by decide +kernel
theorem dX10_wander_110 : decode cX10_wander 110 = .ok (.imul, 1) := by decide +kernel
theorem dX10_wander_111 : decode cX10_wander 111 = .ok (.istore 6, 2) := by decide +kernel
theorem dX10_wander_113 : decode cX10_wander 113 = .ok (.iload 5, 2) := by decide +kernel
theorem dX10_wander_115 : decode cX10_wander 115 = .ok (.ifCond .le 18, 3) := by decide +kernel
theorem dX10_wander_118 : decode cX10_wander 118 = .ok (.iload_n 3, 1) := by decide +kernel
theorem dX10_wander_119 : decode cX10_wander 119 = .ok (.iload 6, 2) := by decide +kernel
theorem dX10_wander_121 : decode cX10_wander 121 = .ok (.iload 5, 2) := by decide +kernel
theorem dX10_wander_123 : decode cX10_wander 123 = .ok (.iadd, 1) := by decide +kernel
theorem dX10_wander_124 : decode cX10_wander 124 = .ok (.iconst 1, 1) := by decide +kernel
theorem dX10_wander_125 : decode cX10_wander 125 = .ok (.isub, 1) := by decide +kernel
theorem dX10_wander_126 : decode cX10_wander 126 = .ok (.iload 5, 2) := by decide +kernel
theorem dX10_wander_128 : decode cX10_wander 128 = .ok (.idiv, 1) := by decide +kernel
theorem dX10_wander_129 : decode cX10_wander 129 = .ok (.invokestatic 452, 3) := by decide +kernel
theorem dX10_wander_132 : decode cX10_wander 132 = .ok (.istore_n 3, 1) := by decide +kernel
theorem dX10_wander_133 : decode cX10_wander 133 = .ok (.iinc 4 1, 3) := by decide +kernel
theorem dX10_wander_136 : decode cX10_wander 136 = .ok (.goto (-93), 3) := by decide +kernel
theorem dX10_wander_139 : decode cX10_wander 139 = .ok (.iload_n 3, 1) := by decide +kernel
theorem dX10_wander_140 : decode cX10_wander 140 = .ok (.ireturn, 1) := by decide +kernel
theorem dX10_landUnit_0 : decode cX10_landUnit 0 = .ok (.aload_n 0, 1) := by decide +kernel
theorem dX10_landUnit_1 : decode cX10_landUnit 1 = .ok (.iload_n 1, 1) := by decide +kernel
theorem dX10_landUnit_2 : decode cX10_landUnit 2 = .ok (.iconst (-1), 1) := by decide +kernel
theorem dX10_landUnit_3 : decode cX10_landUnit 3 = .ok (.invokevirtual 493, 3) := by decide +kernel
theorem dX10_landUnit_6 : decode cX10_landUnit 6 = .ok (.aload_n 0, 1) := by decide +kernel
theorem dX10_landUnit_7 : decode cX10_landUnit 7 = .ok (.invokevirtual 507, 3) := by decide +kernel
theorem dX10_landUnit_10 : decode cX10_landUnit 10 = .ok (.ifCond .ne 7, 3) := by decide +kernel
theorem dX10_landUnit_13 : decode cX10_landUnit 13 = .ok (.iconst (-1), 1) := by decide +kernel
theorem dX10_landUnit_14 : decode cX10_landUnit 14 = .ok (.goto 11, 3) := by decide +kernel
theorem dX10_landUnit_17 : decode cX10_landUnit 17 = .ok (.aload_n 0, 1) := by decide +kernel
theorem dX10_landUnit_18 : decode cX10_landUnit 18 = .ok (.iload_n 2, 1) := by decide +kernel
theorem dX10_landUnit_19 : decode cX10_landUnit 19 = .ok (.iload_n 3, 1) := by decide +kernel
theorem dX10_landUnit_20 : decode cX10_landUnit 20 = .ok (.iload 4, 2) := by decide +kernel
theorem dX10_landUnit_22 : decode cX10_landUnit 22 = .ok (.invokevirtual 503, 3) := by decide +kernel
theorem dX10_landUnit_25 : decode cX10_landUnit 25 = .ok (.ireturn, 1) := by decide +kernel
theorem dX10_land_0 : decode cX10_land 0 = .ok (.aload_n 0, 1) := by decide +kernel
theorem dX10_land_1 : decode cX10_land 1 = .ok (.iconst 0, 1) := by decide +kernel
theorem dX10_land_2 : decode cX10_land 2 = .ok (.putfield 153, 3) := by decide +kernel
theorem dX10_land_5 : decode cX10_land 5 = .ok (.iload_n 1, 1) := by decide +kernel
theorem dX10_land_6 : decode cX10_land 6 = .ok (.ifCond .lt 24, 3) := by decide +kernel
theorem dX10_land_9 : decode cX10_land 9 = .ok (.iload_n 1, 1) := by decide +kernel
theorem dX10_land_10 : decode cX10_land 10 = .ok (.aload_n 0, 1) := by decide +kernel
theorem dX10_land_11 : decode cX10_land 11 = .ok (.getfield 337, 3) := by decide +kernel
theorem dX10_land_14 : decode cX10_land 14 = .ok (.if_icmp .ge 16, 3) := by decide +kernel
theorem dX10_land_17 : decode cX10_land 17 = .ok (.iload_n 2, 1) := by decide +kernel
theorem dX10_land_18 : decode cX10_land 18 = .ok (.iload_n 3, 1) := by decide +kernel
theorem dX10_land_19 : decode cX10_land 19 = .ok (.iload 4, 2) := by decide +kernel
theorem dX10_land_21 : decode cX10_land 21 = .ok (.sipush 1000, 3) := by decide +kernel
theorem dX10_land_24 : decode cX10_land 24 = .ok (.invokestatic 499, 3) := by decide +kernel
theorem dX10_land_27 : decode cX10_land 27 = .ok (.ifCond .ne 5, 3) := by decide +kernel
theorem dX10_land_30 : decode cX10_land 30 = .ok (.iconst (-1), 1) := by decide +kernel
theorem dX10_land_31 : decode cX10_land 31 = .ok (.ireturn, 1) := by decide +kernel
theorem dX10_land_32 : decode cX10_land 32 = .ok (.aload_n 0, 1) := by decide +kernel
theorem dX10_land_33 : decode cX10_land 33 = .ok (.invokevirtual 440, 3) := by decide +kernel
theorem dX10_land_36 : decode cX10_land 36 = .ok (.aload_n 0, 1) := by decide +kernel
theorem dX10_land_37 : decode cX10_land 37 = .ok (.iload_n 1, 1) := by decide +kernel
theorem dX10_land_38 : decode cX10_land 38 = .ok (.iload_n 2, 1) := by decide +kernel
theorem dX10_land_39 : decode cX10_land 39 = .ok (.iload_n 3, 1) := by decide +kernel
theorem dX10_land_40 : decode cX10_land 40 = .ok (.iload 4, 2) := by decide +kernel
theorem dX10_land_42 : decode cX10_land 42 = .ok (.invokevirtual 529, 3) := by decide +kernel
theorem dX10_land_45 : decode cX10_land 45 = .ok (.ireturn, 1) := by decide +kernel
theorem dX10_apart_0 : decode cX10_apart 0 = .ok (.aload_n 0, 1) := by decide +kernel
theorem dX10_apart_1 : decode cX10_apart 1 = .ok (.iconst 0, 1) := by decide +kernel
theorem dX10_apart_2 : decode cX10_apart 2 = .ok (.putfield 153, 3) := by decide +kernel
theorem dX10_apart_5 : decode cX10_apart 5 = .ok (.iload_n 1, 1) := by decide +kernel
theorem dX10_apart_6 : decode cX10_apart 6 = .ok (.iload_n 2, 1) := by decide +kernel
theorem dX10_apart_7 : decode cX10_apart 7 = .ok (.iload_n 3, 1) := by decide +kernel
theorem dX10_apart_8 : decode cX10_apart 8 = .ok (.sipush 1000, 3) := by decide +kernel
theorem dX10_apart_11 : decode cX10_apart 11 = .ok (.invokestatic 499, 3) := by decide +kernel
theorem dX10_apart_14 : decode cX10_apart 14 = .ok (.ifCond .ne 5, 3) := by decide +kernel
theorem dX10_apart_17 : decode cX10_apart 17 = .ok (.iconst (-1), 1) := by decide +kernel
theorem dX10_apart_18 : decode cX10_apart 18 = .ok (.ireturn, 1) := by decide +kernel
theorem dX10_apart_19 : decode cX10_apart 19 = .ok (.aload_n 0, 1) := by decide +kernel
theorem dX10_apart_20 : decode cX10_apart 20 = .ok (.invokevirtual 440, 3) := by decide +kernel
theorem dX10_apart_23 : decode cX10_apart 23 = .ok (.iconst (-1), 1) := by decide +kernel
theorem dX10_apart_24 : decode cX10_apart 24 = .ok (.istore 4, 2) := by decide +kernel
theorem dX10_apart_26 : decode cX10_apart 26 = .ok (.iconst (-1), 1) := by decide +kernel
theorem dX10_apart_27 : decode cX10_apart 27 = .ok (.istore 5, 2) := by decide +kernel
theorem dX10_apart_29 : decode cX10_apart 29 = .ok (.iconst 0, 1) := by decide +kernel
theorem dX10_apart_30 : decode cX10_apart 30 = .ok (.istore 6, 2) := by decide +kernel
theorem dX10_apart_32 : decode cX10_apart 32 = .ok (.iload 6, 2) := by decide +kernel
theorem dX10_apart_34 : decode cX10_apart 34 = .ok (.aload_n 0, 1) := by decide +kernel
theorem dX10_apart_35 : decode cX10_apart 35 = .ok (.getfield 337, 3) := by decide +kernel
theorem dX10_apart_38 : decode cX10_apart 38 = .ok (.if_icmp .ge 58, 3) := by decide +kernel
theorem dX10_apart_41 : decode cX10_apart 41 = .ok (.aload_n 0, 1) := by decide +kernel
theorem dX10_apart_42 : decode cX10_apart 42 = .ok (.iload 6, 2) := by decide +kernel
theorem dX10_apart_44 : decode cX10_apart 44 = .ok (.iload_n 1, 1) := by decide +kernel
theorem dX10_apart_45 : decode cX10_apart 45 = .ok (.iload_n 2, 1) := by decide +kernel
theorem dX10_apart_46 : decode cX10_apart 46 = .ok (.iload_n 3, 1) := by decide +kernel
theorem dX10_apart_47 : decode cX10_apart 47 = .ok (.invokevirtual 529, 3) := by decide +kernel
theorem dX10_apart_50 : decode cX10_apart 50 = .ok (.istore 7, 2) := by decide +kernel
theorem dX10_apart_52 : decode cX10_apart 52 = .ok (.iload 7, 2) := by decide +kernel
theorem dX10_apart_54 : decode cX10_apart 54 = .ok (.iconst (-1), 1) := by decide +kernel
theorem dX10_apart_55 : decode cX10_apart 55 = .ok (.if_icmp .ne 6, 3) := by decide +kernel
theorem dX10_apart_58 : decode cX10_apart 58 = .ok (.goto 32, 3) := by decide +kernel
theorem dX10_apart_61 : decode cX10_apart 61 = .ok (.iload 4, 2) := by decide +kernel
theorem dX10_apart_63 : decode cX10_apart 63 = .ok (.iconst (-1), 1) := by decide +kernel
theorem dX10_apart_64 : decode cX10_apart 64 = .ok (.if_icmp .ne 8, 3) := by decide +kernel
theorem dX10_apart_67 : decode cX10_apart 67 = .ok (.iload 7, 2) := by decide +kernel
theorem dX10_apart_69 : decode cX10_apart 69 = .ok (.goto 10, 3) := by decide +kernel
theorem dX10_apart_72 : decode cX10_apart 72 = .ok (.iload 4, 2) := by decide +kernel
theorem dX10_apart_74 : decode cX10_apart 74 = .ok (.iload 7, 2) := by decide +kernel
theorem dX10_apart_76 : decode cX10_apart 76 = .ok (.invokestatic 285, 3) := by decide +kernel
theorem dX10_apart_79 : decode cX10_apart 79 = .ok (.istore 4, 2) := by decide +kernel
theorem dX10_apart_81 : decode cX10_apart 81 = .ok (.iload 5, 2) := by decide +kernel
theorem dX10_apart_83 : decode cX10_apart 83 = .ok (.iload 7, 2) := by decide +kernel
theorem dX10_apart_85 : decode cX10_apart 85 = .ok (.invokestatic 452, 3) := by decide +kernel
theorem dX10_apart_88 : decode cX10_apart 88 = .ok (.istore 5, 2) := by decide +kernel
theorem dX10_apart_90 : decode cX10_apart 90 = .ok (.iinc 6 1, 3) := by decide +kernel
theorem dX10_apart_93 : decode cX10_apart 93 = .ok (.goto (-61), 3) := by decide +kernel
theorem dX10_apart_96 : decode cX10_apart 96 = .ok (.iload 4, 2) := by decide +kernel
theorem dX10_apart_98 : decode cX10_apart 98 = .ok (.iconst (-1), 1) := by decide +kernel
theorem dX10_apart_99 : decode cX10_apart 99 = .ok (.if_icmp .ne 7, 3) := by decide +kernel
theorem dX10_apart_102 : decode cX10_apart 102 = .ok (.iconst (-1), 1) := by decide +kernel
theorem dX10_apart_103 : decode cX10_apart 103 = .ok (.goto 8, 3) := by decide +kernel
theorem dX10_apart_106 : decode cX10_apart 106 = .ok (.iload 5, 2) := by decide +kernel
theorem dX10_apart_108 : decode cX10_apart 108 = .ok (.iload 4, 2) := by decide +kernel
theorem dX10_apart_110 : decode cX10_apart 110 = .ok (.isub, 1) := by decide +kernel
theorem dX10_apart_111 : decode cX10_apart 111 = .ok (.ireturn, 1) := by decide +kernel
theorem dX10_sort_0 : decode cX10_sort 0 = .ok (.aload_n 0, 1) := by decide +kernel
theorem dX10_sort_1 : decode cX10_sort 1 = .ok (.iconst 0, 1) := by decide +kernel
theorem dX10_sort_2 : decode cX10_sort 2 = .ok (.putfield 153, 3) := by decide +kernel
theorem dX10_sort_5 : decode cX10_sort 5 = .ok (.iload_n 1, 1) := by decide +kernel
theorem dX10_sort_6 : decode cX10_sort 6 = .ok (.ifCond .lt 24, 3) := by decide +kernel
theorem dX10_sort_9 : decode cX10_sort 9 = .ok (.iload_n 1, 1) := by decide +kernel
theorem dX10_sort_10 : decode cX10_sort 10 = .ok (.iconst 2, 1) := by decide +kernel
theorem dX10_sort_11 : decode cX10_sort 11 = .ok (.if_icmp .gt 19, 3) := by decide +kernel
theorem dX10_sort_14 : decode cX10_sort 14 = .ok (.iload_n 2, 1) := by decide +kernel
theorem dX10_sort_15 : decode cX10_sort 15 = .ok (.invokestatic 460, 3) := by decide +kernel
theorem dX10_sort_18 : decode cX10_sort 18 = .ok (.ifCond .eq 12, 3) := by decide +kernel
theorem dX10_sort_21 : decode cX10_sort 21 = .ok (.iload_n 3, 1) := by decide +kernel
theorem dX10_sort_22 : decode cX10_sort 22 = .ok (.ifCond .lt 8, 3) := by decide +kernel
theorem dX10_sort_25 : decode cX10_sort 25 = .ok (.iload_n 3, 1) := by decide +kernel
theorem dX10_sort_26 : decode cX10_sort 26 = .ok (.iconst 1, 1) := by decide +kernel
theorem dX10_sort_27 : decode cX10_sort 27 = .ok (.if_icmp .le 5, 3) := by decide +kernel
theorem dX10_sort_30 : decode cX10_sort 30 = .ok (.iconst (-1), 1) := by decide +kernel
theorem dX10_sort_31 : decode cX10_sort 31 = .ok (.ireturn, 1) := by decide +kernel
theorem dX10_sort_32 : decode cX10_sort 32 = .ok (.aload_n 0, 1) := by decide +kernel
theorem dX10_sort_33 : decode cX10_sort 33 = .ok (.invokevirtual 440, 3) := by decide +kernel
theorem dX10_sort_36 : decode cX10_sort 36 = .ok (.aload_n 0, 1) := by decide +kernel
theorem dX10_sort_37 : decode cX10_sort 37 = .ok (.iconst (-1), 1) := by decide +kernel
theorem dX10_sort_38 : decode cX10_sort 38 = .ok (.iload_n 1, 1) := by decide +kernel
theorem dX10_sort_39 : decode cX10_sort 39 = .ok (.invokevirtual 493, 3) := by decide +kernel
theorem dX10_sort_42 : decode cX10_sort 42 = .ok (.iload_n 3, 1) := by decide +kernel
theorem dX10_sort_43 : decode cX10_sort 43 = .ok (.ifCond .ne 11, 3) := by decide +kernel
theorem dX10_sort_46 : decode cX10_sort 46 = .ok (.aload_n 0, 1) := by decide +kernel
theorem dX10_sort_47 : decode cX10_sort 47 = .ok (.iload_n 2, 1) := by decide +kernel
theorem dX10_sort_48 : decode cX10_sort 48 = .ok (.invokevirtual 496, 3) := by decide +kernel
theorem dX10_sort_51 : decode cX10_sort 51 = .ok (.goto 7, 3) := by decide +kernel
theorem dX10_sort_54 : decode cX10_sort 54 = .ok (.aload_n 0, 1) := by decide +kernel
theorem dX10_sort_55 : decode cX10_sort 55 = .ok (.invokevirtual 507, 3) := by decide +kernel
theorem dX10_sort_58 : decode cX10_sort 58 = .ok (.ireturn, 1) := by decide +kernel
theorem dX10_blind_0 : decode cX10_blind 0 = .ok (.aload_n 0, 1) := by decide +kernel
theorem dX10_blind_1 : decode cX10_blind 1 = .ok (.iconst 0, 1) := by decide +kernel
theorem dX10_blind_2 : decode cX10_blind 2 = .ok (.putfield 153, 3) := by decide +kernel
theorem dX10_blind_5 : decode cX10_blind 5 = .ok (.iload_n 1, 1) := by decide +kernel
theorem dX10_blind_6 : decode cX10_blind 6 = .ok (.invokestatic 460, 3) := by decide +kernel
theorem dX10_blind_9 : decode cX10_blind 9 = .ok (.ifCond .eq 12, 3) := by decide +kernel
theorem dX10_blind_12 : decode cX10_blind 12 = .ok (.iload_n 2, 1) := by decide +kernel
theorem dX10_blind_13 : decode cX10_blind 13 = .ok (.ifCond .lt 8, 3) := by decide +kernel
theorem dX10_blind_16 : decode cX10_blind 16 = .ok (.iload_n 2, 1) := by decide +kernel
theorem dX10_blind_17 : decode cX10_blind 17 = .ok (.iconst 3, 1) := by decide +kernel
theorem dX10_blind_18 : decode cX10_blind 18 = .ok (.if_icmp .le 5, 3) := by decide +kernel
theorem dX10_blind_21 : decode cX10_blind 21 = .ok (.iconst (-1), 1) := by decide +kernel
theorem dX10_blind_22 : decode cX10_blind 22 = .ok (.ireturn, 1) := by decide +kernel
theorem dX10_blind_23 : decode cX10_blind 23 = .ok (.iconst 0, 1) := by decide +kernel
theorem dX10_blind_24 : decode cX10_blind 24 = .ok (.istore_n 3, 1) := by decide +kernel
theorem dX10_blind_25 : decode cX10_blind 25 = .ok (.iconst 0, 1) := by decide +kernel
theorem dX10_blind_26 : decode cX10_blind 26 = .ok (.istore 4, 2) := by decide +kernel
theorem dX10_blind_28 : decode cX10_blind 28 = .ok (.iconst 0, 1) := by decide +kernel
theorem dX10_blind_29 : decode cX10_blind 29 = .ok (.istore 5, 2) := by decide +kernel
theorem dX10_blind_31 : decode cX10_blind 31 = .ok (.iload 5, 2) := by decide +kernel
theorem dX10_blind_33 : decode cX10_blind 33 = .ok (.aload_n 0, 1) := by decide +kernel
theorem dX10_blind_34 : decode cX10_blind 34 = .ok (.getfield 346, 3) := by decide +kernel
theorem dX10_blind_37 : decode cX10_blind 37 = .ok (.if_icmp .ge 53, 3) := by decide +kernel
theorem dX10_blind_40 : decode cX10_blind 40 = .ok (.aload_n 0, 1) := by decide +kernel
theorem dX10_blind_41 : decode cX10_blind 41 = .ok (.getfield 67, 3) := by decide +kernel
theorem dX10_blind_44 : decode cX10_blind 44 = .ok (.iload 5, 2) := by decide +kernel
theorem dX10_blind_46 : decode cX10_blind 46 = .ok (.baload, 1) := by decide +kernel
theorem dX10_blind_47 : decode cX10_blind 47 = .ok (.iload_n 2, 1) := by decide +kernel
theorem dX10_blind_48 : decode cX10_blind 48 = .ok (.iconst 2, 1) := by decide +kernel
theorem dX10_blind_49 : decode cX10_blind 49 = .ok (.if_icmp .ge 7, 3) := by decide +kernel
theorem dX10_blind_52 : decode cX10_blind 52 = .ok (.iconst 1, 1) := by decide +kernel
theorem dX10_blind_53 : decode cX10_blind 53 = .ok (.goto 4, 3) := by decide +kernel
theorem dX10_blind_56 : decode cX10_blind 56 = .ok (.iconst 0, 1) := by decide +kernel
theorem dX10_blind_57 : decode cX10_blind 57 = .ok (.if_icmp .eq 6, 3) := by decide +kernel
theorem dX10_blind_60 : decode cX10_blind 60 = .ok (.goto 24, 3) := by decide +kernel
theorem dX10_blind_63 : decode cX10_blind 63 = .ok (.iload_n 3, 1) := by decide +kernel
theorem dX10_blind_64 : decode cX10_blind 64 = .ok (.aload_n 0, 1) := by decide +kernel
theorem dX10_blind_65 : decode cX10_blind 65 = .ok (.getfield 64, 3) := by decide +kernel
theorem dX10_blind_68 : decode cX10_blind 68 = .ok (.iload 5, 2) := by decide +kernel
theorem dX10_blind_70 : decode cX10_blind 70 = .ok (.iaload, 1) := by decide +kernel
theorem dX10_blind_71 : decode cX10_blind 71 = .ok (.aload_n 0, 1) := by decide +kernel
theorem dX10_blind_72 : decode cX10_blind 72 = .ok (.iload_n 1, 1) := by decide +kernel
theorem dX10_blind_73 : decode cX10_blind 73 = .ok (.invokevirtual 463, 3) := by decide +kernel
theorem dX10_blind_76 : decode cX10_blind 76 = .ok (.invokestatic 466, 3) := by decide +kernel
theorem dX10_blind_79 : decode cX10_blind 79 = .ok (.iadd, 1) := by decide +kernel
theorem dX10_blind_80 : decode cX10_blind 80 = .ok (.istore_n 3, 1) := by decide +kernel
theorem dX10_blind_81 : decode cX10_blind 81 = .ok (.iinc 4 1, 3) := by decide +kernel
theorem dX10_blind_84 : decode cX10_blind 84 = .ok (.iinc 5 1, 3) := by decide +kernel
theorem dX10_blind_87 : decode cX10_blind 87 = .ok (.goto (-56), 3) := by decide +kernel
theorem dX10_blind_90 : decode cX10_blind 90 = .ok (.iload_n 2, 1) := by decide +kernel
theorem dX10_blind_91 : decode cX10_blind 91 = .ok (.iconst 2, 1) := by decide +kernel
theorem dX10_blind_92 : decode cX10_blind 92 = .ok (.irem, 1) := by decide +kernel
theorem dX10_blind_93 : decode cX10_blind 93 = .ok (.ifCond .ne 7, 3) := by decide +kernel
theorem dX10_blind_96 : decode cX10_blind 96 = .ok (.iload_n 3, 1) := by decide +kernel
theorem dX10_blind_97 : decode cX10_blind 97 = .ok (.goto 5, 3) := by decide +kernel
theorem dX10_blind_100 : decode cX10_blind 100 = .ok (.iload 4, 2) := by decide +kernel
theorem dX10_blind_102 : decode cX10_blind 102 = .ok (.ireturn, 1) := by decide +kernel
theorem dX10_lean_0 : decode cX10_lean 0 = .ok (.aload_n 0, 1) := by decide +kernel
theorem dX10_lean_1 : decode cX10_lean 1 = .ok (.iconst 0, 1) := by decide +kernel
theorem dX10_lean_2 : decode cX10_lean 2 = .ok (.putfield 153, 3) := by decide +kernel
theorem dX10_lean_5 : decode cX10_lean 5 = .ok (.iload_n 1, 1) := by decide +kernel
theorem dX10_lean_6 : decode cX10_lean 6 = .ok (.ifCond .lt 20, 3) := by decide +kernel
theorem dX10_lean_9 : decode cX10_lean 9 = .ok (.iload_n 1, 1) := by decide +kernel
theorem dX10_lean_10 : decode cX10_lean 10 = .ok (.aload_n 0, 1) := by decide +kernel
theorem dX10_lean_11 : decode cX10_lean 11 = .ok (.getfield 349, 3) := by decide +kernel
theorem dX10_lean_14 : decode cX10_lean 14 = .ok (.if_icmp .ge 12, 3) := by decide +kernel
theorem dX10_lean_17 : decode cX10_lean 17 = .ok (.iload_n 2, 1) := by decide +kernel
theorem dX10_lean_18 : decode cX10_lean 18 = .ok (.ifCond .lt 8, 3) := by decide +kernel
theorem dX10_lean_21 : decode cX10_lean 21 = .ok (.iload_n 2, 1) := by decide +kernel
theorem dX10_lean_22 : decode cX10_lean 22 = .ok (.iconst 1, 1) := by decide +kernel
theorem dX10_lean_23 : decode cX10_lean 23 = .ok (.if_icmp .le 7, 3) := by decide +kernel
theorem dX10_lean_26 : decode cX10_lean 26 = .ok (.ldc_w 430, 3) := by decide +kernel
theorem dX10_lean_29 : decode cX10_lean 29 = .ok (.ireturn, 1) := by decide +kernel
theorem dX10_lean_30 : decode cX10_lean 30 = .ok (.aload_n 0, 1) := by decide +kernel
theorem dX10_lean_31 : decode cX10_lean 31 = .ok (.invokevirtual 440, 3) := by decide +kernel
theorem dX10_lean_34 : decode cX10_lean 34 = .ok (.lconst 0, 1) := by decide +kernel
theorem dX10_lean_35 : decode cX10_lean 35 = .ok (.lstore_n 3, 1) := by decide +kernel
theorem dX10_lean_36 : decode cX10_lean 36 = .ok (.lconst 0, 1) := by decide +kernel
theorem dX10_lean_37 : decode cX10_lean 37 = .ok (.lstore 5, 2) := by decide +kernel
theorem dX10_lean_39 : decode cX10_lean 39 = .ok (.iconst 0, 1) := by decide +kernel
theorem dX10_lean_40 : decode cX10_lean 40 = .ok (.istore 7, 2) := by decide +kernel
theorem dX10_lean_42 : decode cX10_lean 42 = .ok (.iload 7, 2) := by decide +kernel
theorem dX10_lean_44 : decode cX10_lean 44 = .ok (.aload_n 0, 1) := by decide +kernel
theorem dX10_lean_45 : decode cX10_lean 45 = .ok (.getfield 346, 3) := by decide +kernel
theorem dX10_lean_48 : decode cX10_lean 48 = .ok (.if_icmp .ge 66, 3) := by decide +kernel
theorem dX10_lean_51 : decode cX10_lean 51 = .ok (.aload_n 0, 1) := by decide +kernel
theorem dX10_lean_52 : decode cX10_lean 52 = .ok (.getfield 58, 3) := by decide +kernel
theorem dX10_lean_55 : decode cX10_lean 55 = .ok (.iload 7, 2) := by decide +kernel
theorem dX10_lean_57 : decode cX10_lean 57 = .ok (.iaload, 1) := by decide +kernel
theorem dX10_lean_58 : decode cX10_lean 58 = .ok (.iload_n 1, 1) := by decide +kernel
theorem dX10_lean_59 : decode cX10_lean 59 = .ok (.if_icmp .ne 49, 3) := by decide +kernel
theorem dX10_lean_62 : decode cX10_lean 62 = .ok (.aload_n 0, 1) := by decide +kernel
theorem dX10_lean_63 : decode cX10_lean 63 = .ok (.aload_n 0, 1) := by decide +kernel
theorem dX10_lean_64 : decode cX10_lean 64 = .ok (.getfield 61, 3) := by decide +kernel
theorem dX10_lean_67 : decode cX10_lean 67 = .ok (.iload 7, 2) := by decide +kernel
theorem dX10_lean_69 : decode cX10_lean 69 = .ok (.iaload, 1) := by decide +kernel
theorem dX10_lean_70 : decode cX10_lean 70 = .ok (.invokevirtual 443, 3) := by decide +kernel
theorem dX10_lean_73 : decode cX10_lean 73 = .ok (.ifCond .ne 6, 3) := by decide +kernel
theorem dX10_lean_76 : decode cX10_lean 76 = .ok (.goto 32, 3) := by decide +kernel
theorem dX10_lean_79 : decode cX10_lean 79 = .ok (.lload_n 3, 1) := by decide +kernel
theorem dX10_lean_80 : decode cX10_lean 80 = .ok (.aload_n 0, 1) := by decide +kernel
theorem dX10_lean_81 : decode cX10_lean 81 = .ok (.getfield 64, 3) := by decide +kernel
theorem dX10_lean_84 : decode cX10_lean 84 = .ok (.iload 7, 2) := by decide +kernel
theorem dX10_lean_86 : decode cX10_lean 86 = .ok (.iaload, 1) := by decide +kernel
theorem dX10_lean_87 : decode cX10_lean 87 = .ok (.aload_n 0, 1) := by decide +kernel
theorem dX10_lean_88 : decode cX10_lean 88 = .ok (.aload_n 0, 1) := by decide +kernel
theorem dX10_lean_89 : decode cX10_lean 89 = .ok (.getfield 61, 3) := by decide +kernel
theorem dX10_lean_92 : decode cX10_lean 92 = .ok (.iload 7, 2) := by decide +kernel
theorem dX10_lean_94 : decode cX10_lean 94 = .ok (.iaload, 1) := by decide +kernel
theorem dX10_lean_95 : decode cX10_lean 95 = .ok (.invokevirtual 446, 3) := by decide +kernel
theorem dX10_lean_98 : decode cX10_lean 98 = .ok (.isub, 1) := by decide +kernel
theorem dX10_lean_99 : decode cX10_lean 99 = .ok (.i2l, 1) := by decide +kernel
theorem dX10_lean_100 : decode cX10_lean 100 = .ok (.ladd, 1) := by decide +kernel
theorem dX10_lean_101 : decode cX10_lean 101 = .ok (.lstore_n 3, 1) := by decide +kernel
theorem dX10_lean_102 : decode cX10_lean 102 = .ok (.lload 5, 2) := by decide +kernel
theorem dX10_lean_104 : decode cX10_lean 104 = .ok (.lconst 1, 1) := by decide +kernel
theorem dX10_lean_105 : decode cX10_lean 105 = .ok (.ladd, 1) := by decide +kernel
theorem dX10_lean_106 : decode cX10_lean 106 = .ok (.lstore 5, 2) := by decide +kernel
theorem dX10_lean_108 : decode cX10_lean 108 = .ok (.iinc 7 1, 3) := by decide +kernel
theorem dX10_lean_111 : decode cX10_lean 111 = .ok (.goto (-69), 3) := by decide +kernel
theorem dX10_lean_114 : decode cX10_lean 114 = .ok (.lload 5, 2) := by decide +kernel
theorem dX10_lean_116 : decode cX10_lean 116 = .ok (.lconst 0, 1) := by decide +kernel
theorem dX10_lean_117 : decode cX10_lean 117 = .ok (.lcmp, 1) := by decide +kernel
theorem dX10_lean_118 : decode cX10_lean 118 = .ok (.ifCond .ne 5, 3) := by decide +kernel
theorem dX10_lean_121 : decode cX10_lean 121 = .ok (.iconst 0, 1) := by decide +kernel
theorem dX10_lean_122 : decode cX10_lean 122 = .ok (.ireturn, 1) := by decide +kernel
theorem dX10_lean_123 : decode cX10_lean 123 = .ok (.lload_n 3, 1) := by decide +kernel
theorem dX10_lean_124 : decode cX10_lean 124 = .ok (.lload 5, 2) := by decide +kernel
theorem dX10_lean_126 : decode cX10_lean 126 = .ok (.invokestatic 525, 3) := by decide +kernel
theorem dX10_lean_129 : decode cX10_lean 129 = .ok (.lstore 7, 2) := by decide +kernel
theorem dX10_lean_131 : decode cX10_lean 131 = .ok (.iload_n 2, 1) := by decide +kernel
theorem dX10_lean_132 : decode cX10_lean 132 = .ok (.ifCond .ne 10, 3) := by decide +kernel
theorem dX10_lean_135 : decode cX10_lean 135 = .ok (.lload_n 3, 1) := by decide +kernel
theorem dX10_lean_136 : decode cX10_lean 136 = .ok (.lload 7, 2) := by decide +kernel
theorem dX10_lean_138 : decode cX10_lean 138 = .ok (.ldiv, 1) := by decide +kernel
theorem dX10_lean_139 : decode cX10_lean 139 = .ok (.goto 8, 3) := by decide +kernel
theorem dX10_lean_142 : decode cX10_lean 142 = .ok (.lload 5, 2) := by decide +kernel
theorem dX10_lean_144 : decode cX10_lean 144 = .ok (.lload 7, 2) := by decide +kernel
theorem dX10_lean_146 : decode cX10_lean 146 = .ok (.ldiv, 1) := by decide +kernel
theorem dX10_lean_147 : decode cX10_lean 147 = .ok (.l2i, 1) := by decide +kernel
theorem dX10_lean_148 : decode cX10_lean 148 = .ok (.ireturn, 1) := by decide +kernel
theorem dX10_ahead_0 : decode cX10_ahead 0 = .ok (.aload_n 0, 1) := by decide +kernel
theorem dX10_ahead_1 : decode cX10_ahead 1 = .ok (.iconst 0, 1) := by decide +kernel
theorem dX10_ahead_2 : decode cX10_ahead 2 = .ok (.putfield 153, 3) := by decide +kernel
theorem dX10_ahead_5 : decode cX10_ahead 5 = .ok (.iload_n 1, 1) := by decide +kernel
theorem dX10_ahead_6 : decode cX10_ahead 6 = .ok (.ifCond .lt 35, 3) := by decide +kernel
theorem dX10_ahead_9 : decode cX10_ahead 9 = .ok (.iload_n 1, 1) := by decide +kernel
theorem dX10_ahead_10 : decode cX10_ahead 10 = .ok (.aload_n 0, 1) := by decide +kernel
theorem dX10_ahead_11 : decode cX10_ahead 11 = .ok (.getfield 355, 3) := by decide +kernel
theorem dX10_ahead_14 : decode cX10_ahead 14 = .ok (.if_icmp .gt 27, 3) := by decide +kernel
theorem dX10_ahead_17 : decode cX10_ahead 17 = .ok (.iload_n 2, 1) := by decide +kernel
theorem dX10_ahead_18 : decode cX10_ahead 18 = .ok (.iload_n 3, 1) := by decide +kernel
theorem dX10_ahead_19 : decode cX10_ahead 19 = .ok (.iload 4, 2) := by decide +kernel
theorem dX10_ahead_21 : decode cX10_ahead 21 = .ok (.sipush 1000, 3) := by decide +kernel
theorem dX10_ahead_24 : decode cX10_ahead 24 = .ok (.invokestatic 499, 3) := by decide +kernel
theorem dX10_ahead_27 : decode cX10_ahead 27 = .ok (.ifCond .eq 14, 3) := by decide +kernel
theorem dX10_ahead_30 : decode cX10_ahead 30 = .ok (.iload 5, 2) := by decide +kernel
theorem dX10_ahead_32 : decode cX10_ahead 32 = .ok (.ifCond .lt 9, 3) := by decide +kernel
theorem dX10_ahead_35 : decode cX10_ahead 35 = .ok (.iload 5, 2) := by decide +kernel
theorem dX10_ahead_37 : decode cX10_ahead 37 = .ok (.iconst 2, 1) := by decide +kernel
theorem dX10_ahead_38 : decode cX10_ahead 38 = .ok (.if_icmp .le 5, 3) := by decide +kernel
theorem dX10_ahead_41 : decode cX10_ahead 41 = .ok (.iconst (-1), 1) := by decide +kernel
theorem dX10_ahead_42 : decode cX10_ahead 42 = .ok (.ireturn, 1) := by decide +kernel
theorem dX10_ahead_43 : decode cX10_ahead 43 = .ok (.aload_n 0, 1) := by decide +kernel
theorem dX10_ahead_44 : decode cX10_ahead 44 = .ok (.iload_n 1, 1) := by decide +kernel
theorem dX10_ahead_45 : decode cX10_ahead 45 = .ok (.invokevirtual 434, 3) := by decide +kernel
theorem dX10_ahead_48 : decode cX10_ahead 48 = .ok (.aload_n 0, 1) := by decide +kernel
theorem dX10_ahead_49 : decode cX10_ahead 49 = .ok (.iconst (-1), 1) := by decide +kernel
theorem dX10_ahead_50 : decode cX10_ahead 50 = .ok (.iconst (-1), 1) := by decide +kernel
theorem dX10_ahead_51 : decode cX10_ahead 51 = .ok (.invokevirtual 493, 3) := by decide +kernel
theorem dX10_ahead_54 : decode cX10_ahead 54 = .ok (.aload_n 0, 1) := by decide +kernel
theorem dX10_ahead_55 : decode cX10_ahead 55 = .ok (.iload_n 2, 1) := by decide +kernel
theorem dX10_ahead_56 : decode cX10_ahead 56 = .ok (.iload_n 3, 1) := by decide +kernel
theorem dX10_ahead_57 : decode cX10_ahead 57 = .ok (.iload 4, 2) := by decide +kernel
theorem dX10_ahead_59 : decode cX10_ahead 59 = .ok (.invokevirtual 503, 3) := by decide +kernel
theorem dX10_ahead_62 : decode cX10_ahead 62 = .ok (.istore 6, 2) := by decide +kernel
theorem dX10_ahead_64 : decode cX10_ahead 64 = .ok (.iconst 0, 1) := by decide +kernel
theorem dX10_ahead_65 : decode cX10_ahead 65 = .ok (.istore 7, 2) := by decide +kernel
theorem dX10_ahead_67 : decode cX10_ahead 67 = .ok (.iload 7, 2) := by decide +kernel
theorem dX10_ahead_69 : decode cX10_ahead 69 = .ok (.aload_n 0, 1) := by decide +kernel
theorem dX10_ahead_70 : decode cX10_ahead 70 = .ok (.getfield 340, 3) := by decide +kernel
theorem dX10_ahead_73 : decode cX10_ahead 73 = .ok (.if_icmp .ge 23, 3) := by decide +kernel
theorem dX10_ahead_76 : decode cX10_ahead 76 = .ok (.aload_n 0, 1) := by decide +kernel
theorem dX10_ahead_77 : decode cX10_ahead 77 = .ok (.getfield 150, 3) := by decide +kernel
theorem dX10_ahead_80 : decode cX10_ahead 80 = .ok (.iload 7, 2) := by decide +kernel
theorem dX10_ahead_82 : decode cX10_ahead 82 = .ok (.aload_n 0, 1) := by decide +kernel
theorem dX10_ahead_83 : decode cX10_ahead 83 = .ok (.getfield 144, 3) := by decide +kernel
theorem dX10_ahead_86 : decode cX10_ahead 86 = .ok (.iload 7, 2) := by decide +kernel
theorem dX10_ahead_88 : decode cX10_ahead 88 = .ok (.iaload, 1) := by decide +kernel
theorem dX10_ahead_89 : decode cX10_ahead 89 = .ok (.iastore, 1) := by decide +kernel
theorem dX10_ahead_90 : decode cX10_ahead 90 = .ok (.iinc 7 1, 3) := by decide +kernel
theorem dX10_ahead_93 : decode cX10_ahead 93 = .ok (.goto (-26), 3) := by decide +kernel
theorem dX10_ahead_96 : decode cX10_ahead 96 = .ok (.aload_n 0, 1) := by decide +kernel
theorem dX10_ahead_97 : decode cX10_ahead 97 = .ok (.iconst 0, 1) := by decide +kernel
theorem dX10_ahead_98 : decode cX10_ahead 98 = .ok (.putfield 358, 3) := by decide +kernel
theorem dX10_ahead_101 : decode cX10_ahead 101 = .ok (.aload_n 0, 1) := by decide +kernel
theorem dX10_ahead_102 : decode cX10_ahead 102 = .ok (.invokevirtual 440, 3) := by decide +kernel
theorem dX10_ahead_105 : decode cX10_ahead 105 = .ok (.iconst 0, 1) := by decide +kernel
theorem dX10_ahead_106 : decode cX10_ahead 106 = .ok (.istore 7, 2) := by decide +kernel
theorem dX10_ahead_108 : decode cX10_ahead 108 = .ok (.iconst 0, 1) := by decide +kernel
theorem dX10_ahead_109 : decode cX10_ahead 109 = .ok (.istore 8, 2) := by decide +kernel
theorem dX10_ahead_111 : decode cX10_ahead 111 = .ok (.iconst 0, 1) := by decide +kernel
theorem dX10_ahead_112 : decode cX10_ahead 112 = .ok (.istore 9, 2) := by decide +kernel
theorem dX10_ahead_114 : decode cX10_ahead 114 = .ok (.iload 9, 2) := by decide +kernel
theorem dX10_ahead_116 : decode cX10_ahead 116 = .ok (.aload_n 0, 1) := by decide +kernel
theorem dX10_ahead_117 : decode cX10_ahead 117 = .ok (.getfield 340, 3) := by decide +kernel
theorem dX10_ahead_120 : decode cX10_ahead 120 = .ok (.if_icmp .ge 67, 3) := by decide +kernel
theorem dX10_ahead_123 : decode cX10_ahead 123 = .ok (.aload_n 0, 1) := by decide +kernel
theorem dX10_ahead_124 : decode cX10_ahead 124 = .ok (.iload 9, 2) := by decide +kernel
theorem dX10_ahead_126 : decode cX10_ahead 126 = .ok (.invokevirtual 443, 3) := by decide +kernel
theorem dX10_ahead_129 : decode cX10_ahead 129 = .ok (.ifCond .eq 52, 3) := by decide +kernel
theorem dX10_ahead_132 : decode cX10_ahead 132 = .ok (.aload_n 0, 1) := by decide +kernel
theorem dX10_ahead_133 : decode cX10_ahead 133 = .ok (.iload 9, 2) := by decide +kernel
theorem dX10_ahead_135 : decode cX10_ahead 135 = .ok (.invokevirtual 446, 3) := by decide +kernel
theorem dX10_ahead_138 : decode cX10_ahead 138 = .ok (.aload_n 0, 1) := by decide +kernel
theorem dX10_ahead_139 : decode cX10_ahead 139 = .ok (.getfield 150, 3) := by decide +kernel
theorem dX10_ahead_142 : decode cX10_ahead 142 = .ok (.iload 9, 2) := by decide +kernel
theorem dX10_ahead_144 : decode cX10_ahead 144 = .ok (.iaload, 1) := by decide +kernel
theorem dX10_ahead_145 : decode cX10_ahead 145 = .ok (.if_icmp .ne 6, 3) := by decide +kernel
theorem dX10_ahead_148 : decode cX10_ahead 148 = .ok (.goto 33, 3) := by decide +kernel
theorem dX10_ahead_151 : decode cX10_ahead 151 = .ok (.iinc 8 1, 3) := by decide +kernel
theorem dX10_ahead_154 : decode cX10_ahead 154 = .ok (.iload 7, 2) := by decide +kernel
theorem dX10_ahead_156 : decode cX10_ahead 156 = .ok (.aload_n 0, 1) := by decide +kernel
theorem dX10_ahead_157 : decode cX10_ahead 157 = .ok (.iload 9, 2) := by decide +kernel
theorem dX10_ahead_159 : decode cX10_ahead 159 = .ok (.aload_n 0, 1) := by decide +kernel
theorem dX10_ahead_160 : decode cX10_ahead 160 = .ok (.iload 9, 2) := by decide +kernel
theorem dX10_ahead_162 : decode cX10_ahead 162 = .ok (.invokevirtual 446, 3) := by decide +kernel
theorem dX10_ahead_165 : decode cX10_ahead 165 = .ok (.iload 6, 2) := by decide +kernel
theorem dX10_ahead_167 : decode cX10_ahead 167 = .ok (.invokevirtual 489, 3) := by decide +kernel
theorem dX10_ahead_170 : decode cX10_ahead 170 = .ok (.ifCond .eq 7, 3) := by decide +kernel
theorem dX10_ahead_173 : decode cX10_ahead 173 = .ok (.iconst 1, 1) := by decide +kernel
theorem dX10_ahead_174 : decode cX10_ahead 174 = .ok (.goto 4, 3) := by decide +kernel
theorem dX10_ahead_177 : decode cX10_ahead 177 = .ok (.iconst 0, 1) := by decide +kernel
theorem dX10_ahead_178 : decode cX10_ahead 178 = .ok (.iadd, 1) := by decide +kernel
theorem dX10_ahead_179 : decode cX10_ahead 179 = .ok (.istore 7, 2) := by decide +kernel
theorem dX10_ahead_181 : decode cX10_ahead 181 = .ok (.iinc 9 1, 3) := by decide +kernel
theorem dX10_ahead_184 : decode cX10_ahead 184 = .ok (.goto (-70), 3) := by decide +kernel
theorem dX10_ahead_187 : decode cX10_ahead 187 = .ok (.iload 5, 2) := by decide +kernel
theorem dX10_ahead_189 : decode cX10_ahead 189 = .ok (.ifCond .ne 8, 3) := by decide +kernel
theorem dX10_ahead_192 : decode cX10_ahead 192 = .ok (.iload 6, 2) := by decide +kernel
theorem dX10_ahead_194 : decode cX10_ahead 194 = .ok (.goto 16, 3) := by decide +kernel
theorem dX10_ahead_197 : decode cX10_ahead 197 = .ok (.iload 5, 2) := by decide +kernel
theorem dX10_ahead_199 : decode cX10_ahead 199 = .ok (.iconst 1, 1) := by decide +kernel
theorem dX10_ahead_200 : decode cX10_ahead 200 = .ok (.if_icmp .ne 8, 3) := by decide +kernel
theorem dX10_ahead_203 : decode cX10_ahead 203 = .ok (.iload 7, 2) := by decide +kernel
theorem dX10_ahead_205 : decode cX10_ahead 205 = .ok (.goto 5, 3) := by decide +kernel
theorem dX10_ahead_208 : decode cX10_ahead 208 = .ok (.iload 8, 2) := by decide +kernel
theorem dX10_ahead_210 : decode cX10_ahead 210 = .ok (.ireturn, 1) := by decide +kernel
theorem dX10_next_0 : decode cX10_next 0 = .ok (.aload_n 0, 1) := by decide +kernel
theorem dX10_next_1 : decode cX10_next 1 = .ok (.iconst 0, 1) := by decide +kernel
theorem dX10_next_2 : decode cX10_next 2 = .ok (.putfield 153, 3) := by decide +kernel
theorem dX10_next_5 : decode cX10_next 5 = .ok (.aload_n 0, 1) := by decide +kernel
theorem dX10_next_6 : decode cX10_next 6 = .ok (.invokevirtual 440, 3) := by decide +kernel
theorem dX10_next_9 : decode cX10_next 9 = .ok (.iconst (-1), 1) := by decide +kernel
theorem dX10_next_10 : decode cX10_next 10 = .ok (.istore_n 1, 1) := by decide +kernel
theorem dX10_next_11 : decode cX10_next 11 = .ok (.iconst 0, 1) := by decide +kernel
theorem dX10_next_12 : decode cX10_next 12 = .ok (.istore_n 2, 1) := by decide +kernel
theorem dX10_next_13 : decode cX10_next 13 = .ok (.iconst 0, 1) := by decide +kernel
theorem dX10_next_14 : decode cX10_next 14 = .ok (.istore_n 3, 1) := by decide +kernel
theorem dX10_next_15 : decode cX10_next 15 = .ok (.iload_n 3, 1) := by decide +kernel
theorem dX10_next_16 : decode cX10_next 16 = .ok (.aload_n 0, 1) := by decide +kernel
theorem dX10_next_17 : decode cX10_next 17 = .ok (.getfield 340, 3) := by decide +kernel
theorem dX10_next_20 : decode cX10_next 20 = .ok (.if_icmp .ge 54, 3) := by decide +kernel
theorem dX10_next_23 : decode cX10_next 23 = .ok (.aload_n 0, 1) := by decide +kernel
theorem dX10_next_24 : decode cX10_next 24 = .ok (.iload_n 3, 1) := by decide +kernel
theorem dX10_next_25 : decode cX10_next 25 = .ok (.invokevirtual 443, 3) := by decide +kernel
theorem dX10_next_28 : decode cX10_next 28 = .ok (.ifCond .ne 6, 3) := by decide +kernel
theorem dX10_next_31 : decode cX10_next 31 = .ok (.goto 37, 3) := by decide +kernel
theorem dX10_next_34 : decode cX10_next 34 = .ok (.aload_n 0, 1) := by decide +kernel
theorem dX10_next_35 : decode cX10_next 35 = .ok (.iload_n 3, 1) := by decide +kernel
theorem dX10_next_36 : decode cX10_next 36 = .ok (.iconst 1, 1) := by decide +kernel
theorem dX10_next_37 : decode cX10_next 37 = .ok (.invokevirtual 455, 3) := by decide +kernel
theorem dX10_next_40 : decode cX10_next 40 = .ok (.aload_n 0, 1) := by decide +kernel
theorem dX10_next_41 : decode cX10_next 41 = .ok (.iload_n 3, 1) := by decide +kernel
theorem dX10_next_42 : decode cX10_next 42 = .ok (.iconst 0, 1) := by decide +kernel
theorem dX10_next_43 : decode cX10_next 43 = .ok (.invokevirtual 455, 3) := by decide +kernel
theorem dX10_next_46 : decode cX10_next 46 = .ok (.isub, 1) := by decide +kernel
theorem dX10_next_47 : decode cX10_next 47 = .ok (.istore 4, 2) := by decide +kernel
theorem dX10_next_49 : decode cX10_next 49 = .ok (.iload_n 1, 1) := by decide +kernel
theorem dX10_next_50 : decode cX10_next 50 = .ok (.iconst (-1), 1) := by decide +kernel
theorem dX10_next_51 : decode cX10_next 51 = .ok (.if_icmp .eq 12, 3) := by decide +kernel
theorem dX10_next_54 : decode cX10_next 54 = .ok (.iload 4, 2) := by decide +kernel
theorem dX10_next_56 : decode cX10_next 56 = .ok (.iload_n 2, 1) := by decide +kernel
theorem dX10_next_57 : decode cX10_next 57 = .ok (.if_icmp .gt 6, 3) := by decide +kernel
theorem dX10_next_60 : decode cX10_next 60 = .ok (.goto 8, 3) := by decide +kernel
theorem dX10_next_63 : decode cX10_next 63 = .ok (.iload_n 3, 1) := by decide +kernel
theorem dX10_next_64 : decode cX10_next 64 = .ok (.istore_n 1, 1) := by decide +kernel
theorem dX10_next_65 : decode cX10_next 65 = .ok (.iload 4, 2) := by decide +kernel
theorem dX10_next_67 : decode cX10_next 67 = .ok (.istore_n 2, 1) := by decide +kernel
theorem dX10_next_68 : decode cX10_next 68 = .ok (.iinc 3 1, 3) := by decide +kernel
theorem dX10_next_71 : decode cX10_next 71 = .ok (.goto (-56), 3) := by decide +kernel
theorem dX10_next_74 : decode cX10_next 74 = .ok (.iload_n 1, 1) := by decide +kernel
theorem dX10_next_75 : decode cX10_next 75 = .ok (.ireturn, 1) := by decide +kernel
theorem dX10_count_0 : decode cX10_count 0 = .ok (.aload_n 0, 1) := by decide +kernel
theorem dX10_count_1 : decode cX10_count 1 = .ok (.iconst 0, 1) := by decide +kernel
theorem dX10_count_2 : decode cX10_count 2 = .ok (.putfield 153, 3) := by decide +kernel
theorem dX10_count_5 : decode cX10_count 5 = .ok (.iload_n 1, 1) := by decide +kernel
theorem dX10_count_6 : decode cX10_count 6 = .ok (.tableswitch 146 0 13 #[70, 75, 80, 85, 90, 95, 100, 105, 110, 115, 120, 125, 130, 143], 70) := by decide +kernel
theorem dX10_count_76 : decode cX10_count 76 = .ok (.aload_n 0, 1) := by decide +kernel
theorem dX10_count_77 : decode cX10_count 77 = .ok (.getfield 337, 3) := by decide +kernel
theorem dX10_count_80 : decode cX10_count 80 = .ok (.ireturn, 1) := by decide +kernel
theorem dX10_count_81 : decode cX10_count 81 = .ok (.aload_n 0, 1) := by decide +kernel
theorem dX10_count_82 : decode cX10_count 82 = .ok (.getfield 340, 3) := by decide +kernel
theorem dX10_count_85 : decode cX10_count 85 = .ok (.ireturn, 1) := by decide +kernel
theorem dX10_count_86 : decode cX10_count 86 = .ok (.aload_n 0, 1) := by decide +kernel
theorem dX10_count_87 : decode cX10_count 87 = .ok (.getfield 343, 3) := by decide +kernel
theorem dX10_count_90 : decode cX10_count 90 = .ok (.ireturn, 1) := by decide +kernel
theorem dX10_count_91 : decode cX10_count 91 = .ok (.aload_n 0, 1) := by decide +kernel
theorem dX10_count_92 : decode cX10_count 92 = .ok (.getfield 346, 3) := by decide +kernel
theorem dX10_count_95 : decode cX10_count 95 = .ok (.ireturn, 1) := by decide +kernel
theorem dX10_count_96 : decode cX10_count 96 = .ok (.aload_n 0, 1) := by decide +kernel
theorem dX10_count_97 : decode cX10_count 97 = .ok (.getfield 349, 3) := by decide +kernel
theorem dX10_count_100 : decode cX10_count 100 = .ok (.ireturn, 1) := by decide +kernel
theorem dX10_count_101 : decode cX10_count 101 = .ok (.aload_n 0, 1) := by decide +kernel
theorem dX10_count_102 : decode cX10_count 102 = .ok (.getfield 355, 3) := by decide +kernel
theorem dX10_count_105 : decode cX10_count 105 = .ok (.ireturn, 1) := by decide +kernel
theorem dX10_count_106 : decode cX10_count 106 = .ok (.aload_n 0, 1) := by decide +kernel
theorem dX10_count_107 : decode cX10_count 107 = .ok (.invokevirtual 379, 3) := by decide +kernel
theorem dX10_count_110 : decode cX10_count 110 = .ok (.ireturn, 1) := by decide +kernel
theorem dX10_count_111 : decode cX10_count 111 = .ok (.aload_n 0, 1) := by decide +kernel
theorem dX10_count_112 : decode cX10_count 112 = .ok (.getfield 352, 3) := by decide +kernel
theorem dX10_count_115 : decode cX10_count 115 = .ok (.ireturn, 1) := by decide +kernel
theorem dX10_count_116 : decode cX10_count 116 = .ok (.aload_n 0, 1) := by decide +kernel
theorem dX10_count_117 : decode cX10_count 117 = .ok (.getfield 76, 3) := by decide +kernel
theorem dX10_count_120 : decode cX10_count 120 = .ok (.ireturn, 1) := by decide +kernel
theorem dX10_count_121 : decode cX10_count 121 = .ok (.aload_n 0, 1) := by decide +kernel
theorem dX10_count_122 : decode cX10_count 122 = .ok (.getfield 80, 3) := by decide +kernel
theorem dX10_count_125 : decode cX10_count 125 = .ok (.ireturn, 1) := by decide +kernel
theorem dX10_count_126 : decode cX10_count 126 = .ok (.aload_n 0, 1) := by decide +kernel
theorem dX10_count_127 : decode cX10_count 127 = .ok (.getfield 83, 3) := by decide +kernel
theorem dX10_count_130 : decode cX10_count 130 = .ok (.ireturn, 1) := by decide +kernel
theorem dX10_count_131 : decode cX10_count 131 = .ok (.aload_n 0, 1) := by decide +kernel
theorem dX10_count_132 : decode cX10_count 132 = .ok (.getfield 373, 3) := by decide +kernel
theorem dX10_count_135 : decode cX10_count 135 = .ok (.ireturn, 1) := by decide +kernel
theorem dX10_count_136 : decode cX10_count 136 = .ok (.aload_n 0, 1) := by decide +kernel
theorem dX10_count_137 : decode cX10_count 137 = .ok (.getfield 376, 3) := by decide +kernel
theorem dX10_count_140 : decode cX10_count 140 = .ok (.ifCond .eq 7, 3) := by decide +kernel
theorem dX10_count_143 : decode cX10_count 143 = .ok (.iconst 1, 1) := by decide +kernel
theorem dX10_count_144 : decode cX10_count 144 = .ok (.goto 4, 3) := by decide +kernel
theorem dX10_count_147 : decode cX10_count 147 = .ok (.iconst 0, 1) := by decide +kernel
theorem dX10_count_148 : decode cX10_count 148 = .ok (.ireturn, 1) := by decide +kernel
theorem dX10_count_149 : decode cX10_count 149 = .ok (.goto 5, 3) := by decide +kernel
theorem dX10_count_152 : decode cX10_count 152 = .ok (.iconst (-1), 1) := by decide +kernel
theorem dX10_count_153 : decode cX10_count 153 = .ok (.ireturn, 1) := by decide +kernel
theorem dX10_count_154 : decode cX10_count 154 = .ok (.aload_n 0, 1) := by decide +kernel
theorem dX10_count_155 : decode cX10_count 155 = .ok (.invokevirtual 440, 3) := by decide +kernel
theorem dX10_count_158 : decode cX10_count 158 = .ok (.aload_n 0, 1) := by decide +kernel
theorem dX10_count_159 : decode cX10_count 159 = .ok (.iconst (-1), 1) := by decide +kernel
theorem dX10_count_160 : decode cX10_count 160 = .ok (.iconst (-1), 1) := by decide +kernel
theorem dX10_count_161 : decode cX10_count 161 = .ok (.invokevirtual 493, 3) := by decide +kernel
theorem dX10_count_164 : decode cX10_count 164 = .ok (.aload_n 0, 1) := by decide +kernel
theorem dX10_count_165 : decode cX10_count 165 = .ok (.invokevirtual 507, 3) := by decide +kernel
theorem dX10_count_168 : decode cX10_count 168 = .ok (.ireturn, 1) := by decide +kernel
theorem dJ9_floorDiv_7cf53_0 : decode cJ9_floorDiv_7cf53 0 = .ok (.iload_n 0, 1) := by decide +kernel
theorem dJ9_floorDiv_7cf53_1 : decode cJ9_floorDiv_7cf53 1 = .ok (.iload_n 1, 1) := by decide +kernel
theorem dJ9_floorDiv_7cf53_2 : decode cJ9_floorDiv_7cf53 2 = .ok (.idiv, 1) := by decide +kernel
theorem dJ9_floorDiv_7cf53_3 : decode cJ9_floorDiv_7cf53 3 = .ok (.istore_n 2, 1) := by decide +kernel
theorem dJ9_floorDiv_7cf53_4 : decode cJ9_floorDiv_7cf53 4 = .ok (.iload_n 0, 1) := by decide +kernel
theorem dJ9_floorDiv_7cf53_5 : decode cJ9_floorDiv_7cf53 5 = .ok (.iload_n 1, 1) := by decide +kernel
theorem dJ9_floorDiv_7cf53_6 : decode cJ9_floorDiv_7cf53 6 = .ok (.ixor, 1) := by decide +kernel
theorem dJ9_floorDiv_7cf53_7 : decode cJ9_floorDiv_7cf53 7 = .ok (.ifCond .ge 14, 3) := by decide +kernel
theorem dJ9_floorDiv_7cf53_10 : decode cJ9_floorDiv_7cf53 10 = .ok (.iload_n 2, 1) := by decide +kernel
theorem dJ9_floorDiv_7cf53_11 : decode cJ9_floorDiv_7cf53 11 = .ok (.iload_n 1, 1) := by decide +kernel
theorem dJ9_floorDiv_7cf53_12 : decode cJ9_floorDiv_7cf53 12 = .ok (.imul, 1) := by decide +kernel
theorem dJ9_floorDiv_7cf53_13 : decode cJ9_floorDiv_7cf53 13 = .ok (.iload_n 0, 1) := by decide +kernel
theorem dJ9_floorDiv_7cf53_14 : decode cJ9_floorDiv_7cf53 14 = .ok (.if_icmp .eq 7, 3) := by decide +kernel
theorem dJ9_floorDiv_7cf53_17 : decode cJ9_floorDiv_7cf53 17 = .ok (.iload_n 2, 1) := by decide +kernel
theorem dJ9_floorDiv_7cf53_18 : decode cJ9_floorDiv_7cf53 18 = .ok (.iconst 1, 1) := by decide +kernel
theorem dJ9_floorDiv_7cf53_19 : decode cJ9_floorDiv_7cf53 19 = .ok (.isub, 1) := by decide +kernel
theorem dJ9_floorDiv_7cf53_20 : decode cJ9_floorDiv_7cf53 20 = .ok (.ireturn, 1) := by decide +kernel
theorem dJ9_floorDiv_7cf53_21 : decode cJ9_floorDiv_7cf53 21 = .ok (.iload_n 2, 1) := by decide +kernel
theorem dJ9_floorDiv_7cf53_22 : decode cJ9_floorDiv_7cf53 22 = .ok (.ireturn, 1) := by decide +kernel
theorem dJ9_abs_0f7a4_0 : decode cJ9_abs_0f7a4 0 = .ok (.iload_n 0, 1) := by decide +kernel
theorem dJ9_abs_0f7a4_1 : decode cJ9_abs_0f7a4 1 = .ok (.ifCond .ge 8, 3) := by decide +kernel
theorem dJ9_abs_0f7a4_4 : decode cJ9_abs_0f7a4 4 = .ok (.iload_n 0, 1) := by decide +kernel
theorem dJ9_abs_0f7a4_5 : decode cJ9_abs_0f7a4 5 = .ok (.ineg, 1) := by decide +kernel
theorem dJ9_abs_0f7a4_6 : decode cJ9_abs_0f7a4 6 = .ok (.goto 4, 3) := by decide +kernel
theorem dJ9_abs_0f7a4_9 : decode cJ9_abs_0f7a4 9 = .ok (.iload_n 0, 1) := by decide +kernel
theorem dJ9_abs_0f7a4_10 : decode cJ9_abs_0f7a4 10 = .ok (.ireturn, 1) := by decide +kernel
theorem dJ9_abs_067f4_0 : decode cJ9_abs_067f4 0 = .ok (.lload_n 0, 1) := by decide +kernel
theorem dJ9_abs_067f4_1 : decode cJ9_abs_067f4 1 = .ok (.lconst 0, 1) := by decide +kernel
theorem dJ9_abs_067f4_2 : decode cJ9_abs_067f4 2 = .ok (.lcmp, 1) := by decide +kernel
theorem dJ9_abs_067f4_3 : decode cJ9_abs_067f4 3 = .ok (.ifCond .ge 8, 3) := by decide +kernel
theorem dJ9_abs_067f4_6 : decode cJ9_abs_067f4 6 = .ok (.lload_n 0, 1) := by decide +kernel
theorem dJ9_abs_067f4_7 : decode cJ9_abs_067f4 7 = .ok (.lneg, 1) := by decide +kernel
theorem dJ9_abs_067f4_8 : decode cJ9_abs_067f4 8 = .ok (.goto 4, 3) := by decide +kernel
theorem dJ9_abs_067f4_11 : decode cJ9_abs_067f4 11 = .ok (.lload_n 0, 1) := by decide +kernel
theorem dJ9_abs_067f4_12 : decode cJ9_abs_067f4 12 = .ok (.lreturn, 1) := by decide +kernel
theorem dJ9_max_7cf53_0 : decode cJ9_max_7cf53 0 = .ok (.iload_n 0, 1) := by decide +kernel
theorem dJ9_max_7cf53_1 : decode cJ9_max_7cf53 1 = .ok (.iload_n 1, 1) := by decide +kernel
theorem dJ9_max_7cf53_2 : decode cJ9_max_7cf53 2 = .ok (.if_icmp .lt 7, 3) := by decide +kernel
theorem dJ9_max_7cf53_5 : decode cJ9_max_7cf53 5 = .ok (.iload_n 0, 1) := by decide +kernel
theorem dJ9_max_7cf53_6 : decode cJ9_max_7cf53 6 = .ok (.goto 4, 3) := by decide +kernel
theorem dJ9_max_7cf53_9 : decode cJ9_max_7cf53 9 = .ok (.iload_n 1, 1) := by decide +kernel
theorem dJ9_max_7cf53_10 : decode cJ9_max_7cf53 10 = .ok (.ireturn, 1) := by decide +kernel
theorem dJ9_min_7cf53_0 : decode cJ9_min_7cf53 0 = .ok (.iload_n 0, 1) := by decide +kernel
theorem dJ9_min_7cf53_1 : decode cJ9_min_7cf53 1 = .ok (.iload_n 1, 1) := by decide +kernel
theorem dJ9_min_7cf53_2 : decode cJ9_min_7cf53 2 = .ok (.if_icmp .gt 7, 3) := by decide +kernel
theorem dJ9_min_7cf53_5 : decode cJ9_min_7cf53 5 = .ok (.iload_n 0, 1) := by decide +kernel
theorem dJ9_min_7cf53_6 : decode cJ9_min_7cf53 6 = .ok (.goto 4, 3) := by decide +kernel
theorem dJ9_min_7cf53_9 : decode cJ9_min_7cf53 9 = .ok (.iload_n 1, 1) := by decide +kernel
theorem dJ9_min_7cf53_10 : decode cJ9_min_7cf53 10 = .ok (.ireturn, 1) := by decide +kernel
theorem dJ0_length_8abf5_0 : decode cJ0_length_8abf5 0 = .ok (.aload_n 0, 1) := by decide +kernel
theorem dJ0_length_8abf5_1 : decode cJ0_length_8abf5 1 = .ok (.getfield 9, 3) := by decide +kernel
theorem dJ0_length_8abf5_4 : decode cJ0_length_8abf5 4 = .ok (.arraylength, 1) := by decide +kernel
theorem dJ0_length_8abf5_5 : decode cJ0_length_8abf5 5 = .ok (.aload_n 0, 1) := by decide +kernel
theorem dJ0_length_8abf5_6 : decode cJ0_length_8abf5 6 = .ok (.invokevirtual 335, 3) := by decide +kernel
theorem dJ0_length_8abf5_9 : decode cJ0_length_8abf5 9 = .ok (.ishr, 1) := by decide +kernel
theorem dJ0_length_8abf5_10 : decode cJ0_length_8abf5 10 = .ok (.ireturn, 1) := by decide +kernel
theorem dJ0_charAt_5068e_0 : decode cJ0_charAt_5068e 0 = .ok (.aload_n 0, 1) := by decide +kernel
theorem dJ0_charAt_5068e_1 : decode cJ0_charAt_5068e 1 = .ok (.invokevirtual 492, 3) := by decide +kernel
theorem dJ0_charAt_5068e_4 : decode cJ0_charAt_5068e 4 = .ok (.ifCond .eq 12, 3) := by decide +kernel
theorem dJ0_charAt_5068e_7 : decode cJ0_charAt_5068e 7 = .ok (.aload_n 0, 1) := by decide +kernel
theorem dJ0_charAt_5068e_8 : decode cJ0_charAt_5068e 8 = .ok (.getfield 9, 3) := by decide +kernel
theorem dJ0_charAt_5068e_11 : decode cJ0_charAt_5068e 11 = .ok (.iload_n 1, 1) := by decide +kernel
theorem dJ0_charAt_5068e_12 : decode cJ0_charAt_5068e 12 = .ok (.invokestatic 495, 3) := by decide +kernel
theorem dJ0_charAt_5068e_15 : decode cJ0_charAt_5068e 15 = .ok (.ireturn, 1) := by decide +kernel
theorem dJ0_charAt_5068e_16 : decode cJ0_charAt_5068e 16 = .ok (.aload_n 0, 1) := by decide +kernel
theorem dJ0_charAt_5068e_17 : decode cJ0_charAt_5068e 17 = .ok (.getfield 9, 3) := by decide +kernel
theorem dJ0_charAt_5068e_20 : decode cJ0_charAt_5068e 20 = .ok (.iload_n 1, 1) := by decide +kernel
theorem dJ0_charAt_5068e_21 : decode cJ0_charAt_5068e 21 = .ok (.invokestatic 498, 3) := by decide +kernel
theorem dJ0_charAt_5068e_24 : decode cJ0_charAt_5068e 24 = .ok (.ireturn, 1) := by decide +kernel
theorem dJ0_coder_7d493_0 : decode cJ0_coder_7d493 0 = .ok (.getstatic 38, 3) := by decide +kernel
theorem dJ0_coder_7d493_3 : decode cJ0_coder_7d493 3 = .ok (.ifCond .eq 10, 3) := by decide +kernel
theorem dJ0_coder_7d493_6 : decode cJ0_coder_7d493 6 = .ok (.aload_n 0, 1) := by decide +kernel
theorem dJ0_coder_7d493_7 : decode cJ0_coder_7d493 7 = .ok (.getfield 15, 3) := by decide +kernel
theorem dJ0_coder_7d493_10 : decode cJ0_coder_7d493 10 = .ok (.goto 4, 3) := by decide +kernel
theorem dJ0_coder_7d493_13 : decode cJ0_coder_7d493 13 = .ok (.iconst 1, 1) := by decide +kernel
theorem dJ0_coder_7d493_14 : decode cJ0_coder_7d493 14 = .ok (.ireturn, 1) := by decide +kernel
theorem dJ0_isLatin1_aae02_0 : decode cJ0_isLatin1_aae02 0 = .ok (.getstatic 38, 3) := by decide +kernel
theorem dJ0_isLatin1_aae02_3 : decode cJ0_isLatin1_aae02 3 = .ok (.ifCond .eq 14, 3) := by decide +kernel
theorem dJ0_isLatin1_aae02_6 : decode cJ0_isLatin1_aae02 6 = .ok (.aload_n 0, 1) := by decide +kernel
theorem dJ0_isLatin1_aae02_7 : decode cJ0_isLatin1_aae02 7 = .ok (.getfield 15, 3) := by decide +kernel
theorem dJ0_isLatin1_aae02_10 : decode cJ0_isLatin1_aae02 10 = .ok (.ifCond .ne 7, 3) := by decide +kernel
theorem dJ0_isLatin1_aae02_13 : decode cJ0_isLatin1_aae02 13 = .ok (.iconst 1, 1) := by decide +kernel
theorem dJ0_isLatin1_aae02_14 : decode cJ0_isLatin1_aae02 14 = .ok (.goto 4, 3) := by decide +kernel
theorem dJ0_isLatin1_aae02_17 : decode cJ0_isLatin1_aae02 17 = .ok (.iconst 0, 1) := by decide +kernel
theorem dJ0_isLatin1_aae02_18 : decode cJ0_isLatin1_aae02 18 = .ok (.ireturn, 1) := by decide +kernel
theorem dJ0_checkIndex_df160_0 : decode cJ0_checkIndex_df160 0 = .ok (.iload_n 0, 1) := by decide +kernel
theorem dJ0_checkIndex_df160_1 : decode cJ0_checkIndex_df160 1 = .ok (.iload_n 1, 1) := by decide +kernel
theorem dJ0_checkIndex_df160_2 : decode cJ0_checkIndex_df160 2 = .ok (.getstatic 1053, 3) := by decide +kernel
theorem dJ0_checkIndex_df160_5 : decode cJ0_checkIndex_df160 5 = .ok (.invokestatic 1059, 3) := by decide +kernel
theorem dJ0_checkIndex_df160_8 : decode cJ0_checkIndex_df160 8 = .ok (.pop, 1) := by decide +kernel
theorem dJ0_checkIndex_df160_9 : decode cJ0_checkIndex_df160 9 = .ok (.return_, 1) := by decide +kernel
theorem dJ1_charAt_3b067_0 : decode cJ1_charAt_3b067 0 = .ok (.iload_n 1, 1) := by decide +kernel
theorem dJ1_charAt_3b067_1 : decode cJ1_charAt_3b067 1 = .ok (.aload_n 0, 1) := by decide +kernel
theorem dJ1_charAt_3b067_2 : decode cJ1_charAt_3b067 2 = .ok (.arraylength, 1) := by decide +kernel
theorem dJ1_charAt_3b067_3 : decode cJ1_charAt_3b067 3 = .ok (.invokestatic 9, 3) := by decide +kernel
theorem dJ1_charAt_3b067_6 : decode cJ1_charAt_3b067 6 = .ok (.aload_n 0, 1) := by decide +kernel
theorem dJ1_charAt_3b067_7 : decode cJ1_charAt_3b067 7 = .ok (.iload_n 1, 1) := by decide +kernel
theorem dJ1_charAt_3b067_8 : decode cJ1_charAt_3b067 8 = .ok (.baload, 1) := by decide +kernel
theorem dJ1_charAt_3b067_9 : decode cJ1_charAt_3b067 9 = .ok (.sipush 255, 3) := by decide +kernel
theorem dJ1_charAt_3b067_12 : decode cJ1_charAt_3b067 12 = .ok (.iand, 1) := by decide +kernel
theorem dJ1_charAt_3b067_13 : decode cJ1_charAt_3b067 13 = .ok (.i2c, 1) := by decide +kernel
theorem dJ1_charAt_3b067_14 : decode cJ1_charAt_3b067 14 = .ok (.ireturn, 1) := by decide +kernel
theorem dJ2_getChar_3b067_0 : decode cJ2_getChar_3b067 0 = .ok (.getstatic 44, 3) := by decide +kernel
theorem dJ2_getChar_3b067_3 : decode cJ2_getChar_3b067 3 = .ok (.ifCond .ne 25, 3) := by decide +kernel
theorem dJ2_getChar_3b067_6 : decode cJ2_getChar_3b067 6 = .ok (.iload_n 1, 1) := by decide +kernel
theorem dJ2_getChar_3b067_7 : decode cJ2_getChar_3b067 7 = .ok (.ifCond .lt 11, 3) := by decide +kernel
theorem dJ2_getChar_3b067_10 : decode cJ2_getChar_3b067 10 = .ok (.iload_n 1, 1) := by decide +kernel
theorem dJ2_getChar_3b067_11 : decode cJ2_getChar_3b067 11 = .ok (.aload_n 0, 1) := by decide +kernel
theorem dJ2_getChar_3b067_12 : decode cJ2_getChar_3b067 12 = .ok (.invokestatic 48, 3) := by decide +kernel
theorem dJ2_getChar_3b067_15 : decode cJ2_getChar_3b067 15 = .ok (.if_icmp .lt 13, 3) := by decide +kernel
theorem dJ2_getChar_3b067_18 : decode cJ2_getChar_3b067 18 = .ok (.new 52, 3) := by decide +kernel
theorem dJ2_getChar_3b067_21 : decode cJ2_getChar_3b067 21 = .ok (.dup, 1) := by decide +kernel
theorem dJ2_getChar_3b067_22 : decode cJ2_getChar_3b067 22 = .ok (.ldc 54, 2) := by decide +kernel
theorem dJ2_getChar_3b067_24 : decode cJ2_getChar_3b067 24 = .ok (.invokespecial 56, 3) := by decide +kernel
theorem dJ2_getChar_3b067_27 : decode cJ2_getChar_3b067 27 = .ok (.athrow, 1) := by decide +kernel
theorem dJ2_getChar_3b067_28 : decode cJ2_getChar_3b067 28 = .ok (.iload_n 1, 1) := by decide +kernel
theorem dJ2_getChar_3b067_29 : decode cJ2_getChar_3b067 29 = .ok (.iconst 1, 1) := by decide +kernel
theorem dJ2_getChar_3b067_30 : decode cJ2_getChar_3b067 30 = .ok (.ishl, 1) := by decide +kernel
theorem dJ2_getChar_3b067_31 : decode cJ2_getChar_3b067 31 = .ok (.istore_n 1, 1) := by decide +kernel
theorem dJ2_getChar_3b067_32 : decode cJ2_getChar_3b067 32 = .ok (.aload_n 0, 1) := by decide +kernel
theorem dJ2_getChar_3b067_33 : decode cJ2_getChar_3b067 33 = .ok (.iload_n 1, 1) := by decide +kernel
theorem dJ2_getChar_3b067_34 : decode cJ2_getChar_3b067 34 = .ok (.iinc 1 1, 3) := by decide +kernel
theorem dJ2_getChar_3b067_37 : decode cJ2_getChar_3b067 37 = .ok (.baload, 1) := by decide +kernel
theorem dJ2_getChar_3b067_38 : decode cJ2_getChar_3b067 38 = .ok (.sipush 255, 3) := by decide +kernel
theorem dJ2_getChar_3b067_41 : decode cJ2_getChar_3b067 41 = .ok (.iand, 1) := by decide +kernel
theorem dJ2_getChar_3b067_42 : decode cJ2_getChar_3b067 42 = .ok (.getstatic 59, 3) := by decide +kernel
theorem dJ2_getChar_3b067_45 : decode cJ2_getChar_3b067 45 = .ok (.ishl, 1) := by decide +kernel
theorem dJ2_getChar_3b067_46 : decode cJ2_getChar_3b067 46 = .ok (.aload_n 0, 1) := by decide +kernel
theorem dJ2_getChar_3b067_47 : decode cJ2_getChar_3b067 47 = .ok (.iload_n 1, 1) := by decide +kernel
theorem dJ2_getChar_3b067_48 : decode cJ2_getChar_3b067 48 = .ok (.baload, 1) := by decide +kernel
theorem dJ2_getChar_3b067_49 : decode cJ2_getChar_3b067 49 = .ok (.sipush 255, 3) := by decide +kernel
theorem dJ2_getChar_3b067_52 : decode cJ2_getChar_3b067 52 = .ok (.iand, 1) := by decide +kernel
theorem dJ2_getChar_3b067_53 : decode cJ2_getChar_3b067 53 = .ok (.getstatic 63, 3) := by decide +kernel
theorem dJ2_getChar_3b067_56 : decode cJ2_getChar_3b067 56 = .ok (.ishl, 1) := by decide +kernel
theorem dJ2_getChar_3b067_57 : decode cJ2_getChar_3b067 57 = .ok (.ior, 1) := by decide +kernel
theorem dJ2_getChar_3b067_58 : decode cJ2_getChar_3b067 58 = .ok (.i2c, 1) := by decide +kernel
theorem dJ2_getChar_3b067_59 : decode cJ2_getChar_3b067 59 = .ok (.ireturn, 1) := by decide +kernel
theorem dJ2_length_9d52b_0 : decode cJ2_length_9d52b 0 = .ok (.aload_n 0, 1) := by decide +kernel
theorem dJ2_length_9d52b_1 : decode cJ2_length_9d52b 1 = .ok (.arraylength, 1) := by decide +kernel
theorem dJ2_length_9d52b_2 : decode cJ2_length_9d52b 2 = .ok (.iconst 1, 1) := by decide +kernel
theorem dJ2_length_9d52b_3 : decode cJ2_length_9d52b 3 = .ok (.ishr, 1) := by decide +kernel
theorem dJ2_length_9d52b_4 : decode cJ2_length_9d52b 4 = .ok (.ireturn, 1) := by decide +kernel
theorem dJ2_charAt_3b067_0 : decode cJ2_charAt_3b067 0 = .ok (.iload_n 1, 1) := by decide +kernel
theorem dJ2_charAt_3b067_1 : decode cJ2_charAt_3b067 1 = .ok (.aload_n 0, 1) := by decide +kernel
theorem dJ2_charAt_3b067_2 : decode cJ2_charAt_3b067 2 = .ok (.invokestatic 67, 3) := by decide +kernel
theorem dJ2_charAt_3b067_5 : decode cJ2_charAt_3b067 5 = .ok (.aload_n 0, 1) := by decide +kernel
theorem dJ2_charAt_3b067_6 : decode cJ2_charAt_3b067 6 = .ok (.iload_n 1, 1) := by decide +kernel
theorem dJ2_charAt_3b067_7 : decode cJ2_charAt_3b067 7 = .ok (.invokestatic 71, 3) := by decide +kernel
theorem dJ2_charAt_3b067_10 : decode cJ2_charAt_3b067 10 = .ok (.ireturn, 1) := by decide +kernel
theorem dJ2_checkIndex_2214a_0 : decode cJ2_checkIndex_2214a 0 = .ok (.iload_n 0, 1) := by decide +kernel
theorem dJ2_checkIndex_2214a_1 : decode cJ2_checkIndex_2214a 1 = .ok (.aload_n 1, 1) := by decide +kernel
theorem dJ2_checkIndex_2214a_2 : decode cJ2_checkIndex_2214a 2 = .ok (.invokestatic 48, 3) := by decide +kernel
theorem dJ2_checkIndex_2214a_5 : decode cJ2_checkIndex_2214a 5 = .ok (.invokestatic 414, 3) := by decide +kernel
theorem dJ2_checkIndex_2214a_8 : decode cJ2_checkIndex_2214a 8 = .ok (.return_, 1) := by decide +kernel
theorem dJ7_fill_d0a16_0 : decode cJ7_fill_d0a16 0 = .ok (.iconst 0, 1) := by decide +kernel
theorem dJ7_fill_d0a16_1 : decode cJ7_fill_d0a16 1 = .ok (.istore_n 3, 1) := by decide +kernel
theorem dJ7_fill_d0a16_2 : decode cJ7_fill_d0a16 2 = .ok (.aload_n 0, 1) := by decide +kernel
theorem dJ7_fill_d0a16_3 : decode cJ7_fill_d0a16 3 = .ok (.arraylength, 1) := by decide +kernel
theorem dJ7_fill_d0a16_4 : decode cJ7_fill_d0a16 4 = .ok (.istore 4, 2) := by decide +kernel
theorem dJ7_fill_d0a16_6 : decode cJ7_fill_d0a16 6 = .ok (.iload_n 3, 1) := by decide +kernel
theorem dJ7_fill_d0a16_7 : decode cJ7_fill_d0a16 7 = .ok (.iload 4, 2) := by decide +kernel
theorem dJ7_fill_d0a16_9 : decode cJ7_fill_d0a16 9 = .ok (.if_icmp .ge 13, 3) := by decide +kernel
theorem dJ7_fill_d0a16_12 : decode cJ7_fill_d0a16 12 = .ok (.aload_n 0, 1) := by decide +kernel
theorem dJ7_fill_d0a16_13 : decode cJ7_fill_d0a16 13 = .ok (.iload_n 3, 1) := by decide +kernel
theorem dJ7_fill_d0a16_14 : decode cJ7_fill_d0a16 14 = .ok (.lload_n 1, 1) := by decide +kernel
theorem dJ7_fill_d0a16_15 : decode cJ7_fill_d0a16 15 = .ok (.lastore, 1) := by decide +kernel
theorem dJ7_fill_d0a16_16 : decode cJ7_fill_d0a16 16 = .ok (.iinc 3 1, 3) := by decide +kernel
theorem dJ7_fill_d0a16_19 : decode cJ7_fill_d0a16 19 = .ok (.goto (-13), 3) := by decide +kernel
theorem dJ7_fill_d0a16_22 : decode cJ7_fill_d0a16 22 = .ok (.return_, 1) := by decide +kernel
theorem dJ7_fill_53178_0 : decode cJ7_fill_53178 0 = .ok (.iconst 0, 1) := by decide +kernel
theorem dJ7_fill_53178_1 : decode cJ7_fill_53178 1 = .ok (.istore_n 2, 1) := by decide +kernel
theorem dJ7_fill_53178_2 : decode cJ7_fill_53178 2 = .ok (.aload_n 0, 1) := by decide +kernel
theorem dJ7_fill_53178_3 : decode cJ7_fill_53178 3 = .ok (.arraylength, 1) := by decide +kernel
theorem dJ7_fill_53178_4 : decode cJ7_fill_53178 4 = .ok (.istore_n 3, 1) := by decide +kernel
theorem dJ7_fill_53178_5 : decode cJ7_fill_53178 5 = .ok (.iload_n 2, 1) := by decide +kernel
theorem dJ7_fill_53178_6 : decode cJ7_fill_53178 6 = .ok (.iload_n 3, 1) := by decide +kernel
theorem dJ7_fill_53178_7 : decode cJ7_fill_53178 7 = .ok (.if_icmp .ge 13, 3) := by decide +kernel
theorem dJ7_fill_53178_10 : decode cJ7_fill_53178 10 = .ok (.aload_n 0, 1) := by decide +kernel
theorem dJ7_fill_53178_11 : decode cJ7_fill_53178 11 = .ok (.iload_n 2, 1) := by decide +kernel
theorem dJ7_fill_53178_12 : decode cJ7_fill_53178 12 = .ok (.iload_n 1, 1) := by decide +kernel
theorem dJ7_fill_53178_13 : decode cJ7_fill_53178 13 = .ok (.iastore, 1) := by decide +kernel
theorem dJ7_fill_53178_14 : decode cJ7_fill_53178 14 = .ok (.iinc 2 1, 3) := by decide +kernel
theorem dJ7_fill_53178_17 : decode cJ7_fill_53178 17 = .ok (.goto (-12), 3) := by decide +kernel
theorem dJ7_fill_53178_20 : decode cJ7_fill_53178 20 = .ok (.return_, 1) := by decide +kernel
theorem dJ3_checkIndex_8e157_0 : decode cJ3_checkIndex_8e157 0 = .ok (.iload_n 0, 1) := by decide +kernel
theorem dJ3_checkIndex_8e157_1 : decode cJ3_checkIndex_8e157 1 = .ok (.ifCond .lt 8, 3) := by decide +kernel
theorem dJ3_checkIndex_8e157_4 : decode cJ3_checkIndex_8e157 4 = .ok (.iload_n 0, 1) := by decide +kernel
theorem dJ3_checkIndex_8e157_5 : decode cJ3_checkIndex_8e157 5 = .ok (.iload_n 1, 1) := by decide +kernel
theorem dJ3_checkIndex_8e157_6 : decode cJ3_checkIndex_8e157 6 = .ok (.if_icmp .lt 10, 3) := by decide +kernel
theorem dJ3_checkIndex_8e157_9 : decode cJ3_checkIndex_8e157 9 = .ok (.aload_n 2, 1) := by decide +kernel
theorem dJ3_checkIndex_8e157_10 : decode cJ3_checkIndex_8e157 10 = .ok (.iload_n 0, 1) := by decide +kernel
theorem dJ3_checkIndex_8e157_11 : decode cJ3_checkIndex_8e157 11 = .ok (.iload_n 1, 1) := by decide +kernel
theorem dJ3_checkIndex_8e157_12 : decode cJ3_checkIndex_8e157 12 = .ok (.invokestatic 95, 3) := by decide +kernel
theorem dJ3_checkIndex_8e157_15 : decode cJ3_checkIndex_8e157 15 = .ok (.athrow, 1) := by decide +kernel
theorem dJ3_checkIndex_8e157_16 : decode cJ3_checkIndex_8e157 16 = .ok (.iload_n 0, 1) := by decide +kernel
theorem dJ3_checkIndex_8e157_17 : decode cJ3_checkIndex_8e157 17 = .ok (.ireturn, 1) := by decide +kernel
theorem dL_look_0 : decode cL_look 0 = .ok (.aload 4, 2) := by decide +kernel
theorem dL_look_2 : decode cL_look 2 = .ok (.iconst 0, 1) := by decide +kernel
theorem dL_look_3 : decode cL_look 3 = .ok (.aload_n 0, 1) := by decide +kernel
theorem dL_look_4 : decode cL_look 4 = .ok (.iload_n 1, 1) := by decide +kernel
theorem dL_look_5 : decode cL_look 5 = .ok (.iload_n 2, 1) := by decide +kernel
theorem dL_look_6 : decode cL_look 6 = .ok (.iload_n 3, 1) := by decide +kernel
theorem dL_look_7 : decode cL_look 7 = .ok (.invokevirtual 7, 3) := by decide +kernel
theorem dL_look_10 : decode cL_look 10 = .ok (.i2l, 1) := by decide +kernel
theorem dL_look_11 : decode cL_look 11 = .ok (.lastore, 1) := by decide +kernel
theorem dL_look_12 : decode cL_look 12 = .ok (.goto 11, 3) := by decide +kernel
theorem dL_look_15 : decode cL_look 15 = .ok (.astore 5, 2) := by decide +kernel
theorem dL_look_17 : decode cL_look 17 = .ok (.iconst 1, 1) := by decide +kernel
theorem dL_look_18 : decode cL_look 18 = .ok (.ireturn, 1) := by decide +kernel
theorem dL_look_19 : decode cL_look 19 = .ok (.astore 5, 2) := by decide +kernel
theorem dL_look_21 : decode cL_look 21 = .ok (.iconst 2, 1) := by decide +kernel
theorem dL_look_22 : decode cL_look 22 = .ok (.ireturn, 1) := by decide +kernel
theorem dL_look_23 : decode cL_look 23 = .ok (.iconst 0, 1) := by decide +kernel
theorem dL_look_24 : decode cL_look 24 = .ok (.ireturn, 1) := by decide +kernel
theorem dL_law_0 : decode cL_law 0 = .ok (.new 8, 3) := by decide +kernel
theorem dL_law_3 : decode cL_law 3 = .ok (.dup, 1) := by decide +kernel
theorem dL_law_4 : decode cL_law 4 = .ok (.invokespecial 17, 3) := by decide +kernel
theorem dL_law_7 : decode cL_law 7 = .ok (.astore_n 1, 1) := by decide +kernel
theorem dL_law_8 : decode cL_law 8 = .ok (.new 18, 3) := by decide +kernel
theorem dL_law_11 : decode cL_law 11 = .ok (.dup, 1) := by decide +kernel
theorem dL_law_12 : decode cL_law 12 = .ok (.invokespecial 20, 3) := by decide +kernel
theorem dL_law_15 : decode cL_law 15 = .ok (.astore_n 2, 1) := by decide +kernel
theorem dL_law_16 : decode cL_law 16 = .ok (.iconst 1, 1) := by decide +kernel
theorem dL_law_17 : decode cL_law 17 = .ok (.newarray .long, 2) := by decide +kernel
theorem dL_law_19 : decode cL_law 19 = .ok (.astore_n 3, 1) := by decide +kernel
theorem dL_law_20 : decode cL_law 20 = .ok (.iconst 0, 1) := by decide +kernel
theorem dL_law_21 : decode cL_law 21 = .ok (.istore 4, 2) := by decide +kernel
theorem dL_law_23 : decode cL_law 23 = .ok (.iload 4, 2) := by decide +kernel
theorem dL_law_25 : decode cL_law 25 = .ok (.aload_n 0, 1) := by decide +kernel
theorem dL_law_26 : decode cL_law 26 = .ok (.arraylength, 1) := by decide +kernel
theorem dL_law_27 : decode cL_law 27 = .ok (.bipush 7, 2) := by decide +kernel
theorem dL_law_29 : decode cL_law 29 = .ok (.isub, 1) := by decide +kernel
theorem dL_law_30 : decode cL_law 30 = .ok (.if_icmp .gt 1619, 3) := by decide +kernel
theorem dL_law_33 : decode cL_law 33 = .ok (.aload_n 0, 1) := by decide +kernel
theorem dL_law_34 : decode cL_law 34 = .ok (.iload 4, 2) := by decide +kernel
theorem dL_law_36 : decode cL_law 36 = .ok (.iaload, 1) := by decide +kernel
theorem dL_law_37 : decode cL_law 37 = .ok (.bipush 63, 2) := by decide +kernel
theorem dL_law_39 : decode cL_law 39 = .ok (.iand, 1) := by decide +kernel
theorem dL_law_40 : decode cL_law 40 = .ok (.tableswitch 1603 0 32 #[148, 221, 246, 271, 308, 388, 425, 486, 551, 576, 601, 654, 715, 752, 777, 814, 863, 888, 913, 974, 1011, 1098, 1135, 1185, 1222, 1259, 1320, 1369, 1418, 1455, 1492, 1565, 1578], 148) := by decide +kernel
theorem dL_law_188 : decode cL_law 188 = .ok (.aload_n 1, 1) := by decide +kernel
theorem dL_law_189 : decode cL_law 189 = .ok (.aload_n 0, 1) := by decide +kernel
theorem dL_law_190 : decode cL_law 190 = .ok (.iload 4, 2) := by decide +kernel
theorem dL_law_192 : decode cL_law 192 = .ok (.iconst 1, 1) := by decide +kernel
theorem dL_law_193 : decode cL_law 193 = .ok (.iadd, 1) := by decide +kernel
theorem dL_law_194 : decode cL_law 194 = .ok (.iaload, 1) := by decide +kernel
theorem dL_law_195 : decode cL_law 195 = .ok (.aload_n 0, 1) := by decide +kernel
theorem dL_law_196 : decode cL_law 196 = .ok (.iload 4, 2) := by decide +kernel
theorem dL_law_198 : decode cL_law 198 = .ok (.iconst 2, 1) := by decide +kernel
theorem dL_law_199 : decode cL_law 199 = .ok (.iadd, 1) := by decide +kernel
theorem dL_law_200 : decode cL_law 200 = .ok (.iaload, 1) := by decide +kernel
theorem dL_law_201 : decode cL_law 201 = .ok (.aload_n 0, 1) := by decide +kernel
theorem dL_law_202 : decode cL_law 202 = .ok (.iload 4, 2) := by decide +kernel
theorem dL_law_204 : decode cL_law 204 = .ok (.iconst 3, 1) := by decide +kernel
theorem dL_law_205 : decode cL_law 205 = .ok (.iadd, 1) := by decide +kernel
theorem dL_law_206 : decode cL_law 206 = .ok (.iaload, 1) := by decide +kernel
theorem dL_law_207 : decode cL_law 207 = .ok (.aload_n 0, 1) := by decide +kernel
theorem dL_law_208 : decode cL_law 208 = .ok (.iload 4, 2) := by decide +kernel
theorem dL_law_210 : decode cL_law 210 = .ok (.iconst 4, 1) := by decide +kernel
theorem dL_law_211 : decode cL_law 211 = .ok (.iadd, 1) := by decide +kernel
theorem dL_law_212 : decode cL_law 212 = .ok (.iaload, 1) := by decide +kernel
theorem dL_law_213 : decode cL_law 213 = .ok (.aload_n 0, 1) := by decide +kernel
theorem dL_law_214 : decode cL_law 214 = .ok (.iload 4, 2) := by decide +kernel
theorem dL_law_216 : decode cL_law 216 = .ok (.iconst 5, 1) := by decide +kernel
theorem dL_law_217 : decode cL_law 217 = .ok (.iadd, 1) := by decide +kernel
theorem dL_law_218 : decode cL_law 218 = .ok (.iaload, 1) := by decide +kernel
theorem dL_law_219 : decode cL_law 219 = .ok (.invokevirtual 21, 3) := by decide +kernel
theorem dL_law_222 : decode cL_law 222 = .ok (.aload_n 2, 1) := by decide +kernel
theorem dL_law_223 : decode cL_law 223 = .ok (.aload_n 0, 1) := by decide +kernel
theorem dL_law_224 : decode cL_law 224 = .ok (.iload 4, 2) := by decide +kernel
theorem dL_law_226 : decode cL_law 226 = .ok (.iconst 1, 1) := by decide +kernel
theorem dL_law_227 : decode cL_law 227 = .ok (.iadd, 1) := by decide +kernel
theorem dL_law_228 : decode cL_law 228 = .ok (.iaload, 1) := by decide +kernel
theorem dL_law_229 : decode cL_law 229 = .ok (.aload_n 0, 1) := by decide +kernel
theorem dL_law_230 : decode cL_law 230 = .ok (.iload 4, 2) := by decide +kernel
theorem dL_law_232 : decode cL_law 232 = .ok (.iconst 2, 1) := by decide +kernel
theorem dL_law_233 : decode cL_law 233 = .ok (.iadd, 1) := by decide +kernel
theorem dL_law_234 : decode cL_law 234 = .ok (.iaload, 1) := by decide +kernel
theorem dL_law_235 : decode cL_law 235 = .ok (.aload_n 0, 1) := by decide +kernel
theorem dL_law_236 : decode cL_law 236 = .ok (.iload 4, 2) := by decide +kernel
theorem dL_law_238 : decode cL_law 238 = .ok (.iconst 3, 1) := by decide +kernel
theorem dL_law_239 : decode cL_law 239 = .ok (.iadd, 1) := by decide +kernel
theorem dL_law_240 : decode cL_law 240 = .ok (.iaload, 1) := by decide +kernel
theorem dL_law_241 : decode cL_law 241 = .ok (.aload_n 0, 1) := by decide +kernel
theorem dL_law_242 : decode cL_law 242 = .ok (.iload 4, 2) := by decide +kernel
theorem dL_law_244 : decode cL_law 244 = .ok (.iconst 4, 1) := by decide +kernel
theorem dL_law_245 : decode cL_law 245 = .ok (.iadd, 1) := by decide +kernel
theorem dL_law_246 : decode cL_law 246 = .ok (.iaload, 1) := by decide +kernel
theorem dL_law_247 : decode cL_law 247 = .ok (.aload_n 0, 1) := by decide +kernel
theorem dL_law_248 : decode cL_law 248 = .ok (.iload 4, 2) := by decide +kernel
theorem dL_law_250 : decode cL_law 250 = .ok (.iconst 5, 1) := by decide +kernel
theorem dL_law_251 : decode cL_law 251 = .ok (.iadd, 1) := by decide +kernel
theorem dL_law_252 : decode cL_law 252 = .ok (.iaload, 1) := by decide +kernel
theorem dL_law_253 : decode cL_law 253 = .ok (.invokevirtual 25, 3) := by decide +kernel
theorem dL_law_256 : decode cL_law 256 = .ok (.if_icmp .eq 1387, 3) := by decide +kernel
theorem dL_law_259 : decode cL_law 259 = .ok (.iconst 0, 1) := by decide +kernel
theorem dL_law_260 : decode cL_law 260 = .ok (.ireturn, 1) := by decide +kernel
theorem dL_law_261 : decode cL_law 261 = .ok (.aload_n 1, 1) := by decide +kernel
theorem dL_law_262 : decode cL_law 262 = .ok (.aload_n 0, 1) := by decide +kernel
theorem dL_law_263 : decode cL_law 263 = .ok (.iload 4, 2) := by decide +kernel
theorem dL_law_265 : decode cL_law 265 = .ok (.iconst 1, 1) := by decide +kernel
theorem dL_law_266 : decode cL_law 266 = .ok (.iadd, 1) := by decide +kernel
theorem dL_law_267 : decode cL_law 267 = .ok (.iaload, 1) := by decide +kernel
theorem dL_law_268 : decode cL_law 268 = .ok (.invokevirtual 26, 3) := by decide +kernel
theorem dL_law_271 : decode cL_law 271 = .ok (.aload_n 2, 1) := by decide +kernel
theorem dL_law_272 : decode cL_law 272 = .ok (.aload_n 0, 1) := by decide +kernel
theorem dL_law_273 : decode cL_law 273 = .ok (.iload 4, 2) := by decide +kernel
theorem dL_law_275 : decode cL_law 275 = .ok (.iconst 1, 1) := by decide +kernel
theorem dL_law_276 : decode cL_law 276 = .ok (.iadd, 1) := by decide +kernel
theorem dL_law_277 : decode cL_law 277 = .ok (.iaload, 1) := by decide +kernel
theorem dL_law_278 : decode cL_law 278 = .ok (.invokevirtual 30, 3) := by decide +kernel
theorem dL_law_281 : decode cL_law 281 = .ok (.if_icmp .eq 1362, 3) := by decide +kernel
theorem dL_law_284 : decode cL_law 284 = .ok (.iconst 0, 1) := by decide +kernel
theorem dL_law_285 : decode cL_law 285 = .ok (.ireturn, 1) := by decide +kernel
theorem dL_law_286 : decode cL_law 286 = .ok (.aload_n 1, 1) := by decide +kernel
theorem dL_law_287 : decode cL_law 287 = .ok (.aload_n 0, 1) := by decide +kernel
theorem dL_law_288 : decode cL_law 288 = .ok (.iload 4, 2) := by decide +kernel
theorem dL_law_290 : decode cL_law 290 = .ok (.iconst 1, 1) := by decide +kernel
theorem dL_law_291 : decode cL_law 291 = .ok (.iadd, 1) := by decide +kernel
theorem dL_law_292 : decode cL_law 292 = .ok (.iaload, 1) := by decide +kernel
theorem dL_law_293 : decode cL_law 293 = .ok (.invokevirtual 31, 3) := by decide +kernel
theorem dL_law_296 : decode cL_law 296 = .ok (.aload_n 2, 1) := by decide +kernel
theorem dL_law_297 : decode cL_law 297 = .ok (.aload_n 0, 1) := by decide +kernel
theorem dL_law_298 : decode cL_law 298 = .ok (.iload 4, 2) := by decide +kernel
theorem dL_law_300 : decode cL_law 300 = .ok (.iconst 1, 1) := by decide +kernel
theorem dL_law_301 : decode cL_law 301 = .ok (.iadd, 1) := by decide +kernel
theorem dL_law_302 : decode cL_law 302 = .ok (.iaload, 1) := by decide +kernel
theorem dL_law_303 : decode cL_law 303 = .ok (.invokevirtual 34, 3) := by decide +kernel
theorem dL_law_306 : decode cL_law 306 = .ok (.if_icmp .eq 1337, 3) := by decide +kernel
theorem dL_law_309 : decode cL_law 309 = .ok (.iconst 0, 1) := by decide +kernel
theorem dL_law_310 : decode cL_law 310 = .ok (.ireturn, 1) := by decide +kernel
theorem dL_law_311 : decode cL_law 311 = .ok (.aload_n 1, 1) := by decide +kernel
theorem dL_law_312 : decode cL_law 312 = .ok (.aload_n 0, 1) := by decide +kernel
theorem dL_law_313 : decode cL_law 313 = .ok (.iload 4, 2) := by decide +kernel
theorem dL_law_315 : decode cL_law 315 = .ok (.iconst 1, 1) := by decide +kernel
theorem dL_law_316 : decode cL_law 316 = .ok (.iadd, 1) := by decide +kernel
theorem dL_law_317 : decode cL_law 317 = .ok (.iaload, 1) := by decide +kernel
theorem dL_law_318 : decode cL_law 318 = .ok (.aload_n 0, 1) := by decide +kernel
theorem dL_law_319 : decode cL_law 319 = .ok (.iload 4, 2) := by decide +kernel
theorem dL_law_321 : decode cL_law 321 = .ok (.iconst 2, 1) := by decide +kernel
theorem dL_law_322 : decode cL_law 322 = .ok (.iadd, 1) := by decide +kernel
theorem dL_law_323 : decode cL_law 323 = .ok (.iaload, 1) := by decide +kernel
theorem dL_law_324 : decode cL_law 324 = .ok (.invokevirtual 35, 3) := by decide +kernel
theorem dL_law_327 : decode cL_law 327 = .ok (.aload_n 2, 1) := by decide +kernel
theorem dL_law_328 : decode cL_law 328 = .ok (.aload_n 0, 1) := by decide +kernel
theorem dL_law_329 : decode cL_law 329 = .ok (.iload 4, 2) := by decide +kernel
theorem dL_law_331 : decode cL_law 331 = .ok (.iconst 1, 1) := by decide +kernel
theorem dL_law_332 : decode cL_law 332 = .ok (.iadd, 1) := by decide +kernel
theorem dL_law_333 : decode cL_law 333 = .ok (.iaload, 1) := by decide +kernel
theorem dL_law_334 : decode cL_law 334 = .ok (.aload_n 0, 1) := by decide +kernel
theorem dL_law_335 : decode cL_law 335 = .ok (.iload 4, 2) := by decide +kernel
theorem dL_law_337 : decode cL_law 337 = .ok (.iconst 2, 1) := by decide +kernel
theorem dL_law_338 : decode cL_law 338 = .ok (.iadd, 1) := by decide +kernel
theorem dL_law_339 : decode cL_law 339 = .ok (.iaload, 1) := by decide +kernel
theorem dL_law_340 : decode cL_law 340 = .ok (.invokevirtual 39, 3) := by decide +kernel
theorem dL_law_343 : decode cL_law 343 = .ok (.if_icmp .eq 1300, 3) := by decide +kernel
theorem dL_law_346 : decode cL_law 346 = .ok (.iconst 0, 1) := by decide +kernel
theorem dL_law_347 : decode cL_law 347 = .ok (.ireturn, 1) := by decide +kernel
theorem dL_law_348 : decode cL_law 348 = .ok (.aload_n 1, 1) := by decide +kernel
theorem dL_law_349 : decode cL_law 349 = .ok (.aload_n 0, 1) := by decide +kernel
theorem dL_law_350 : decode cL_law 350 = .ok (.iload 4, 2) := by decide +kernel
theorem dL_law_352 : decode cL_law 352 = .ok (.iconst 1, 1) := by decide +kernel
theorem dL_law_353 : decode cL_law 353 = .ok (.iadd, 1) := by decide +kernel
theorem dL_law_354 : decode cL_law 354 = .ok (.iaload, 1) := by decide +kernel
theorem dL_law_355 : decode cL_law 355 = .ok (.aload_n 0, 1) := by decide +kernel
theorem dL_law_356 : decode cL_law 356 = .ok (.iload 4, 2) := by decide +kernel
theorem dL_law_358 : decode cL_law 358 = .ok (.iconst 2, 1) := by decide +kernel
theorem dL_law_359 : decode cL_law 359 = .ok (.iadd, 1) := by decide +kernel
theorem dL_law_360 : decode cL_law 360 = .ok (.iaload, 1) := by decide +kernel
theorem dL_law_361 : decode cL_law 361 = .ok (.aload_n 0, 1) := by decide +kernel
theorem dL_law_362 : decode cL_law 362 = .ok (.iload 4, 2) := by decide +kernel
theorem dL_law_364 : decode cL_law 364 = .ok (.iconst 3, 1) := by decide +kernel
theorem dL_law_365 : decode cL_law 365 = .ok (.iadd, 1) := by decide +kernel
theorem dL_law_366 : decode cL_law 366 = .ok (.iaload, 1) := by decide +kernel
theorem dL_law_367 : decode cL_law 367 = .ok (.aload_n 3, 1) := by decide +kernel
theorem dL_law_368 : decode cL_law 368 = .ok (.invokestatic 40, 3) := by decide +kernel
theorem dL_law_371 : decode cL_law 371 = .ok (.istore 5, 2) := by decide +kernel
theorem dL_law_373 : decode cL_law 373 = .ok (.aload_n 2, 1) := by decide +kernel
theorem dL_law_374 : decode cL_law 374 = .ok (.aload_n 0, 1) := by decide +kernel
theorem dL_law_375 : decode cL_law 375 = .ok (.iload 4, 2) := by decide +kernel
theorem dL_law_377 : decode cL_law 377 = .ok (.iconst 1, 1) := by decide +kernel
theorem dL_law_378 : decode cL_law 378 = .ok (.iadd, 1) := by decide +kernel
theorem dL_law_379 : decode cL_law 379 = .ok (.iaload, 1) := by decide +kernel
theorem dL_law_380 : decode cL_law 380 = .ok (.aload_n 0, 1) := by decide +kernel
theorem dL_law_381 : decode cL_law 381 = .ok (.iload 4, 2) := by decide +kernel
theorem dL_law_383 : decode cL_law 383 = .ok (.iconst 2, 1) := by decide +kernel
theorem dL_law_384 : decode cL_law 384 = .ok (.iadd, 1) := by decide +kernel
theorem dL_law_385 : decode cL_law 385 = .ok (.iaload, 1) := by decide +kernel
theorem dL_law_386 : decode cL_law 386 = .ok (.aload_n 0, 1) := by decide +kernel
theorem dL_law_387 : decode cL_law 387 = .ok (.iload 4, 2) := by decide +kernel
theorem dL_law_389 : decode cL_law 389 = .ok (.iconst 3, 1) := by decide +kernel
theorem dL_law_390 : decode cL_law 390 = .ok (.iadd, 1) := by decide +kernel
theorem dL_law_391 : decode cL_law 391 = .ok (.iaload, 1) := by decide +kernel
theorem dL_law_392 : decode cL_law 392 = .ok (.invokevirtual 45, 3) := by decide +kernel
theorem dL_law_395 : decode cL_law 395 = .ok (.istore 6, 2) := by decide +kernel
theorem dL_law_397 : decode cL_law 397 = .ok (.aload_n 2, 1) := by decide +kernel
theorem dL_law_398 : decode cL_law 398 = .ok (.invokevirtual 46, 3) := by decide +kernel
theorem dL_law_401 : decode cL_law 401 = .ok (.iload 5, 2) := by decide +kernel
theorem dL_law_403 : decode cL_law 403 = .ok (.if_icmp .eq 5, 3) := by decide +kernel
theorem dL_law_406 : decode cL_law 406 = .ok (.iconst 0, 1) := by decide +kernel
theorem dL_law_407 : decode cL_law 407 = .ok (.ireturn, 1) := by decide +kernel
theorem dL_law_408 : decode cL_law 408 = .ok (.iload 5, 2) := by decide +kernel
theorem dL_law_410 : decode cL_law 410 = .ok (.ifCond .ne 15, 3) := by decide +kernel
theorem dL_law_413 : decode cL_law 413 = .ok (.aload_n 3, 1) := by decide +kernel
theorem dL_law_414 : decode cL_law 414 = .ok (.iconst 0, 1) := by decide +kernel
theorem dL_law_415 : decode cL_law 415 = .ok (.laload, 1) := by decide +kernel
theorem dL_law_416 : decode cL_law 416 = .ok (.iload 6, 2) := by decide +kernel
theorem dL_law_418 : decode cL_law 418 = .ok (.i2l, 1) := by decide +kernel
theorem dL_law_419 : decode cL_law 419 = .ok (.lcmp, 1) := by decide +kernel
theorem dL_law_420 : decode cL_law 420 = .ok (.ifCond .eq 5, 3) := by decide +kernel
theorem dL_law_423 : decode cL_law 423 = .ok (.iconst 0, 1) := by decide +kernel
theorem dL_law_424 : decode cL_law 424 = .ok (.ireturn, 1) := by decide +kernel
theorem dL_law_425 : decode cL_law 425 = .ok (.goto 1218, 3) := by decide +kernel
theorem dL_law_428 : decode cL_law 428 = .ok (.aload_n 1, 1) := by decide +kernel
theorem dL_law_429 : decode cL_law 429 = .ok (.aload_n 0, 1) := by decide +kernel
theorem dL_law_430 : decode cL_law 430 = .ok (.iload 4, 2) := by decide +kernel
theorem dL_law_432 : decode cL_law 432 = .ok (.iconst 1, 1) := by decide +kernel
theorem dL_law_433 : decode cL_law 433 = .ok (.iadd, 1) := by decide +kernel
theorem dL_law_434 : decode cL_law 434 = .ok (.iaload, 1) := by decide +kernel
theorem dL_law_435 : decode cL_law 435 = .ok (.aload_n 0, 1) := by decide +kernel
theorem dL_law_436 : decode cL_law 436 = .ok (.iload 4, 2) := by decide +kernel
theorem dL_law_438 : decode cL_law 438 = .ok (.iconst 2, 1) := by decide +kernel
theorem dL_law_439 : decode cL_law 439 = .ok (.iadd, 1) := by decide +kernel
theorem dL_law_440 : decode cL_law 440 = .ok (.iaload, 1) := by decide +kernel
theorem dL_law_441 : decode cL_law 441 = .ok (.invokevirtual 50, 3) := by decide +kernel
theorem dL_law_444 : decode cL_law 444 = .ok (.aload_n 2, 1) := by decide +kernel
theorem dL_law_445 : decode cL_law 445 = .ok (.aload_n 0, 1) := by decide +kernel
theorem dL_law_446 : decode cL_law 446 = .ok (.iload 4, 2) := by decide +kernel
theorem dL_law_448 : decode cL_law 448 = .ok (.iconst 1, 1) := by decide +kernel
theorem dL_law_449 : decode cL_law 449 = .ok (.iadd, 1) := by decide +kernel
theorem dL_law_450 : decode cL_law 450 = .ok (.iaload, 1) := by decide +kernel
theorem dL_law_451 : decode cL_law 451 = .ok (.aload_n 0, 1) := by decide +kernel
theorem dL_law_452 : decode cL_law 452 = .ok (.iload 4, 2) := by decide +kernel
theorem dL_law_454 : decode cL_law 454 = .ok (.iconst 2, 1) := by decide +kernel
theorem dL_law_455 : decode cL_law 455 = .ok (.iadd, 1) := by decide +kernel
theorem dL_law_456 : decode cL_law 456 = .ok (.iaload, 1) := by decide +kernel
theorem dL_law_457 : decode cL_law 457 = .ok (.invokevirtual 53, 3) := by decide +kernel
theorem dL_law_460 : decode cL_law 460 = .ok (.if_icmp .eq 1183, 3) := by decide +kernel
theorem dL_law_463 : decode cL_law 463 = .ok (.iconst 0, 1) := by decide +kernel
theorem dL_law_464 : decode cL_law 464 = .ok (.ireturn, 1) := by decide +kernel
theorem dL_law_465 : decode cL_law 465 = .ok (.aload_n 1, 1) := by decide +kernel
theorem dL_law_466 : decode cL_law 466 = .ok (.aload_n 0, 1) := by decide +kernel
theorem dL_law_467 : decode cL_law 467 = .ok (.iload 4, 2) := by decide +kernel
theorem dL_law_469 : decode cL_law 469 = .ok (.iconst 1, 1) := by decide +kernel
theorem dL_law_470 : decode cL_law 470 = .ok (.iadd, 1) := by decide +kernel
theorem dL_law_471 : decode cL_law 471 = .ok (.iaload, 1) := by decide +kernel
theorem dL_law_472 : decode cL_law 472 = .ok (.aload_n 0, 1) := by decide +kernel
theorem dL_law_473 : decode cL_law 473 = .ok (.iload 4, 2) := by decide +kernel
theorem dL_law_475 : decode cL_law 475 = .ok (.iconst 2, 1) := by decide +kernel
theorem dL_law_476 : decode cL_law 476 = .ok (.iadd, 1) := by decide +kernel
theorem dL_law_477 : decode cL_law 477 = .ok (.iaload, 1) := by decide +kernel
theorem dL_law_478 : decode cL_law 478 = .ok (.aload_n 0, 1) := by decide +kernel
theorem dL_law_479 : decode cL_law 479 = .ok (.iload 4, 2) := by decide +kernel
theorem dL_law_481 : decode cL_law 481 = .ok (.iconst 3, 1) := by decide +kernel
theorem dL_law_482 : decode cL_law 482 = .ok (.iadd, 1) := by decide +kernel
theorem dL_law_483 : decode cL_law 483 = .ok (.iaload, 1) := by decide +kernel
theorem dL_law_484 : decode cL_law 484 = .ok (.aload_n 0, 1) := by decide +kernel
theorem dL_law_485 : decode cL_law 485 = .ok (.iload 4, 2) := by decide +kernel
theorem dL_law_487 : decode cL_law 487 = .ok (.iconst 4, 1) := by decide +kernel
theorem dL_law_488 : decode cL_law 488 = .ok (.iadd, 1) := by decide +kernel
theorem dL_law_489 : decode cL_law 489 = .ok (.iaload, 1) := by decide +kernel
theorem dL_law_490 : decode cL_law 490 = .ok (.invokevirtual 54, 3) := by decide +kernel
theorem dL_law_493 : decode cL_law 493 = .ok (.aload_n 2, 1) := by decide +kernel
theorem dL_law_494 : decode cL_law 494 = .ok (.aload_n 0, 1) := by decide +kernel
theorem dL_law_495 : decode cL_law 495 = .ok (.iload 4, 2) := by decide +kernel
theorem dL_law_497 : decode cL_law 497 = .ok (.iconst 1, 1) := by decide +kernel
theorem dL_law_498 : decode cL_law 498 = .ok (.iadd, 1) := by decide +kernel
theorem dL_law_499 : decode cL_law 499 = .ok (.iaload, 1) := by decide +kernel
theorem dL_law_500 : decode cL_law 500 = .ok (.aload_n 0, 1) := by decide +kernel
theorem dL_law_501 : decode cL_law 501 = .ok (.iload 4, 2) := by decide +kernel
theorem dL_law_503 : decode cL_law 503 = .ok (.iconst 2, 1) := by decide +kernel
theorem dL_law_504 : decode cL_law 504 = .ok (.iadd, 1) := by decide +kernel
theorem dL_law_505 : decode cL_law 505 = .ok (.iaload, 1) := by decide +kernel
theorem dL_law_506 : decode cL_law 506 = .ok (.aload_n 0, 1) := by decide +kernel
theorem dL_law_507 : decode cL_law 507 = .ok (.iload 4, 2) := by decide +kernel
theorem dL_law_509 : decode cL_law 509 = .ok (.iconst 3, 1) := by decide +kernel
theorem dL_law_510 : decode cL_law 510 = .ok (.iadd, 1) := by decide +kernel
theorem dL_law_511 : decode cL_law 511 = .ok (.iaload, 1) := by decide +kernel
theorem dL_law_512 : decode cL_law 512 = .ok (.aload_n 0, 1) := by decide +kernel
theorem dL_law_513 : decode cL_law 513 = .ok (.iload 4, 2) := by decide +kernel
theorem dL_law_515 : decode cL_law 515 = .ok (.iconst 4, 1) := by decide +kernel
theorem dL_law_516 : decode cL_law 516 = .ok (.iadd, 1) := by decide +kernel
theorem dL_law_517 : decode cL_law 517 = .ok (.iaload, 1) := by decide +kernel
theorem dL_law_518 : decode cL_law 518 = .ok (.invokevirtual 58, 3) := by decide +kernel
theorem dL_law_521 : decode cL_law 521 = .ok (.if_icmp .eq 1122, 3) := by decide +kernel
theorem dL_law_524 : decode cL_law 524 = .ok (.iconst 0, 1) := by decide +kernel
theorem dL_law_525 : decode cL_law 525 = .ok (.ireturn, 1) := by decide +kernel
theorem dL_law_526 : decode cL_law 526 = .ok (.aload_n 1, 1) := by decide +kernel
theorem dL_law_527 : decode cL_law 527 = .ok (.aload_n 0, 1) := by decide +kernel
theorem dL_law_528 : decode cL_law 528 = .ok (.iload 4, 2) := by decide +kernel
theorem dL_law_530 : decode cL_law 530 = .ok (.iconst 1, 1) := by decide +kernel
theorem dL_law_531 : decode cL_law 531 = .ok (.iadd, 1) := by decide +kernel
theorem dL_law_532 : decode cL_law 532 = .ok (.iaload, 1) := by decide +kernel
theorem dL_law_533 : decode cL_law 533 = .ok (.aload_n 0, 1) := by decide +kernel
theorem dL_law_534 : decode cL_law 534 = .ok (.iload 4, 2) := by decide +kernel
theorem dL_law_536 : decode cL_law 536 = .ok (.iconst 2, 1) := by decide +kernel
theorem dL_law_537 : decode cL_law 537 = .ok (.iadd, 1) := by decide +kernel
theorem dL_law_538 : decode cL_law 538 = .ok (.iaload, 1) := by decide +kernel
theorem dL_law_539 : decode cL_law 539 = .ok (.aload_n 0, 1) := by decide +kernel
theorem dL_law_540 : decode cL_law 540 = .ok (.iload 4, 2) := by decide +kernel
theorem dL_law_542 : decode cL_law 542 = .ok (.iconst 3, 1) := by decide +kernel
theorem dL_law_543 : decode cL_law 543 = .ok (.iadd, 1) := by decide +kernel
theorem dL_law_544 : decode cL_law 544 = .ok (.iaload, 1) := by decide +kernel
theorem dL_law_545 : decode cL_law 545 = .ok (.ifCond .eq 7, 3) := by decide +kernel
theorem dL_law_548 : decode cL_law 548 = .ok (.iconst 1, 1) := by decide +kernel
theorem dL_law_549 : decode cL_law 549 = .ok (.goto 4, 3) := by decide +kernel
theorem dL_law_552 : decode cL_law 552 = .ok (.iconst 0, 1) := by decide +kernel
theorem dL_law_553 : decode cL_law 553 = .ok (.invokevirtual 59, 3) := by decide +kernel
theorem dL_law_556 : decode cL_law 556 = .ok (.aload_n 2, 1) := by decide +kernel
theorem dL_law_557 : decode cL_law 557 = .ok (.aload_n 0, 1) := by decide +kernel
theorem dL_law_558 : decode cL_law 558 = .ok (.iload 4, 2) := by decide +kernel
theorem dL_law_560 : decode cL_law 560 = .ok (.iconst 1, 1) := by decide +kernel
theorem dL_law_561 : decode cL_law 561 = .ok (.iadd, 1) := by decide +kernel
theorem dL_law_562 : decode cL_law 562 = .ok (.iaload, 1) := by decide +kernel
theorem dL_law_563 : decode cL_law 563 = .ok (.aload_n 0, 1) := by decide +kernel
theorem dL_law_564 : decode cL_law 564 = .ok (.iload 4, 2) := by decide +kernel
theorem dL_law_566 : decode cL_law 566 = .ok (.iconst 2, 1) := by decide +kernel
theorem dL_law_567 : decode cL_law 567 = .ok (.iadd, 1) := by decide +kernel
theorem dL_law_568 : decode cL_law 568 = .ok (.iaload, 1) := by decide +kernel
theorem dL_law_569 : decode cL_law 569 = .ok (.aload_n 0, 1) := by decide +kernel
theorem dL_law_570 : decode cL_law 570 = .ok (.iload 4, 2) := by decide +kernel
theorem dL_law_572 : decode cL_law 572 = .ok (.iconst 3, 1) := by decide +kernel
theorem dL_law_573 : decode cL_law 573 = .ok (.iadd, 1) := by decide +kernel
theorem dL_law_574 : decode cL_law 574 = .ok (.iaload, 1) := by decide +kernel
theorem dL_law_575 : decode cL_law 575 = .ok (.ifCond .eq 7, 3) := by decide +kernel
theorem dL_law_578 : decode cL_law 578 = .ok (.iconst 1, 1) := by decide +kernel
theorem dL_law_579 : decode cL_law 579 = .ok (.goto 4, 3) := by decide +kernel
theorem dL_law_582 : decode cL_law 582 = .ok (.iconst 0, 1) := by decide +kernel
theorem dL_law_583 : decode cL_law 583 = .ok (.invokevirtual 63, 3) := by decide +kernel
theorem dL_law_586 : decode cL_law 586 = .ok (.if_icmp .eq 1057, 3) := by decide +kernel
theorem dL_law_589 : decode cL_law 589 = .ok (.iconst 0, 1) := by decide +kernel
theorem dL_law_590 : decode cL_law 590 = .ok (.ireturn, 1) := by decide +kernel
theorem dL_law_591 : decode cL_law 591 = .ok (.aload_n 1, 1) := by decide +kernel
theorem dL_law_592 : decode cL_law 592 = .ok (.aload_n 0, 1) := by decide +kernel
theorem dL_law_593 : decode cL_law 593 = .ok (.iload 4, 2) := by decide +kernel
theorem dL_law_595 : decode cL_law 595 = .ok (.iconst 1, 1) := by decide +kernel
theorem dL_law_596 : decode cL_law 596 = .ok (.iadd, 1) := by decide +kernel
theorem dL_law_597 : decode cL_law 597 = .ok (.iaload, 1) := by decide +kernel
theorem dL_law_598 : decode cL_law 598 = .ok (.invokevirtual 64, 3) := by decide +kernel
theorem dL_law_601 : decode cL_law 601 = .ok (.aload_n 2, 1) := by decide +kernel
theorem dL_law_602 : decode cL_law 602 = .ok (.aload_n 0, 1) := by decide +kernel
theorem dL_law_603 : decode cL_law 603 = .ok (.iload 4, 2) := by decide +kernel
theorem dL_law_605 : decode cL_law 605 = .ok (.iconst 1, 1) := by decide +kernel
theorem dL_law_606 : decode cL_law 606 = .ok (.iadd, 1) := by decide +kernel
theorem dL_law_607 : decode cL_law 607 = .ok (.iaload, 1) := by decide +kernel
theorem dL_law_608 : decode cL_law 608 = .ok (.invokevirtual 67, 3) := by decide +kernel
theorem dL_law_611 : decode cL_law 611 = .ok (.if_icmp .eq 1032, 3) := by decide +kernel
theorem dL_law_614 : decode cL_law 614 = .ok (.iconst 0, 1) := by decide +kernel
theorem dL_law_615 : decode cL_law 615 = .ok (.ireturn, 1) := by decide +kernel
theorem dL_law_616 : decode cL_law 616 = .ok (.aload_n 1, 1) := by decide +kernel
theorem dL_law_617 : decode cL_law 617 = .ok (.aload_n 0, 1) := by decide +kernel
theorem dL_law_618 : decode cL_law 618 = .ok (.iload 4, 2) := by decide +kernel
theorem dL_law_620 : decode cL_law 620 = .ok (.iconst 1, 1) := by decide +kernel
theorem dL_law_621 : decode cL_law 621 = .ok (.iadd, 1) := by decide +kernel
theorem dL_law_622 : decode cL_law 622 = .ok (.iaload, 1) := by decide +kernel
theorem dL_law_623 : decode cL_law 623 = .ok (.invokevirtual 68, 3) := by decide +kernel
theorem dL_law_626 : decode cL_law 626 = .ok (.aload_n 2, 1) := by decide +kernel
theorem dL_law_627 : decode cL_law 627 = .ok (.aload_n 0, 1) := by decide +kernel
theorem dL_law_628 : decode cL_law 628 = .ok (.iload 4, 2) := by decide +kernel
theorem dL_law_630 : decode cL_law 630 = .ok (.iconst 1, 1) := by decide +kernel
theorem dL_law_631 : decode cL_law 631 = .ok (.iadd, 1) := by decide +kernel
theorem dL_law_632 : decode cL_law 632 = .ok (.iaload, 1) := by decide +kernel
theorem dL_law_633 : decode cL_law 633 = .ok (.invokevirtual 72, 3) := by decide +kernel
theorem dL_law_636 : decode cL_law 636 = .ok (.if_icmp .eq 1007, 3) := by decide +kernel
theorem dL_law_639 : decode cL_law 639 = .ok (.iconst 0, 1) := by decide +kernel
theorem dL_law_640 : decode cL_law 640 = .ok (.ireturn, 1) := by decide +kernel
theorem dL_law_641 : decode cL_law 641 = .ok (.aload_n 1, 1) := by decide +kernel
theorem dL_law_642 : decode cL_law 642 = .ok (.aload_n 0, 1) := by decide +kernel
theorem dL_law_643 : decode cL_law 643 = .ok (.iload 4, 2) := by decide +kernel
theorem dL_law_645 : decode cL_law 645 = .ok (.iconst 1, 1) := by decide +kernel
theorem dL_law_646 : decode cL_law 646 = .ok (.iadd, 1) := by decide +kernel
theorem dL_law_647 : decode cL_law 647 = .ok (.iaload, 1) := by decide +kernel
theorem dL_law_648 : decode cL_law 648 = .ok (.aload_n 0, 1) := by decide +kernel
theorem dL_law_649 : decode cL_law 649 = .ok (.iload 4, 2) := by decide +kernel
theorem dL_law_651 : decode cL_law 651 = .ok (.iconst 2, 1) := by decide +kernel
theorem dL_law_652 : decode cL_law 652 = .ok (.iadd, 1) := by decide +kernel
theorem dL_law_653 : decode cL_law 653 = .ok (.iaload, 1) := by decide +kernel
theorem dL_law_654 : decode cL_law 654 = .ok (.ifCond .eq 7, 3) := by decide +kernel
theorem dL_law_657 : decode cL_law 657 = .ok (.iconst 1, 1) := by decide +kernel
theorem dL_law_658 : decode cL_law 658 = .ok (.goto 4, 3) := by decide +kernel
theorem dL_law_661 : decode cL_law 661 = .ok (.iconst 0, 1) := by decide +kernel
theorem dL_law_662 : decode cL_law 662 = .ok (.invokevirtual 73, 3) := by decide +kernel
theorem dL_law_665 : decode cL_law 665 = .ok (.aload_n 2, 1) := by decide +kernel
theorem dL_law_666 : decode cL_law 666 = .ok (.aload_n 0, 1) := by decide +kernel
theorem dL_law_667 : decode cL_law 667 = .ok (.iload 4, 2) := by decide +kernel
theorem dL_law_669 : decode cL_law 669 = .ok (.iconst 1, 1) := by decide +kernel
theorem dL_law_670 : decode cL_law 670 = .ok (.iadd, 1) := by decide +kernel
theorem dL_law_671 : decode cL_law 671 = .ok (.iaload, 1) := by decide +kernel
theorem dL_law_672 : decode cL_law 672 = .ok (.aload_n 0, 1) := by decide +kernel
theorem dL_law_673 : decode cL_law 673 = .ok (.iload 4, 2) := by decide +kernel
theorem dL_law_675 : decode cL_law 675 = .ok (.iconst 2, 1) := by decide +kernel
theorem dL_law_676 : decode cL_law 676 = .ok (.iadd, 1) := by decide +kernel
theorem dL_law_677 : decode cL_law 677 = .ok (.iaload, 1) := by decide +kernel
theorem dL_law_678 : decode cL_law 678 = .ok (.ifCond .eq 7, 3) := by decide +kernel
theorem dL_law_681 : decode cL_law 681 = .ok (.iconst 1, 1) := by decide +kernel
theorem dL_law_682 : decode cL_law 682 = .ok (.goto 4, 3) := by decide +kernel
theorem dL_law_685 : decode cL_law 685 = .ok (.iconst 0, 1) := by decide +kernel
theorem dL_law_686 : decode cL_law 686 = .ok (.invokevirtual 77, 3) := by decide +kernel
theorem dL_law_689 : decode cL_law 689 = .ok (.if_icmp .eq 954, 3) := by decide +kernel
theorem dL_law_692 : decode cL_law 692 = .ok (.iconst 0, 1) := by decide +kernel
theorem dL_law_693 : decode cL_law 693 = .ok (.ireturn, 1) := by decide +kernel
theorem dL_law_694 : decode cL_law 694 = .ok (.aload_n 1, 1) := by decide +kernel
theorem dL_law_695 : decode cL_law 695 = .ok (.aload_n 0, 1) := by decide +kernel
theorem dL_law_696 : decode cL_law 696 = .ok (.iload 4, 2) := by decide +kernel
theorem dL_law_698 : decode cL_law 698 = .ok (.iconst 1, 1) := by decide +kernel
theorem dL_law_699 : decode cL_law 699 = .ok (.iadd, 1) := by decide +kernel
theorem dL_law_700 : decode cL_law 700 = .ok (.iaload, 1) := by decide +kernel
theorem dL_law_701 : decode cL_law 701 = .ok (.aload_n 0, 1) := by decide +kernel
theorem dL_law_702 : decode cL_law 702 = .ok (.iload 4, 2) := by decide +kernel
theorem dL_law_704 : decode cL_law 704 = .ok (.iconst 2, 1) := by decide +kernel
theorem dL_law_705 : decode cL_law 705 = .ok (.iadd, 1) := by decide +kernel
theorem dL_law_706 : decode cL_law 706 = .ok (.iaload, 1) := by decide +kernel
theorem dL_law_707 : decode cL_law 707 = .ok (.aload_n 0, 1) := by decide +kernel
theorem dL_law_708 : decode cL_law 708 = .ok (.iload 4, 2) := by decide +kernel
theorem dL_law_710 : decode cL_law 710 = .ok (.iconst 3, 1) := by decide +kernel
theorem dL_law_711 : decode cL_law 711 = .ok (.iadd, 1) := by decide +kernel
theorem dL_law_712 : decode cL_law 712 = .ok (.iaload, 1) := by decide +kernel
theorem dL_law_713 : decode cL_law 713 = .ok (.aload_n 0, 1) := by decide +kernel
theorem dL_law_714 : decode cL_law 714 = .ok (.iload 4, 2) := by decide +kernel
theorem dL_law_716 : decode cL_law 716 = .ok (.iconst 4, 1) := by decide +kernel
theorem dL_law_717 : decode cL_law 717 = .ok (.iadd, 1) := by decide +kernel
theorem dL_law_718 : decode cL_law 718 = .ok (.iaload, 1) := by decide +kernel
theorem dL_law_719 : decode cL_law 719 = .ok (.invokevirtual 78, 3) := by decide +kernel
theorem dL_law_722 : decode cL_law 722 = .ok (.aload_n 2, 1) := by decide +kernel
theorem dL_law_723 : decode cL_law 723 = .ok (.aload_n 0, 1) := by decide +kernel
theorem dL_law_724 : decode cL_law 724 = .ok (.iload 4, 2) := by decide +kernel
theorem dL_law_726 : decode cL_law 726 = .ok (.iconst 1, 1) := by decide +kernel
theorem dL_law_727 : decode cL_law 727 = .ok (.iadd, 1) := by decide +kernel
theorem dL_law_728 : decode cL_law 728 = .ok (.iaload, 1) := by decide +kernel
theorem dL_law_729 : decode cL_law 729 = .ok (.aload_n 0, 1) := by decide +kernel
theorem dL_law_730 : decode cL_law 730 = .ok (.iload 4, 2) := by decide +kernel
theorem dL_law_732 : decode cL_law 732 = .ok (.iconst 2, 1) := by decide +kernel
theorem dL_law_733 : decode cL_law 733 = .ok (.iadd, 1) := by decide +kernel
theorem dL_law_734 : decode cL_law 734 = .ok (.iaload, 1) := by decide +kernel
theorem dL_law_735 : decode cL_law 735 = .ok (.aload_n 0, 1) := by decide +kernel
theorem dL_law_736 : decode cL_law 736 = .ok (.iload 4, 2) := by decide +kernel
theorem dL_law_738 : decode cL_law 738 = .ok (.iconst 3, 1) := by decide +kernel
theorem dL_law_739 : decode cL_law 739 = .ok (.iadd, 1) := by decide +kernel
theorem dL_law_740 : decode cL_law 740 = .ok (.iaload, 1) := by decide +kernel
theorem dL_law_741 : decode cL_law 741 = .ok (.aload_n 0, 1) := by decide +kernel
theorem dL_law_742 : decode cL_law 742 = .ok (.iload 4, 2) := by decide +kernel
theorem dL_law_744 : decode cL_law 744 = .ok (.iconst 4, 1) := by decide +kernel
theorem dL_law_745 : decode cL_law 745 = .ok (.iadd, 1) := by decide +kernel
theorem dL_law_746 : decode cL_law 746 = .ok (.iaload, 1) := by decide +kernel
theorem dL_law_747 : decode cL_law 747 = .ok (.invokevirtual 81, 3) := by decide +kernel
theorem dL_law_750 : decode cL_law 750 = .ok (.if_icmp .eq 893, 3) := by decide +kernel
theorem dL_law_753 : decode cL_law 753 = .ok (.iconst 0, 1) := by decide +kernel
theorem dL_law_754 : decode cL_law 754 = .ok (.ireturn, 1) := by decide +kernel
theorem dL_law_755 : decode cL_law 755 = .ok (.aload_n 1, 1) := by decide +kernel
theorem dL_law_756 : decode cL_law 756 = .ok (.aload_n 0, 1) := by decide +kernel
theorem dL_law_757 : decode cL_law 757 = .ok (.iload 4, 2) := by decide +kernel
theorem dL_law_759 : decode cL_law 759 = .ok (.iconst 1, 1) := by decide +kernel
theorem dL_law_760 : decode cL_law 760 = .ok (.iadd, 1) := by decide +kernel
theorem dL_law_761 : decode cL_law 761 = .ok (.iaload, 1) := by decide +kernel
theorem dL_law_762 : decode cL_law 762 = .ok (.aload_n 0, 1) := by decide +kernel
theorem dL_law_763 : decode cL_law 763 = .ok (.iload 4, 2) := by decide +kernel
theorem dL_law_765 : decode cL_law 765 = .ok (.iconst 2, 1) := by decide +kernel
theorem dL_law_766 : decode cL_law 766 = .ok (.iadd, 1) := by decide +kernel
theorem dL_law_767 : decode cL_law 767 = .ok (.iaload, 1) := by decide +kernel
theorem dL_law_768 : decode cL_law 768 = .ok (.invokevirtual 82, 3) := by decide +kernel
theorem dL_law_771 : decode cL_law 771 = .ok (.aload_n 2, 1) := by decide +kernel
theorem dL_law_772 : decode cL_law 772 = .ok (.aload_n 0, 1) := by decide +kernel
theorem dL_law_773 : decode cL_law 773 = .ok (.iload 4, 2) := by decide +kernel
theorem dL_law_775 : decode cL_law 775 = .ok (.iconst 1, 1) := by decide +kernel
theorem dL_law_776 : decode cL_law 776 = .ok (.iadd, 1) := by decide +kernel
theorem dL_law_777 : decode cL_law 777 = .ok (.iaload, 1) := by decide +kernel
theorem dL_law_778 : decode cL_law 778 = .ok (.aload_n 0, 1) := by decide +kernel
theorem dL_law_779 : decode cL_law 779 = .ok (.iload 4, 2) := by decide +kernel
theorem dL_law_781 : decode cL_law 781 = .ok (.iconst 2, 1) := by decide +kernel
theorem dL_law_782 : decode cL_law 782 = .ok (.iadd, 1) := by decide +kernel
theorem dL_law_783 : decode cL_law 783 = .ok (.iaload, 1) := by decide +kernel
theorem dL_law_784 : decode cL_law 784 = .ok (.invokevirtual 85, 3) := by decide +kernel
theorem dL_law_787 : decode cL_law 787 = .ok (.if_icmp .eq 856, 3) := by decide +kernel
theorem dL_law_790 : decode cL_law 790 = .ok (.iconst 0, 1) := by decide +kernel
theorem dL_law_791 : decode cL_law 791 = .ok (.ireturn, 1) := by decide +kernel
theorem dL_law_792 : decode cL_law 792 = .ok (.aload_n 1, 1) := by decide +kernel
theorem dL_law_793 : decode cL_law 793 = .ok (.aload_n 0, 1) := by decide +kernel
theorem dL_law_794 : decode cL_law 794 = .ok (.iload 4, 2) := by decide +kernel
theorem dL_law_796 : decode cL_law 796 = .ok (.iconst 1, 1) := by decide +kernel
theorem dL_law_797 : decode cL_law 797 = .ok (.iadd, 1) := by decide +kernel
theorem dL_law_798 : decode cL_law 798 = .ok (.iaload, 1) := by decide +kernel
theorem dL_law_799 : decode cL_law 799 = .ok (.invokevirtual 86, 3) := by decide +kernel
theorem dL_law_802 : decode cL_law 802 = .ok (.aload_n 2, 1) := by decide +kernel
theorem dL_law_803 : decode cL_law 803 = .ok (.aload_n 0, 1) := by decide +kernel
theorem dL_law_804 : decode cL_law 804 = .ok (.iload 4, 2) := by decide +kernel
theorem dL_law_806 : decode cL_law 806 = .ok (.iconst 1, 1) := by decide +kernel
theorem dL_law_807 : decode cL_law 807 = .ok (.iadd, 1) := by decide +kernel
theorem dL_law_808 : decode cL_law 808 = .ok (.iaload, 1) := by decide +kernel
theorem dL_law_809 : decode cL_law 809 = .ok (.invokevirtual 89, 3) := by decide +kernel
theorem dL_law_812 : decode cL_law 812 = .ok (.if_icmp .eq 831, 3) := by decide +kernel
theorem dL_law_815 : decode cL_law 815 = .ok (.iconst 0, 1) := by decide +kernel
theorem dL_law_816 : decode cL_law 816 = .ok (.ireturn, 1) := by decide +kernel
theorem dL_law_817 : decode cL_law 817 = .ok (.aload_n 1, 1) := by decide +kernel
theorem dL_law_818 : decode cL_law 818 = .ok (.aload_n 0, 1) := by decide +kernel
theorem dL_law_819 : decode cL_law 819 = .ok (.iload 4, 2) := by decide +kernel
theorem dL_law_821 : decode cL_law 821 = .ok (.iconst 1, 1) := by decide +kernel
theorem dL_law_822 : decode cL_law 822 = .ok (.iadd, 1) := by decide +kernel
theorem dL_law_823 : decode cL_law 823 = .ok (.iaload, 1) := by decide +kernel
theorem dL_law_824 : decode cL_law 824 = .ok (.aload_n 0, 1) := by decide +kernel
theorem dL_law_825 : decode cL_law 825 = .ok (.iload 4, 2) := by decide +kernel
theorem dL_law_827 : decode cL_law 827 = .ok (.iconst 2, 1) := by decide +kernel
theorem dL_law_828 : decode cL_law 828 = .ok (.iadd, 1) := by decide +kernel
theorem dL_law_829 : decode cL_law 829 = .ok (.iaload, 1) := by decide +kernel
theorem dL_law_830 : decode cL_law 830 = .ok (.invokevirtual 90, 3) := by decide +kernel
theorem dL_law_833 : decode cL_law 833 = .ok (.aload_n 2, 1) := by decide +kernel
theorem dL_law_834 : decode cL_law 834 = .ok (.aload_n 0, 1) := by decide +kernel
theorem dL_law_835 : decode cL_law 835 = .ok (.iload 4, 2) := by decide +kernel
theorem dL_law_837 : decode cL_law 837 = .ok (.iconst 1, 1) := by decide +kernel
theorem dL_law_838 : decode cL_law 838 = .ok (.iadd, 1) := by decide +kernel
theorem dL_law_839 : decode cL_law 839 = .ok (.iaload, 1) := by decide +kernel
theorem dL_law_840 : decode cL_law 840 = .ok (.aload_n 0, 1) := by decide +kernel
theorem dL_law_841 : decode cL_law 841 = .ok (.iload 4, 2) := by decide +kernel
theorem dL_law_843 : decode cL_law 843 = .ok (.iconst 2, 1) := by decide +kernel
theorem dL_law_844 : decode cL_law 844 = .ok (.iadd, 1) := by decide +kernel
theorem dL_law_845 : decode cL_law 845 = .ok (.iaload, 1) := by decide +kernel
theorem dL_law_846 : decode cL_law 846 = .ok (.invokevirtual 93, 3) := by decide +kernel
theorem dL_law_849 : decode cL_law 849 = .ok (.if_icmp .eq 794, 3) := by decide +kernel
theorem dL_law_852 : decode cL_law 852 = .ok (.iconst 0, 1) := by decide +kernel
theorem dL_law_853 : decode cL_law 853 = .ok (.ireturn, 1) := by decide +kernel
theorem dL_law_854 : decode cL_law 854 = .ok (.aload_n 1, 1) := by decide +kernel
theorem dL_law_855 : decode cL_law 855 = .ok (.aload_n 0, 1) := by decide +kernel
theorem dL_law_856 : decode cL_law 856 = .ok (.iload 4, 2) := by decide +kernel
theorem dL_law_858 : decode cL_law 858 = .ok (.iconst 1, 1) := by decide +kernel
theorem dL_law_859 : decode cL_law 859 = .ok (.iadd, 1) := by decide +kernel
theorem dL_law_860 : decode cL_law 860 = .ok (.iaload, 1) := by decide +kernel
theorem dL_law_861 : decode cL_law 861 = .ok (.aload_n 0, 1) := by decide +kernel
theorem dL_law_862 : decode cL_law 862 = .ok (.iload 4, 2) := by decide +kernel
theorem dL_law_864 : decode cL_law 864 = .ok (.iconst 2, 1) := by decide +kernel
theorem dL_law_865 : decode cL_law 865 = .ok (.iadd, 1) := by decide +kernel
theorem dL_law_866 : decode cL_law 866 = .ok (.iaload, 1) := by decide +kernel
theorem dL_law_867 : decode cL_law 867 = .ok (.aload_n 0, 1) := by decide +kernel
theorem dL_law_868 : decode cL_law 868 = .ok (.iload 4, 2) := by decide +kernel
theorem dL_law_870 : decode cL_law 870 = .ok (.iconst 3, 1) := by decide +kernel
theorem dL_law_871 : decode cL_law 871 = .ok (.iadd, 1) := by decide +kernel
theorem dL_law_872 : decode cL_law 872 = .ok (.iaload, 1) := by decide +kernel
theorem dL_law_873 : decode cL_law 873 = .ok (.invokevirtual 94, 3) := by decide +kernel
theorem dL_law_876 : decode cL_law 876 = .ok (.aload_n 2, 1) := by decide +kernel
theorem dL_law_877 : decode cL_law 877 = .ok (.aload_n 0, 1) := by decide +kernel
theorem dL_law_878 : decode cL_law 878 = .ok (.iload 4, 2) := by decide +kernel
theorem dL_law_880 : decode cL_law 880 = .ok (.iconst 1, 1) := by decide +kernel
theorem dL_law_881 : decode cL_law 881 = .ok (.iadd, 1) := by decide +kernel
theorem dL_law_882 : decode cL_law 882 = .ok (.iaload, 1) := by decide +kernel
theorem dL_law_883 : decode cL_law 883 = .ok (.aload_n 0, 1) := by decide +kernel
theorem dL_law_884 : decode cL_law 884 = .ok (.iload 4, 2) := by decide +kernel
theorem dL_law_886 : decode cL_law 886 = .ok (.iconst 2, 1) := by decide +kernel
theorem dL_law_887 : decode cL_law 887 = .ok (.iadd, 1) := by decide +kernel
theorem dL_law_888 : decode cL_law 888 = .ok (.iaload, 1) := by decide +kernel
theorem dL_law_889 : decode cL_law 889 = .ok (.aload_n 0, 1) := by decide +kernel
theorem dL_law_890 : decode cL_law 890 = .ok (.iload 4, 2) := by decide +kernel
theorem dL_law_892 : decode cL_law 892 = .ok (.iconst 3, 1) := by decide +kernel
theorem dL_law_893 : decode cL_law 893 = .ok (.iadd, 1) := by decide +kernel
theorem dL_law_894 : decode cL_law 894 = .ok (.iaload, 1) := by decide +kernel
theorem dL_law_895 : decode cL_law 895 = .ok (.invokevirtual 97, 3) := by decide +kernel
theorem dL_law_898 : decode cL_law 898 = .ok (.if_icmp .eq 745, 3) := by decide +kernel
theorem dL_law_901 : decode cL_law 901 = .ok (.iconst 0, 1) := by decide +kernel
theorem dL_law_902 : decode cL_law 902 = .ok (.ireturn, 1) := by decide +kernel
theorem dL_law_903 : decode cL_law 903 = .ok (.aload_n 1, 1) := by decide +kernel
theorem dL_law_904 : decode cL_law 904 = .ok (.aload_n 0, 1) := by decide +kernel
theorem dL_law_905 : decode cL_law 905 = .ok (.iload 4, 2) := by decide +kernel
theorem dL_law_907 : decode cL_law 907 = .ok (.iconst 1, 1) := by decide +kernel
theorem dL_law_908 : decode cL_law 908 = .ok (.iadd, 1) := by decide +kernel
theorem dL_law_909 : decode cL_law 909 = .ok (.iaload, 1) := by decide +kernel
theorem dL_law_910 : decode cL_law 910 = .ok (.invokevirtual 98, 3) := by decide +kernel
theorem dL_law_913 : decode cL_law 913 = .ok (.aload_n 2, 1) := by decide +kernel
theorem dL_law_914 : decode cL_law 914 = .ok (.aload_n 0, 1) := by decide +kernel
theorem dL_law_915 : decode cL_law 915 = .ok (.iload 4, 2) := by decide +kernel
theorem dL_law_917 : decode cL_law 917 = .ok (.iconst 1, 1) := by decide +kernel
theorem dL_law_918 : decode cL_law 918 = .ok (.iadd, 1) := by decide +kernel
theorem dL_law_919 : decode cL_law 919 = .ok (.iaload, 1) := by decide +kernel
theorem dL_law_920 : decode cL_law 920 = .ok (.invokevirtual 101, 3) := by decide +kernel
theorem dL_law_923 : decode cL_law 923 = .ok (.if_icmp .eq 720, 3) := by decide +kernel
theorem dL_law_926 : decode cL_law 926 = .ok (.iconst 0, 1) := by decide +kernel
theorem dL_law_927 : decode cL_law 927 = .ok (.ireturn, 1) := by decide +kernel
theorem dL_law_928 : decode cL_law 928 = .ok (.aload_n 1, 1) := by decide +kernel
theorem dL_law_929 : decode cL_law 929 = .ok (.aload_n 0, 1) := by decide +kernel
theorem dL_law_930 : decode cL_law 930 = .ok (.iload 4, 2) := by decide +kernel
theorem dL_law_932 : decode cL_law 932 = .ok (.iconst 1, 1) := by decide +kernel
theorem dL_law_933 : decode cL_law 933 = .ok (.iadd, 1) := by decide +kernel
theorem dL_law_934 : decode cL_law 934 = .ok (.iaload, 1) := by decide +kernel
theorem dL_law_935 : decode cL_law 935 = .ok (.invokevirtual 102, 3) := by decide +kernel
theorem dL_law_938 : decode cL_law 938 = .ok (.aload_n 2, 1) := by decide +kernel
theorem dL_law_939 : decode cL_law 939 = .ok (.aload_n 0, 1) := by decide +kernel
theorem dL_law_940 : decode cL_law 940 = .ok (.iload 4, 2) := by decide +kernel
theorem dL_law_942 : decode cL_law 942 = .ok (.iconst 1, 1) := by decide +kernel
theorem dL_law_943 : decode cL_law 943 = .ok (.iadd, 1) := by decide +kernel
theorem dL_law_944 : decode cL_law 944 = .ok (.iaload, 1) := by decide +kernel
theorem dL_law_945 : decode cL_law 945 = .ok (.invokevirtual 105, 3) := by decide +kernel
theorem dL_law_948 : decode cL_law 948 = .ok (.if_icmp .eq 695, 3) := by decide +kernel
theorem dL_law_951 : decode cL_law 951 = .ok (.iconst 0, 1) := by decide +kernel
theorem dL_law_952 : decode cL_law 952 = .ok (.ireturn, 1) := by decide +kernel
theorem dL_law_953 : decode cL_law 953 = .ok (.aload_n 1, 1) := by decide +kernel
theorem dL_law_954 : decode cL_law 954 = .ok (.aload_n 0, 1) := by decide +kernel
theorem dL_law_955 : decode cL_law 955 = .ok (.iload 4, 2) := by decide +kernel
theorem dL_law_957 : decode cL_law 957 = .ok (.iconst 1, 1) := by decide +kernel
theorem dL_law_958 : decode cL_law 958 = .ok (.iadd, 1) := by decide +kernel
theorem dL_law_959 : decode cL_law 959 = .ok (.iaload, 1) := by decide +kernel
theorem dL_law_960 : decode cL_law 960 = .ok (.aload_n 0, 1) := by decide +kernel
theorem dL_law_961 : decode cL_law 961 = .ok (.iload 4, 2) := by decide +kernel
theorem dL_law_963 : decode cL_law 963 = .ok (.iconst 2, 1) := by decide +kernel
theorem dL_law_964 : decode cL_law 964 = .ok (.iadd, 1) := by decide +kernel
theorem dL_law_965 : decode cL_law 965 = .ok (.iaload, 1) := by decide +kernel
theorem dL_law_966 : decode cL_law 966 = .ok (.aload_n 0, 1) := by decide +kernel
theorem dL_law_967 : decode cL_law 967 = .ok (.iload 4, 2) := by decide +kernel
theorem dL_law_969 : decode cL_law 969 = .ok (.iconst 3, 1) := by decide +kernel
theorem dL_law_970 : decode cL_law 970 = .ok (.iadd, 1) := by decide +kernel
theorem dL_law_971 : decode cL_law 971 = .ok (.iaload, 1) := by decide +kernel
theorem dL_law_972 : decode cL_law 972 = .ok (.aload_n 0, 1) := by decide +kernel
theorem dL_law_973 : decode cL_law 973 = .ok (.iload 4, 2) := by decide +kernel
theorem dL_law_975 : decode cL_law 975 = .ok (.iconst 4, 1) := by decide +kernel
theorem dL_law_976 : decode cL_law 976 = .ok (.iadd, 1) := by decide +kernel
theorem dL_law_977 : decode cL_law 977 = .ok (.iaload, 1) := by decide +kernel
theorem dL_law_978 : decode cL_law 978 = .ok (.invokevirtual 106, 3) := by decide +kernel
theorem dL_law_981 : decode cL_law 981 = .ok (.aload_n 2, 1) := by decide +kernel
theorem dL_law_982 : decode cL_law 982 = .ok (.aload_n 0, 1) := by decide +kernel
theorem dL_law_983 : decode cL_law 983 = .ok (.iload 4, 2) := by decide +kernel
theorem dL_law_985 : decode cL_law 985 = .ok (.iconst 1, 1) := by decide +kernel
theorem dL_law_986 : decode cL_law 986 = .ok (.iadd, 1) := by decide +kernel
theorem dL_law_987 : decode cL_law 987 = .ok (.iaload, 1) := by decide +kernel
theorem dL_law_988 : decode cL_law 988 = .ok (.aload_n 0, 1) := by decide +kernel
theorem dL_law_989 : decode cL_law 989 = .ok (.iload 4, 2) := by decide +kernel
theorem dL_law_991 : decode cL_law 991 = .ok (.iconst 2, 1) := by decide +kernel
theorem dL_law_992 : decode cL_law 992 = .ok (.iadd, 1) := by decide +kernel
theorem dL_law_993 : decode cL_law 993 = .ok (.iaload, 1) := by decide +kernel
theorem dL_law_994 : decode cL_law 994 = .ok (.aload_n 0, 1) := by decide +kernel
theorem dL_law_995 : decode cL_law 995 = .ok (.iload 4, 2) := by decide +kernel
theorem dL_law_997 : decode cL_law 997 = .ok (.iconst 3, 1) := by decide +kernel
theorem dL_law_998 : decode cL_law 998 = .ok (.iadd, 1) := by decide +kernel
theorem dL_law_999 : decode cL_law 999 = .ok (.iaload, 1) := by decide +kernel
theorem dL_law_1000 : decode cL_law 1000 = .ok (.aload_n 0, 1) := by decide +kernel
theorem dL_law_1001 : decode cL_law 1001 = .ok (.iload 4, 2) := by decide +kernel
theorem dL_law_1003 : decode cL_law 1003 = .ok (.iconst 4, 1) := by decide +kernel
theorem dL_law_1004 : decode cL_law 1004 = .ok (.iadd, 1) := by decide +kernel
theorem dL_law_1005 : decode cL_law 1005 = .ok (.iaload, 1) := by decide +kernel
theorem dL_law_1006 : decode cL_law 1006 = .ok (.invokevirtual 109, 3) := by decide +kernel
theorem dL_law_1009 : decode cL_law 1009 = .ok (.if_icmp .eq 634, 3) := by decide +kernel
theorem dL_law_1012 : decode cL_law 1012 = .ok (.iconst 0, 1) := by decide +kernel
theorem dL_law_1013 : decode cL_law 1013 = .ok (.ireturn, 1) := by decide +kernel
theorem dL_law_1014 : decode cL_law 1014 = .ok (.aload_n 1, 1) := by decide +kernel
theorem dL_law_1015 : decode cL_law 1015 = .ok (.aload_n 0, 1) := by decide +kernel
theorem dL_law_1016 : decode cL_law 1016 = .ok (.iload 4, 2) := by decide +kernel
theorem dL_law_1018 : decode cL_law 1018 = .ok (.iconst 1, 1) := by decide +kernel
theorem dL_law_1019 : decode cL_law 1019 = .ok (.iadd, 1) := by decide +kernel
theorem dL_law_1020 : decode cL_law 1020 = .ok (.iaload, 1) := by decide +kernel
theorem dL_law_1021 : decode cL_law 1021 = .ok (.aload_n 0, 1) := by decide +kernel
theorem dL_law_1022 : decode cL_law 1022 = .ok (.iload 4, 2) := by decide +kernel
theorem dL_law_1024 : decode cL_law 1024 = .ok (.iconst 2, 1) := by decide +kernel
theorem dL_law_1025 : decode cL_law 1025 = .ok (.iadd, 1) := by decide +kernel
theorem dL_law_1026 : decode cL_law 1026 = .ok (.iaload, 1) := by decide +kernel
theorem dL_law_1027 : decode cL_law 1027 = .ok (.invokevirtual 110, 3) := by decide +kernel
theorem dL_law_1030 : decode cL_law 1030 = .ok (.aload_n 2, 1) := by decide +kernel
theorem dL_law_1031 : decode cL_law 1031 = .ok (.aload_n 0, 1) := by decide +kernel
theorem dL_law_1032 : decode cL_law 1032 = .ok (.iload 4, 2) := by decide +kernel
theorem dL_law_1034 : decode cL_law 1034 = .ok (.iconst 1, 1) := by decide +kernel
theorem dL_law_1035 : decode cL_law 1035 = .ok (.iadd, 1) := by decide +kernel
theorem dL_law_1036 : decode cL_law 1036 = .ok (.iaload, 1) := by decide +kernel
theorem dL_law_1037 : decode cL_law 1037 = .ok (.aload_n 0, 1) := by decide +kernel
theorem dL_law_1038 : decode cL_law 1038 = .ok (.iload 4, 2) := by decide +kernel
theorem dL_law_1040 : decode cL_law 1040 = .ok (.iconst 2, 1) := by decide +kernel
theorem dL_law_1041 : decode cL_law 1041 = .ok (.iadd, 1) := by decide +kernel
theorem dL_law_1042 : decode cL_law 1042 = .ok (.iaload, 1) := by decide +kernel
theorem dL_law_1043 : decode cL_law 1043 = .ok (.invokevirtual 113, 3) := by decide +kernel
theorem dL_law_1046 : decode cL_law 1046 = .ok (.if_icmp .eq 597, 3) := by decide +kernel
theorem dL_law_1049 : decode cL_law 1049 = .ok (.iconst 0, 1) := by decide +kernel
theorem dL_law_1050 : decode cL_law 1050 = .ok (.ireturn, 1) := by decide +kernel
theorem dL_law_1051 : decode cL_law 1051 = .ok (.aload_n 1, 1) := by decide +kernel
theorem dL_law_1052 : decode cL_law 1052 = .ok (.aload_n 0, 1) := by decide +kernel
theorem dL_law_1053 : decode cL_law 1053 = .ok (.iload 4, 2) := by decide +kernel
theorem dL_law_1055 : decode cL_law 1055 = .ok (.iconst 1, 1) := by decide +kernel
theorem dL_law_1056 : decode cL_law 1056 = .ok (.iadd, 1) := by decide +kernel
theorem dL_law_1057 : decode cL_law 1057 = .ok (.iaload, 1) := by decide +kernel
theorem dL_law_1058 : decode cL_law 1058 = .ok (.aload_n 0, 1) := by decide +kernel
theorem dL_law_1059 : decode cL_law 1059 = .ok (.iload 4, 2) := by decide +kernel
theorem dL_law_1061 : decode cL_law 1061 = .ok (.iconst 2, 1) := by decide +kernel
theorem dL_law_1062 : decode cL_law 1062 = .ok (.iadd, 1) := by decide +kernel
theorem dL_law_1063 : decode cL_law 1063 = .ok (.iaload, 1) := by decide +kernel
theorem dL_law_1064 : decode cL_law 1064 = .ok (.aload_n 0, 1) := by decide +kernel
theorem dL_law_1065 : decode cL_law 1065 = .ok (.iload 4, 2) := by decide +kernel
theorem dL_law_1067 : decode cL_law 1067 = .ok (.iconst 3, 1) := by decide +kernel
theorem dL_law_1068 : decode cL_law 1068 = .ok (.iadd, 1) := by decide +kernel
theorem dL_law_1069 : decode cL_law 1069 = .ok (.iaload, 1) := by decide +kernel
theorem dL_law_1070 : decode cL_law 1070 = .ok (.aload_n 0, 1) := by decide +kernel
theorem dL_law_1071 : decode cL_law 1071 = .ok (.iload 4, 2) := by decide +kernel
theorem dL_law_1073 : decode cL_law 1073 = .ok (.iconst 4, 1) := by decide +kernel
theorem dL_law_1074 : decode cL_law 1074 = .ok (.iadd, 1) := by decide +kernel
theorem dL_law_1075 : decode cL_law 1075 = .ok (.iaload, 1) := by decide +kernel
theorem dL_law_1076 : decode cL_law 1076 = .ok (.aload_n 0, 1) := by decide +kernel
theorem dL_law_1077 : decode cL_law 1077 = .ok (.iload 4, 2) := by decide +kernel
theorem dL_law_1079 : decode cL_law 1079 = .ok (.iconst 5, 1) := by decide +kernel
theorem dL_law_1080 : decode cL_law 1080 = .ok (.iadd, 1) := by decide +kernel
theorem dL_law_1081 : decode cL_law 1081 = .ok (.iaload, 1) := by decide +kernel
theorem dL_law_1082 : decode cL_law 1082 = .ok (.aload_n 0, 1) := by decide +kernel
theorem dL_law_1083 : decode cL_law 1083 = .ok (.iload 4, 2) := by decide +kernel
theorem dL_law_1085 : decode cL_law 1085 = .ok (.bipush 6, 2) := by decide +kernel
theorem dL_law_1087 : decode cL_law 1087 = .ok (.iadd, 1) := by decide +kernel
theorem dL_law_1088 : decode cL_law 1088 = .ok (.iaload, 1) := by decide +kernel
theorem dL_law_1089 : decode cL_law 1089 = .ok (.invokevirtual 114, 3) := by decide +kernel
theorem dL_law_1092 : decode cL_law 1092 = .ok (.aload_n 2, 1) := by decide +kernel
theorem dL_law_1093 : decode cL_law 1093 = .ok (.aload_n 0, 1) := by decide +kernel
theorem dL_law_1094 : decode cL_law 1094 = .ok (.iload 4, 2) := by decide +kernel
theorem dL_law_1096 : decode cL_law 1096 = .ok (.iconst 1, 1) := by decide +kernel
theorem dL_law_1097 : decode cL_law 1097 = .ok (.iadd, 1) := by decide +kernel
theorem dL_law_1098 : decode cL_law 1098 = .ok (.iaload, 1) := by decide +kernel
theorem dL_law_1099 : decode cL_law 1099 = .ok (.aload_n 0, 1) := by decide +kernel
theorem dL_law_1100 : decode cL_law 1100 = .ok (.iload 4, 2) := by decide +kernel
theorem dL_law_1102 : decode cL_law 1102 = .ok (.iconst 2, 1) := by decide +kernel
theorem dL_law_1103 : decode cL_law 1103 = .ok (.iadd, 1) := by decide +kernel
theorem dL_law_1104 : decode cL_law 1104 = .ok (.iaload, 1) := by decide +kernel
theorem dL_law_1105 : decode cL_law 1105 = .ok (.aload_n 0, 1) := by decide +kernel
theorem dL_law_1106 : decode cL_law 1106 = .ok (.iload 4, 2) := by decide +kernel
theorem dL_law_1108 : decode cL_law 1108 = .ok (.iconst 3, 1) := by decide +kernel
theorem dL_law_1109 : decode cL_law 1109 = .ok (.iadd, 1) := by decide +kernel
theorem dL_law_1110 : decode cL_law 1110 = .ok (.iaload, 1) := by decide +kernel
theorem dL_law_1111 : decode cL_law 1111 = .ok (.aload_n 0, 1) := by decide +kernel
theorem dL_law_1112 : decode cL_law 1112 = .ok (.iload 4, 2) := by decide +kernel
theorem dL_law_1114 : decode cL_law 1114 = .ok (.iconst 4, 1) := by decide +kernel
theorem dL_law_1115 : decode cL_law 1115 = .ok (.iadd, 1) := by decide +kernel
theorem dL_law_1116 : decode cL_law 1116 = .ok (.iaload, 1) := by decide +kernel
theorem dL_law_1117 : decode cL_law 1117 = .ok (.aload_n 0, 1) := by decide +kernel
theorem dL_law_1118 : decode cL_law 1118 = .ok (.iload 4, 2) := by decide +kernel
theorem dL_law_1120 : decode cL_law 1120 = .ok (.iconst 5, 1) := by decide +kernel
theorem dL_law_1121 : decode cL_law 1121 = .ok (.iadd, 1) := by decide +kernel
theorem dL_law_1122 : decode cL_law 1122 = .ok (.iaload, 1) := by decide +kernel
theorem dL_law_1123 : decode cL_law 1123 = .ok (.aload_n 0, 1) := by decide +kernel
theorem dL_law_1124 : decode cL_law 1124 = .ok (.iload 4, 2) := by decide +kernel
theorem dL_law_1126 : decode cL_law 1126 = .ok (.bipush 6, 2) := by decide +kernel
theorem dL_law_1128 : decode cL_law 1128 = .ok (.iadd, 1) := by decide +kernel
theorem dL_law_1129 : decode cL_law 1129 = .ok (.iaload, 1) := by decide +kernel
theorem dL_law_1130 : decode cL_law 1130 = .ok (.invokevirtual 118, 3) := by decide +kernel
theorem dL_law_1133 : decode cL_law 1133 = .ok (.if_icmp .eq 510, 3) := by decide +kernel
theorem dL_law_1136 : decode cL_law 1136 = .ok (.iconst 0, 1) := by decide +kernel
theorem dL_law_1137 : decode cL_law 1137 = .ok (.ireturn, 1) := by decide +kernel
theorem dL_law_1138 : decode cL_law 1138 = .ok (.aload_n 1, 1) := by decide +kernel
theorem dL_law_1139 : decode cL_law 1139 = .ok (.aload_n 0, 1) := by decide +kernel
theorem dL_law_1140 : decode cL_law 1140 = .ok (.iload 4, 2) := by decide +kernel
theorem dL_law_1142 : decode cL_law 1142 = .ok (.iconst 1, 1) := by decide +kernel
theorem dL_law_1143 : decode cL_law 1143 = .ok (.iadd, 1) := by decide +kernel
theorem dL_law_1144 : decode cL_law 1144 = .ok (.iaload, 1) := by decide +kernel
theorem dL_law_1145 : decode cL_law 1145 = .ok (.aload_n 0, 1) := by decide +kernel
theorem dL_law_1146 : decode cL_law 1146 = .ok (.iload 4, 2) := by decide +kernel
theorem dL_law_1148 : decode cL_law 1148 = .ok (.iconst 2, 1) := by decide +kernel
theorem dL_law_1149 : decode cL_law 1149 = .ok (.iadd, 1) := by decide +kernel
theorem dL_law_1150 : decode cL_law 1150 = .ok (.iaload, 1) := by decide +kernel
theorem dL_law_1151 : decode cL_law 1151 = .ok (.invokevirtual 119, 3) := by decide +kernel
theorem dL_law_1154 : decode cL_law 1154 = .ok (.aload_n 2, 1) := by decide +kernel
theorem dL_law_1155 : decode cL_law 1155 = .ok (.aload_n 0, 1) := by decide +kernel
theorem dL_law_1156 : decode cL_law 1156 = .ok (.iload 4, 2) := by decide +kernel
theorem dL_law_1158 : decode cL_law 1158 = .ok (.iconst 1, 1) := by decide +kernel
theorem dL_law_1159 : decode cL_law 1159 = .ok (.iadd, 1) := by decide +kernel
theorem dL_law_1160 : decode cL_law 1160 = .ok (.iaload, 1) := by decide +kernel
theorem dL_law_1161 : decode cL_law 1161 = .ok (.aload_n 0, 1) := by decide +kernel
theorem dL_law_1162 : decode cL_law 1162 = .ok (.iload 4, 2) := by decide +kernel
theorem dL_law_1164 : decode cL_law 1164 = .ok (.iconst 2, 1) := by decide +kernel
theorem dL_law_1165 : decode cL_law 1165 = .ok (.iadd, 1) := by decide +kernel
theorem dL_law_1166 : decode cL_law 1166 = .ok (.iaload, 1) := by decide +kernel
theorem dL_law_1167 : decode cL_law 1167 = .ok (.invokevirtual 122, 3) := by decide +kernel
theorem dL_law_1170 : decode cL_law 1170 = .ok (.if_icmp .eq 473, 3) := by decide +kernel
theorem dL_law_1173 : decode cL_law 1173 = .ok (.iconst 0, 1) := by decide +kernel
theorem dL_law_1174 : decode cL_law 1174 = .ok (.ireturn, 1) := by decide +kernel
theorem dL_law_1175 : decode cL_law 1175 = .ok (.aload_n 1, 1) := by decide +kernel
theorem dL_law_1176 : decode cL_law 1176 = .ok (.aload_n 0, 1) := by decide +kernel
theorem dL_law_1177 : decode cL_law 1177 = .ok (.iload 4, 2) := by decide +kernel
theorem dL_law_1179 : decode cL_law 1179 = .ok (.iconst 1, 1) := by decide +kernel
theorem dL_law_1180 : decode cL_law 1180 = .ok (.iadd, 1) := by decide +kernel
theorem dL_law_1181 : decode cL_law 1181 = .ok (.iaload, 1) := by decide +kernel
theorem dL_law_1182 : decode cL_law 1182 = .ok (.aload_n 0, 1) := by decide +kernel
theorem dL_law_1183 : decode cL_law 1183 = .ok (.iload 4, 2) := by decide +kernel
theorem dL_law_1185 : decode cL_law 1185 = .ok (.iconst 2, 1) := by decide +kernel
theorem dL_law_1186 : decode cL_law 1186 = .ok (.iadd, 1) := by decide +kernel
theorem dL_law_1187 : decode cL_law 1187 = .ok (.iaload, 1) := by decide +kernel
theorem dL_law_1188 : decode cL_law 1188 = .ok (.aload_n 0, 1) := by decide +kernel
theorem dL_law_1189 : decode cL_law 1189 = .ok (.iload 4, 2) := by decide +kernel
theorem dL_law_1191 : decode cL_law 1191 = .ok (.iconst 3, 1) := by decide +kernel
theorem dL_law_1192 : decode cL_law 1192 = .ok (.iadd, 1) := by decide +kernel
theorem dL_law_1193 : decode cL_law 1193 = .ok (.iaload, 1) := by decide +kernel
theorem dL_law_1194 : decode cL_law 1194 = .ok (.invokevirtual 123, 3) := by decide +kernel
theorem dL_law_1197 : decode cL_law 1197 = .ok (.aload_n 2, 1) := by decide +kernel
theorem dL_law_1198 : decode cL_law 1198 = .ok (.aload_n 0, 1) := by decide +kernel
theorem dL_law_1199 : decode cL_law 1199 = .ok (.iload 4, 2) := by decide +kernel
theorem dL_law_1201 : decode cL_law 1201 = .ok (.iconst 1, 1) := by decide +kernel
theorem dL_law_1202 : decode cL_law 1202 = .ok (.iadd, 1) := by decide +kernel
theorem dL_law_1203 : decode cL_law 1203 = .ok (.iaload, 1) := by decide +kernel
theorem dL_law_1204 : decode cL_law 1204 = .ok (.aload_n 0, 1) := by decide +kernel
theorem dL_law_1205 : decode cL_law 1205 = .ok (.iload 4, 2) := by decide +kernel
theorem dL_law_1207 : decode cL_law 1207 = .ok (.iconst 2, 1) := by decide +kernel
theorem dL_law_1208 : decode cL_law 1208 = .ok (.iadd, 1) := by decide +kernel
theorem dL_law_1209 : decode cL_law 1209 = .ok (.iaload, 1) := by decide +kernel
theorem dL_law_1210 : decode cL_law 1210 = .ok (.aload_n 0, 1) := by decide +kernel
theorem dL_law_1211 : decode cL_law 1211 = .ok (.iload 4, 2) := by decide +kernel
theorem dL_law_1213 : decode cL_law 1213 = .ok (.iconst 3, 1) := by decide +kernel
theorem dL_law_1214 : decode cL_law 1214 = .ok (.iadd, 1) := by decide +kernel
theorem dL_law_1215 : decode cL_law 1215 = .ok (.iaload, 1) := by decide +kernel
theorem dL_law_1216 : decode cL_law 1216 = .ok (.invokevirtual 127, 3) := by decide +kernel
theorem dL_law_1219 : decode cL_law 1219 = .ok (.lcmp, 1) := by decide +kernel
theorem dL_law_1220 : decode cL_law 1220 = .ok (.ifCond .eq 423, 3) := by decide +kernel
theorem dL_law_1223 : decode cL_law 1223 = .ok (.iconst 0, 1) := by decide +kernel
theorem dL_law_1224 : decode cL_law 1224 = .ok (.ireturn, 1) := by decide +kernel
theorem dL_law_1225 : decode cL_law 1225 = .ok (.aload_n 1, 1) := by decide +kernel
theorem dL_law_1226 : decode cL_law 1226 = .ok (.aload_n 0, 1) := by decide +kernel
theorem dL_law_1227 : decode cL_law 1227 = .ok (.iload 4, 2) := by decide +kernel
theorem dL_law_1229 : decode cL_law 1229 = .ok (.iconst 1, 1) := by decide +kernel
theorem dL_law_1230 : decode cL_law 1230 = .ok (.iadd, 1) := by decide +kernel
theorem dL_law_1231 : decode cL_law 1231 = .ok (.iaload, 1) := by decide +kernel
theorem dL_law_1232 : decode cL_law 1232 = .ok (.aload_n 0, 1) := by decide +kernel
theorem dL_law_1233 : decode cL_law 1233 = .ok (.iload 4, 2) := by decide +kernel
theorem dL_law_1235 : decode cL_law 1235 = .ok (.iconst 2, 1) := by decide +kernel
theorem dL_law_1236 : decode cL_law 1236 = .ok (.iadd, 1) := by decide +kernel
theorem dL_law_1237 : decode cL_law 1237 = .ok (.iaload, 1) := by decide +kernel
theorem dL_law_1238 : decode cL_law 1238 = .ok (.invokevirtual 128, 3) := by decide +kernel
theorem dL_law_1241 : decode cL_law 1241 = .ok (.aload_n 2, 1) := by decide +kernel
theorem dL_law_1242 : decode cL_law 1242 = .ok (.aload_n 0, 1) := by decide +kernel
theorem dL_law_1243 : decode cL_law 1243 = .ok (.iload 4, 2) := by decide +kernel
theorem dL_law_1245 : decode cL_law 1245 = .ok (.iconst 1, 1) := by decide +kernel
theorem dL_law_1246 : decode cL_law 1246 = .ok (.iadd, 1) := by decide +kernel
theorem dL_law_1247 : decode cL_law 1247 = .ok (.iaload, 1) := by decide +kernel
theorem dL_law_1248 : decode cL_law 1248 = .ok (.aload_n 0, 1) := by decide +kernel
theorem dL_law_1249 : decode cL_law 1249 = .ok (.iload 4, 2) := by decide +kernel
theorem dL_law_1251 : decode cL_law 1251 = .ok (.iconst 2, 1) := by decide +kernel
theorem dL_law_1252 : decode cL_law 1252 = .ok (.iadd, 1) := by decide +kernel
theorem dL_law_1253 : decode cL_law 1253 = .ok (.iaload, 1) := by decide +kernel
theorem dL_law_1254 : decode cL_law 1254 = .ok (.invokevirtual 131, 3) := by decide +kernel
theorem dL_law_1257 : decode cL_law 1257 = .ok (.if_icmp .eq 386, 3) := by decide +kernel
theorem dL_law_1260 : decode cL_law 1260 = .ok (.iconst 0, 1) := by decide +kernel
theorem dL_law_1261 : decode cL_law 1261 = .ok (.ireturn, 1) := by decide +kernel
theorem dL_law_1262 : decode cL_law 1262 = .ok (.aload_n 1, 1) := by decide +kernel
theorem dL_law_1263 : decode cL_law 1263 = .ok (.aload_n 0, 1) := by decide +kernel
theorem dL_law_1264 : decode cL_law 1264 = .ok (.iload 4, 2) := by decide +kernel
theorem dL_law_1266 : decode cL_law 1266 = .ok (.iconst 1, 1) := by decide +kernel
theorem dL_law_1267 : decode cL_law 1267 = .ok (.iadd, 1) := by decide +kernel
theorem dL_law_1268 : decode cL_law 1268 = .ok (.iaload, 1) := by decide +kernel
theorem dL_law_1269 : decode cL_law 1269 = .ok (.aload_n 0, 1) := by decide +kernel
theorem dL_law_1270 : decode cL_law 1270 = .ok (.iload 4, 2) := by decide +kernel
theorem dL_law_1272 : decode cL_law 1272 = .ok (.iconst 2, 1) := by decide +kernel
theorem dL_law_1273 : decode cL_law 1273 = .ok (.iadd, 1) := by decide +kernel
theorem dL_law_1274 : decode cL_law 1274 = .ok (.iaload, 1) := by decide +kernel
theorem dL_law_1275 : decode cL_law 1275 = .ok (.invokevirtual 132, 3) := by decide +kernel
theorem dL_law_1278 : decode cL_law 1278 = .ok (.aload_n 2, 1) := by decide +kernel
theorem dL_law_1279 : decode cL_law 1279 = .ok (.aload_n 0, 1) := by decide +kernel
theorem dL_law_1280 : decode cL_law 1280 = .ok (.iload 4, 2) := by decide +kernel
theorem dL_law_1282 : decode cL_law 1282 = .ok (.iconst 1, 1) := by decide +kernel
theorem dL_law_1283 : decode cL_law 1283 = .ok (.iadd, 1) := by decide +kernel
theorem dL_law_1284 : decode cL_law 1284 = .ok (.iaload, 1) := by decide +kernel
theorem dL_law_1285 : decode cL_law 1285 = .ok (.aload_n 0, 1) := by decide +kernel
theorem dL_law_1286 : decode cL_law 1286 = .ok (.iload 4, 2) := by decide +kernel
theorem dL_law_1288 : decode cL_law 1288 = .ok (.iconst 2, 1) := by decide +kernel
theorem dL_law_1289 : decode cL_law 1289 = .ok (.iadd, 1) := by decide +kernel
theorem dL_law_1290 : decode cL_law 1290 = .ok (.iaload, 1) := by decide +kernel
theorem dL_law_1291 : decode cL_law 1291 = .ok (.invokevirtual 135, 3) := by decide +kernel
theorem dL_law_1294 : decode cL_law 1294 = .ok (.if_icmp .eq 349, 3) := by decide +kernel
theorem dL_law_1297 : decode cL_law 1297 = .ok (.iconst 0, 1) := by decide +kernel
theorem dL_law_1298 : decode cL_law 1298 = .ok (.ireturn, 1) := by decide +kernel
theorem dL_law_1299 : decode cL_law 1299 = .ok (.aload_n 1, 1) := by decide +kernel
theorem dL_law_1300 : decode cL_law 1300 = .ok (.aload_n 0, 1) := by decide +kernel
theorem dL_law_1301 : decode cL_law 1301 = .ok (.iload 4, 2) := by decide +kernel
theorem dL_law_1303 : decode cL_law 1303 = .ok (.iconst 1, 1) := by decide +kernel
theorem dL_law_1304 : decode cL_law 1304 = .ok (.iadd, 1) := by decide +kernel
theorem dL_law_1305 : decode cL_law 1305 = .ok (.iaload, 1) := by decide +kernel
theorem dL_law_1306 : decode cL_law 1306 = .ok (.aload_n 0, 1) := by decide +kernel
theorem dL_law_1307 : decode cL_law 1307 = .ok (.iload 4, 2) := by decide +kernel
theorem dL_law_1309 : decode cL_law 1309 = .ok (.iconst 2, 1) := by decide +kernel
theorem dL_law_1310 : decode cL_law 1310 = .ok (.iadd, 1) := by decide +kernel
theorem dL_law_1311 : decode cL_law 1311 = .ok (.iaload, 1) := by decide +kernel
theorem dL_law_1312 : decode cL_law 1312 = .ok (.aload_n 0, 1) := by decide +kernel
theorem dL_law_1313 : decode cL_law 1313 = .ok (.iload 4, 2) := by decide +kernel
theorem dL_law_1315 : decode cL_law 1315 = .ok (.iconst 3, 1) := by decide +kernel
theorem dL_law_1316 : decode cL_law 1316 = .ok (.iadd, 1) := by decide +kernel
theorem dL_law_1317 : decode cL_law 1317 = .ok (.iaload, 1) := by decide +kernel
theorem dL_law_1318 : decode cL_law 1318 = .ok (.aload_n 0, 1) := by decide +kernel
theorem dL_law_1319 : decode cL_law 1319 = .ok (.iload 4, 2) := by decide +kernel
theorem dL_law_1321 : decode cL_law 1321 = .ok (.iconst 4, 1) := by decide +kernel
theorem dL_law_1322 : decode cL_law 1322 = .ok (.iadd, 1) := by decide +kernel
theorem dL_law_1323 : decode cL_law 1323 = .ok (.iaload, 1) := by decide +kernel
theorem dL_law_1324 : decode cL_law 1324 = .ok (.invokevirtual 136, 3) := by decide +kernel
theorem dL_law_1327 : decode cL_law 1327 = .ok (.aload_n 2, 1) := by decide +kernel
theorem dL_law_1328 : decode cL_law 1328 = .ok (.aload_n 0, 1) := by decide +kernel
theorem dL_law_1329 : decode cL_law 1329 = .ok (.iload 4, 2) := by decide +kernel
theorem dL_law_1331 : decode cL_law 1331 = .ok (.iconst 1, 1) := by decide +kernel
theorem dL_law_1332 : decode cL_law 1332 = .ok (.iadd, 1) := by decide +kernel
theorem dL_law_1333 : decode cL_law 1333 = .ok (.iaload, 1) := by decide +kernel
theorem dL_law_1334 : decode cL_law 1334 = .ok (.aload_n 0, 1) := by decide +kernel
theorem dL_law_1335 : decode cL_law 1335 = .ok (.iload 4, 2) := by decide +kernel
theorem dL_law_1337 : decode cL_law 1337 = .ok (.iconst 2, 1) := by decide +kernel
theorem dL_law_1338 : decode cL_law 1338 = .ok (.iadd, 1) := by decide +kernel
theorem dL_law_1339 : decode cL_law 1339 = .ok (.iaload, 1) := by decide +kernel
theorem dL_law_1340 : decode cL_law 1340 = .ok (.aload_n 0, 1) := by decide +kernel
theorem dL_law_1341 : decode cL_law 1341 = .ok (.iload 4, 2) := by decide +kernel
theorem dL_law_1343 : decode cL_law 1343 = .ok (.iconst 3, 1) := by decide +kernel
theorem dL_law_1344 : decode cL_law 1344 = .ok (.iadd, 1) := by decide +kernel
theorem dL_law_1345 : decode cL_law 1345 = .ok (.iaload, 1) := by decide +kernel
theorem dL_law_1346 : decode cL_law 1346 = .ok (.aload_n 0, 1) := by decide +kernel
theorem dL_law_1347 : decode cL_law 1347 = .ok (.iload 4, 2) := by decide +kernel
theorem dL_law_1349 : decode cL_law 1349 = .ok (.iconst 4, 1) := by decide +kernel
theorem dL_law_1350 : decode cL_law 1350 = .ok (.iadd, 1) := by decide +kernel
theorem dL_law_1351 : decode cL_law 1351 = .ok (.iaload, 1) := by decide +kernel
theorem dL_law_1352 : decode cL_law 1352 = .ok (.invokevirtual 139, 3) := by decide +kernel
theorem dL_law_1355 : decode cL_law 1355 = .ok (.if_icmp .eq 288, 3) := by decide +kernel
theorem dL_law_1358 : decode cL_law 1358 = .ok (.iconst 0, 1) := by decide +kernel
theorem dL_law_1359 : decode cL_law 1359 = .ok (.ireturn, 1) := by decide +kernel
theorem dL_law_1360 : decode cL_law 1360 = .ok (.aload_n 1, 1) := by decide +kernel
theorem dL_law_1361 : decode cL_law 1361 = .ok (.aload_n 0, 1) := by decide +kernel
theorem dL_law_1362 : decode cL_law 1362 = .ok (.iload 4, 2) := by decide +kernel
theorem dL_law_1364 : decode cL_law 1364 = .ok (.iconst 1, 1) := by decide +kernel
theorem dL_law_1365 : decode cL_law 1365 = .ok (.iadd, 1) := by decide +kernel
theorem dL_law_1366 : decode cL_law 1366 = .ok (.iaload, 1) := by decide +kernel
theorem dL_law_1367 : decode cL_law 1367 = .ok (.aload_n 0, 1) := by decide +kernel
theorem dL_law_1368 : decode cL_law 1368 = .ok (.iload 4, 2) := by decide +kernel
theorem dL_law_1370 : decode cL_law 1370 = .ok (.iconst 2, 1) := by decide +kernel
theorem dL_law_1371 : decode cL_law 1371 = .ok (.iadd, 1) := by decide +kernel
theorem dL_law_1372 : decode cL_law 1372 = .ok (.iaload, 1) := by decide +kernel
theorem dL_law_1373 : decode cL_law 1373 = .ok (.aload_n 0, 1) := by decide +kernel
theorem dL_law_1374 : decode cL_law 1374 = .ok (.iload 4, 2) := by decide +kernel
theorem dL_law_1376 : decode cL_law 1376 = .ok (.iconst 3, 1) := by decide +kernel
theorem dL_law_1377 : decode cL_law 1377 = .ok (.iadd, 1) := by decide +kernel
theorem dL_law_1378 : decode cL_law 1378 = .ok (.iaload, 1) := by decide +kernel
theorem dL_law_1379 : decode cL_law 1379 = .ok (.invokevirtual 140, 3) := by decide +kernel
theorem dL_law_1382 : decode cL_law 1382 = .ok (.aload_n 2, 1) := by decide +kernel
theorem dL_law_1383 : decode cL_law 1383 = .ok (.aload_n 0, 1) := by decide +kernel
theorem dL_law_1384 : decode cL_law 1384 = .ok (.iload 4, 2) := by decide +kernel
theorem dL_law_1386 : decode cL_law 1386 = .ok (.iconst 1, 1) := by decide +kernel
theorem dL_law_1387 : decode cL_law 1387 = .ok (.iadd, 1) := by decide +kernel
theorem dL_law_1388 : decode cL_law 1388 = .ok (.iaload, 1) := by decide +kernel
theorem dL_law_1389 : decode cL_law 1389 = .ok (.aload_n 0, 1) := by decide +kernel
theorem dL_law_1390 : decode cL_law 1390 = .ok (.iload 4, 2) := by decide +kernel
theorem dL_law_1392 : decode cL_law 1392 = .ok (.iconst 2, 1) := by decide +kernel
theorem dL_law_1393 : decode cL_law 1393 = .ok (.iadd, 1) := by decide +kernel
theorem dL_law_1394 : decode cL_law 1394 = .ok (.iaload, 1) := by decide +kernel
theorem dL_law_1395 : decode cL_law 1395 = .ok (.aload_n 0, 1) := by decide +kernel
theorem dL_law_1396 : decode cL_law 1396 = .ok (.iload 4, 2) := by decide +kernel
theorem dL_law_1398 : decode cL_law 1398 = .ok (.iconst 3, 1) := by decide +kernel
theorem dL_law_1399 : decode cL_law 1399 = .ok (.iadd, 1) := by decide +kernel
theorem dL_law_1400 : decode cL_law 1400 = .ok (.iaload, 1) := by decide +kernel
theorem dL_law_1401 : decode cL_law 1401 = .ok (.invokevirtual 143, 3) := by decide +kernel
theorem dL_law_1404 : decode cL_law 1404 = .ok (.if_icmp .eq 239, 3) := by decide +kernel
theorem dL_law_1407 : decode cL_law 1407 = .ok (.iconst 0, 1) := by decide +kernel
theorem dL_law_1408 : decode cL_law 1408 = .ok (.ireturn, 1) := by decide +kernel
theorem dL_law_1409 : decode cL_law 1409 = .ok (.aload_n 1, 1) := by decide +kernel
theorem dL_law_1410 : decode cL_law 1410 = .ok (.aload_n 0, 1) := by decide +kernel
theorem dL_law_1411 : decode cL_law 1411 = .ok (.iload 4, 2) := by decide +kernel
theorem dL_law_1413 : decode cL_law 1413 = .ok (.iconst 1, 1) := by decide +kernel
theorem dL_law_1414 : decode cL_law 1414 = .ok (.iadd, 1) := by decide +kernel
theorem dL_law_1415 : decode cL_law 1415 = .ok (.iaload, 1) := by decide +kernel
theorem dL_law_1416 : decode cL_law 1416 = .ok (.aload_n 0, 1) := by decide +kernel
theorem dL_law_1417 : decode cL_law 1417 = .ok (.iload 4, 2) := by decide +kernel
theorem dL_law_1419 : decode cL_law 1419 = .ok (.iconst 2, 1) := by decide +kernel
theorem dL_law_1420 : decode cL_law 1420 = .ok (.iadd, 1) := by decide +kernel
theorem dL_law_1421 : decode cL_law 1421 = .ok (.iaload, 1) := by decide +kernel
theorem dL_law_1422 : decode cL_law 1422 = .ok (.aload_n 0, 1) := by decide +kernel
theorem dL_law_1423 : decode cL_law 1423 = .ok (.iload 4, 2) := by decide +kernel
theorem dL_law_1425 : decode cL_law 1425 = .ok (.iconst 3, 1) := by decide +kernel
theorem dL_law_1426 : decode cL_law 1426 = .ok (.iadd, 1) := by decide +kernel
theorem dL_law_1427 : decode cL_law 1427 = .ok (.iaload, 1) := by decide +kernel
theorem dL_law_1428 : decode cL_law 1428 = .ok (.invokevirtual 144, 3) := by decide +kernel
theorem dL_law_1431 : decode cL_law 1431 = .ok (.aload_n 2, 1) := by decide +kernel
theorem dL_law_1432 : decode cL_law 1432 = .ok (.aload_n 0, 1) := by decide +kernel
theorem dL_law_1433 : decode cL_law 1433 = .ok (.iload 4, 2) := by decide +kernel
theorem dL_law_1435 : decode cL_law 1435 = .ok (.iconst 1, 1) := by decide +kernel
theorem dL_law_1436 : decode cL_law 1436 = .ok (.iadd, 1) := by decide +kernel
theorem dL_law_1437 : decode cL_law 1437 = .ok (.iaload, 1) := by decide +kernel
theorem dL_law_1438 : decode cL_law 1438 = .ok (.aload_n 0, 1) := by decide +kernel
theorem dL_law_1439 : decode cL_law 1439 = .ok (.iload 4, 2) := by decide +kernel
theorem dL_law_1441 : decode cL_law 1441 = .ok (.iconst 2, 1) := by decide +kernel
theorem dL_law_1442 : decode cL_law 1442 = .ok (.iadd, 1) := by decide +kernel
theorem dL_law_1443 : decode cL_law 1443 = .ok (.iaload, 1) := by decide +kernel
theorem dL_law_1444 : decode cL_law 1444 = .ok (.aload_n 0, 1) := by decide +kernel
theorem dL_law_1445 : decode cL_law 1445 = .ok (.iload 4, 2) := by decide +kernel
theorem dL_law_1447 : decode cL_law 1447 = .ok (.iconst 3, 1) := by decide +kernel
theorem dL_law_1448 : decode cL_law 1448 = .ok (.iadd, 1) := by decide +kernel
theorem dL_law_1449 : decode cL_law 1449 = .ok (.iaload, 1) := by decide +kernel
theorem dL_law_1450 : decode cL_law 1450 = .ok (.invokevirtual 147, 3) := by decide +kernel
theorem dL_law_1453 : decode cL_law 1453 = .ok (.if_icmp .eq 190, 3) := by decide +kernel
theorem dL_law_1456 : decode cL_law 1456 = .ok (.iconst 0, 1) := by decide +kernel
theorem dL_law_1457 : decode cL_law 1457 = .ok (.ireturn, 1) := by decide +kernel
theorem dL_law_1458 : decode cL_law 1458 = .ok (.aload_n 1, 1) := by decide +kernel
theorem dL_law_1459 : decode cL_law 1459 = .ok (.aload_n 0, 1) := by decide +kernel
theorem dL_law_1460 : decode cL_law 1460 = .ok (.iload 4, 2) := by decide +kernel
theorem dL_law_1462 : decode cL_law 1462 = .ok (.iconst 1, 1) := by decide +kernel
theorem dL_law_1463 : decode cL_law 1463 = .ok (.iadd, 1) := by decide +kernel
theorem dL_law_1464 : decode cL_law 1464 = .ok (.iaload, 1) := by decide +kernel
theorem dL_law_1465 : decode cL_law 1465 = .ok (.aload_n 0, 1) := by decide +kernel
theorem dL_law_1466 : decode cL_law 1466 = .ok (.iload 4, 2) := by decide +kernel
theorem dL_law_1468 : decode cL_law 1468 = .ok (.iconst 2, 1) := by decide +kernel
theorem dL_law_1469 : decode cL_law 1469 = .ok (.iadd, 1) := by decide +kernel
theorem dL_law_1470 : decode cL_law 1470 = .ok (.iaload, 1) := by decide +kernel
theorem dL_law_1471 : decode cL_law 1471 = .ok (.invokevirtual 148, 3) := by decide +kernel
theorem dL_law_1474 : decode cL_law 1474 = .ok (.aload_n 2, 1) := by decide +kernel
theorem dL_law_1475 : decode cL_law 1475 = .ok (.aload_n 0, 1) := by decide +kernel
theorem dL_law_1476 : decode cL_law 1476 = .ok (.iload 4, 2) := by decide +kernel
theorem dL_law_1478 : decode cL_law 1478 = .ok (.iconst 1, 1) := by decide +kernel
theorem dL_law_1479 : decode cL_law 1479 = .ok (.iadd, 1) := by decide +kernel
theorem dL_law_1480 : decode cL_law 1480 = .ok (.iaload, 1) := by decide +kernel
theorem dL_law_1481 : decode cL_law 1481 = .ok (.aload_n 0, 1) := by decide +kernel
theorem dL_law_1482 : decode cL_law 1482 = .ok (.iload 4, 2) := by decide +kernel
theorem dL_law_1484 : decode cL_law 1484 = .ok (.iconst 2, 1) := by decide +kernel
theorem dL_law_1485 : decode cL_law 1485 = .ok (.iadd, 1) := by decide +kernel
theorem dL_law_1486 : decode cL_law 1486 = .ok (.iaload, 1) := by decide +kernel
theorem dL_law_1487 : decode cL_law 1487 = .ok (.invokevirtual 151, 3) := by decide +kernel
theorem dL_law_1490 : decode cL_law 1490 = .ok (.if_icmp .eq 153, 3) := by decide +kernel
theorem dL_law_1493 : decode cL_law 1493 = .ok (.iconst 0, 1) := by decide +kernel
theorem dL_law_1494 : decode cL_law 1494 = .ok (.ireturn, 1) := by decide +kernel
theorem dL_law_1495 : decode cL_law 1495 = .ok (.aload_n 1, 1) := by decide +kernel
theorem dL_law_1496 : decode cL_law 1496 = .ok (.aload_n 0, 1) := by decide +kernel
theorem dL_law_1497 : decode cL_law 1497 = .ok (.iload 4, 2) := by decide +kernel
theorem dL_law_1499 : decode cL_law 1499 = .ok (.iconst 1, 1) := by decide +kernel
theorem dL_law_1500 : decode cL_law 1500 = .ok (.iadd, 1) := by decide +kernel
theorem dL_law_1501 : decode cL_law 1501 = .ok (.iaload, 1) := by decide +kernel
theorem dL_law_1502 : decode cL_law 1502 = .ok (.aload_n 0, 1) := by decide +kernel
theorem dL_law_1503 : decode cL_law 1503 = .ok (.iload 4, 2) := by decide +kernel
theorem dL_law_1505 : decode cL_law 1505 = .ok (.iconst 2, 1) := by decide +kernel
theorem dL_law_1506 : decode cL_law 1506 = .ok (.iadd, 1) := by decide +kernel
theorem dL_law_1507 : decode cL_law 1507 = .ok (.iaload, 1) := by decide +kernel
theorem dL_law_1508 : decode cL_law 1508 = .ok (.invokevirtual 152, 3) := by decide +kernel
theorem dL_law_1511 : decode cL_law 1511 = .ok (.aload_n 2, 1) := by decide +kernel
theorem dL_law_1512 : decode cL_law 1512 = .ok (.aload_n 0, 1) := by decide +kernel
theorem dL_law_1513 : decode cL_law 1513 = .ok (.iload 4, 2) := by decide +kernel
theorem dL_law_1515 : decode cL_law 1515 = .ok (.iconst 1, 1) := by decide +kernel
theorem dL_law_1516 : decode cL_law 1516 = .ok (.iadd, 1) := by decide +kernel
theorem dL_law_1517 : decode cL_law 1517 = .ok (.iaload, 1) := by decide +kernel
theorem dL_law_1518 : decode cL_law 1518 = .ok (.aload_n 0, 1) := by decide +kernel
theorem dL_law_1519 : decode cL_law 1519 = .ok (.iload 4, 2) := by decide +kernel
theorem dL_law_1521 : decode cL_law 1521 = .ok (.iconst 2, 1) := by decide +kernel
theorem dL_law_1522 : decode cL_law 1522 = .ok (.iadd, 1) := by decide +kernel
theorem dL_law_1523 : decode cL_law 1523 = .ok (.iaload, 1) := by decide +kernel
theorem dL_law_1524 : decode cL_law 1524 = .ok (.invokevirtual 155, 3) := by decide +kernel
theorem dL_law_1527 : decode cL_law 1527 = .ok (.if_icmp .eq 116, 3) := by decide +kernel
theorem dL_law_1530 : decode cL_law 1530 = .ok (.iconst 0, 1) := by decide +kernel
theorem dL_law_1531 : decode cL_law 1531 = .ok (.ireturn, 1) := by decide +kernel
theorem dL_law_1532 : decode cL_law 1532 = .ok (.aload_n 1, 1) := by decide +kernel
theorem dL_law_1533 : decode cL_law 1533 = .ok (.aload_n 0, 1) := by decide +kernel
theorem dL_law_1534 : decode cL_law 1534 = .ok (.iload 4, 2) := by decide +kernel
theorem dL_law_1536 : decode cL_law 1536 = .ok (.iconst 1, 1) := by decide +kernel
theorem dL_law_1537 : decode cL_law 1537 = .ok (.iadd, 1) := by decide +kernel
theorem dL_law_1538 : decode cL_law 1538 = .ok (.iaload, 1) := by decide +kernel
theorem dL_law_1539 : decode cL_law 1539 = .ok (.aload_n 0, 1) := by decide +kernel
theorem dL_law_1540 : decode cL_law 1540 = .ok (.iload 4, 2) := by decide +kernel
theorem dL_law_1542 : decode cL_law 1542 = .ok (.iconst 2, 1) := by decide +kernel
theorem dL_law_1543 : decode cL_law 1543 = .ok (.iadd, 1) := by decide +kernel
theorem dL_law_1544 : decode cL_law 1544 = .ok (.iaload, 1) := by decide +kernel
theorem dL_law_1545 : decode cL_law 1545 = .ok (.aload_n 0, 1) := by decide +kernel
theorem dL_law_1546 : decode cL_law 1546 = .ok (.iload 4, 2) := by decide +kernel
theorem dL_law_1548 : decode cL_law 1548 = .ok (.iconst 3, 1) := by decide +kernel
theorem dL_law_1549 : decode cL_law 1549 = .ok (.iadd, 1) := by decide +kernel
theorem dL_law_1550 : decode cL_law 1550 = .ok (.iaload, 1) := by decide +kernel
theorem dL_law_1551 : decode cL_law 1551 = .ok (.aload_n 0, 1) := by decide +kernel
theorem dL_law_1552 : decode cL_law 1552 = .ok (.iload 4, 2) := by decide +kernel
theorem dL_law_1554 : decode cL_law 1554 = .ok (.iconst 4, 1) := by decide +kernel
theorem dL_law_1555 : decode cL_law 1555 = .ok (.iadd, 1) := by decide +kernel
theorem dL_law_1556 : decode cL_law 1556 = .ok (.iaload, 1) := by decide +kernel
theorem dL_law_1557 : decode cL_law 1557 = .ok (.aload_n 0, 1) := by decide +kernel
theorem dL_law_1558 : decode cL_law 1558 = .ok (.iload 4, 2) := by decide +kernel
theorem dL_law_1560 : decode cL_law 1560 = .ok (.iconst 5, 1) := by decide +kernel
theorem dL_law_1561 : decode cL_law 1561 = .ok (.iadd, 1) := by decide +kernel
theorem dL_law_1562 : decode cL_law 1562 = .ok (.iaload, 1) := by decide +kernel
theorem dL_law_1563 : decode cL_law 1563 = .ok (.invokevirtual 156, 3) := by decide +kernel
theorem dL_law_1566 : decode cL_law 1566 = .ok (.aload_n 2, 1) := by decide +kernel
theorem dL_law_1567 : decode cL_law 1567 = .ok (.aload_n 0, 1) := by decide +kernel
theorem dL_law_1568 : decode cL_law 1568 = .ok (.iload 4, 2) := by decide +kernel
theorem dL_law_1570 : decode cL_law 1570 = .ok (.iconst 1, 1) := by decide +kernel
theorem dL_law_1571 : decode cL_law 1571 = .ok (.iadd, 1) := by decide +kernel
theorem dL_law_1572 : decode cL_law 1572 = .ok (.iaload, 1) := by decide +kernel
theorem dL_law_1573 : decode cL_law 1573 = .ok (.aload_n 0, 1) := by decide +kernel
theorem dL_law_1574 : decode cL_law 1574 = .ok (.iload 4, 2) := by decide +kernel
theorem dL_law_1576 : decode cL_law 1576 = .ok (.iconst 2, 1) := by decide +kernel
theorem dL_law_1577 : decode cL_law 1577 = .ok (.iadd, 1) := by decide +kernel
theorem dL_law_1578 : decode cL_law 1578 = .ok (.iaload, 1) := by decide +kernel
theorem dL_law_1579 : decode cL_law 1579 = .ok (.aload_n 0, 1) := by decide +kernel
theorem dL_law_1580 : decode cL_law 1580 = .ok (.iload 4, 2) := by decide +kernel
theorem dL_law_1582 : decode cL_law 1582 = .ok (.iconst 3, 1) := by decide +kernel
theorem dL_law_1583 : decode cL_law 1583 = .ok (.iadd, 1) := by decide +kernel
theorem dL_law_1584 : decode cL_law 1584 = .ok (.iaload, 1) := by decide +kernel
theorem dL_law_1585 : decode cL_law 1585 = .ok (.aload_n 0, 1) := by decide +kernel
theorem dL_law_1586 : decode cL_law 1586 = .ok (.iload 4, 2) := by decide +kernel
theorem dL_law_1588 : decode cL_law 1588 = .ok (.iconst 4, 1) := by decide +kernel
theorem dL_law_1589 : decode cL_law 1589 = .ok (.iadd, 1) := by decide +kernel
theorem dL_law_1590 : decode cL_law 1590 = .ok (.iaload, 1) := by decide +kernel
theorem dL_law_1591 : decode cL_law 1591 = .ok (.aload_n 0, 1) := by decide +kernel
theorem dL_law_1592 : decode cL_law 1592 = .ok (.iload 4, 2) := by decide +kernel
theorem dL_law_1594 : decode cL_law 1594 = .ok (.iconst 5, 1) := by decide +kernel
theorem dL_law_1595 : decode cL_law 1595 = .ok (.iadd, 1) := by decide +kernel
theorem dL_law_1596 : decode cL_law 1596 = .ok (.iaload, 1) := by decide +kernel
theorem dL_law_1597 : decode cL_law 1597 = .ok (.invokevirtual 159, 3) := by decide +kernel
theorem dL_law_1600 : decode cL_law 1600 = .ok (.if_icmp .eq 43, 3) := by decide +kernel
theorem dL_law_1603 : decode cL_law 1603 = .ok (.iconst 0, 1) := by decide +kernel
theorem dL_law_1604 : decode cL_law 1604 = .ok (.ireturn, 1) := by decide +kernel
theorem dL_law_1605 : decode cL_law 1605 = .ok (.aload_n 1, 1) := by decide +kernel
theorem dL_law_1606 : decode cL_law 1606 = .ok (.invokevirtual 160, 3) := by decide +kernel
theorem dL_law_1609 : decode cL_law 1609 = .ok (.aload_n 2, 1) := by decide +kernel
theorem dL_law_1610 : decode cL_law 1610 = .ok (.invokevirtual 163, 3) := by decide +kernel
theorem dL_law_1613 : decode cL_law 1613 = .ok (.if_icmp .eq 30, 3) := by decide +kernel
theorem dL_law_1616 : decode cL_law 1616 = .ok (.iconst 0, 1) := by decide +kernel
theorem dL_law_1617 : decode cL_law 1617 = .ok (.ireturn, 1) := by decide +kernel
theorem dL_law_1618 : decode cL_law 1618 = .ok (.aload_n 1, 1) := by decide +kernel
theorem dL_law_1619 : decode cL_law 1619 = .ok (.aload_n 0, 1) := by decide +kernel
theorem dL_law_1620 : decode cL_law 1620 = .ok (.iload 4, 2) := by decide +kernel
theorem dL_law_1622 : decode cL_law 1622 = .ok (.iconst 1, 1) := by decide +kernel
theorem dL_law_1623 : decode cL_law 1623 = .ok (.iadd, 1) := by decide +kernel
theorem dL_law_1624 : decode cL_law 1624 = .ok (.iaload, 1) := by decide +kernel
theorem dL_law_1625 : decode cL_law 1625 = .ok (.invokevirtual 164, 3) := by decide +kernel
theorem dL_law_1628 : decode cL_law 1628 = .ok (.aload_n 2, 1) := by decide +kernel
theorem dL_law_1629 : decode cL_law 1629 = .ok (.aload_n 0, 1) := by decide +kernel
theorem dL_law_1630 : decode cL_law 1630 = .ok (.iload 4, 2) := by decide +kernel
theorem dL_law_1632 : decode cL_law 1632 = .ok (.iconst 1, 1) := by decide +kernel
theorem dL_law_1633 : decode cL_law 1633 = .ok (.iadd, 1) := by decide +kernel
theorem dL_law_1634 : decode cL_law 1634 = .ok (.iaload, 1) := by decide +kernel
theorem dL_law_1635 : decode cL_law 1635 = .ok (.invokevirtual 167, 3) := by decide +kernel
theorem dL_law_1638 : decode cL_law 1638 = .ok (.if_icmp .eq 5, 3) := by decide +kernel
theorem dL_law_1641 : decode cL_law 1641 = .ok (.iconst 0, 1) := by decide +kernel
theorem dL_law_1642 : decode cL_law 1642 = .ok (.ireturn, 1) := by decide +kernel
theorem dL_law_1643 : decode cL_law 1643 = .ok (.iinc 4 7, 3) := by decide +kernel
theorem dL_law_1646 : decode cL_law 1646 = .ok (.goto (-1623), 3) := by decide +kernel
theorem dL_law_1649 : decode cL_law 1649 = .ok (.iconst 1, 1) := by decide +kernel
theorem dL_law_1650 : decode cL_law 1650 = .ok (.ireturn, 1) := by decide +kernel
