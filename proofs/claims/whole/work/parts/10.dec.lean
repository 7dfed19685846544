/-! instructions, decoded -/
theorem dX0_has_0 : decode cX0_has 0 = .ok (.iload_n 1, 1) := by decide +kernel
theorem dX0_has_1 : decode cX0_has 1 = .ok (.ifCond .lt 21, 3) := by decide +kernel
theorem dX0_has_4 : decode cX0_has 4 = .ok (.iload_n 1, 1) := by decide +kernel
theorem dX0_has_5 : decode cX0_has 5 = .ok (.aload_n 0, 1) := by decide +kernel
theorem dX0_has_6 : decode cX0_has 6 = .ok (.getfield 18, 3) := by decide +kernel
theorem dX0_has_9 : decode cX0_has 9 = .ok (.if_icmp .ge 13, 3) := by decide +kernel
theorem dX0_has_12 : decode cX0_has 12 = .ok (.iload_n 1, 1) := by decide +kernel
theorem dX0_has_13 : decode cX0_has 13 = .ok (.bipush 36, 2) := by decide +kernel
theorem dX0_has_15 : decode cX0_has 15 = .ok (.if_icmp .ge 7, 3) := by decide +kernel
theorem dX0_has_18 : decode cX0_has 18 = .ok (.iconst 1, 1) := by decide +kernel
theorem dX0_has_19 : decode cX0_has 19 = .ok (.goto 4, 3) := by decide +kernel
theorem dX0_has_22 : decode cX0_has 22 = .ok (.iconst 0, 1) := by decide +kernel
theorem dX0_has_23 : decode cX0_has 23 = .ok (.ireturn, 1) := by decide +kernel
theorem dX0_kindOf_0 : decode cX0_kindOf 0 = .ok (.aload_n 0, 1) := by decide +kernel
theorem dX0_kindOf_1 : decode cX0_kindOf 1 = .ok (.iload_n 1, 1) := by decide +kernel
theorem dX0_kindOf_2 : decode cX0_kindOf 2 = .ok (.invokevirtual 41, 3) := by decide +kernel
theorem dX0_kindOf_5 : decode cX0_kindOf 5 = .ok (.ifCond .eq 12, 3) := by decide +kernel
theorem dX0_kindOf_8 : decode cX0_kindOf 8 = .ok (.aload_n 0, 1) := by decide +kernel
theorem dX0_kindOf_9 : decode cX0_kindOf 9 = .ok (.getfield 21, 3) := by decide +kernel
theorem dX0_kindOf_12 : decode cX0_kindOf 12 = .ok (.iload_n 1, 1) := by decide +kernel
theorem dX0_kindOf_13 : decode cX0_kindOf 13 = .ok (.iaload, 1) := by decide +kernel
theorem dX0_kindOf_14 : decode cX0_kindOf 14 = .ok (.goto 4, 3) := by decide +kernel
theorem dX0_kindOf_17 : decode cX0_kindOf 17 = .ok (.iconst 3, 1) := by decide +kernel
theorem dX0_kindOf_18 : decode cX0_kindOf 18 = .ok (.ireturn, 1) := by decide +kernel
theorem dX0_heightOf_0 : decode cX0_heightOf 0 = .ok (.iload_n 1, 1) := by decide +kernel
theorem dX0_heightOf_1 : decode cX0_heightOf 1 = .ok (.ifCond .lt 18, 3) := by decide +kernel
theorem dX0_heightOf_4 : decode cX0_heightOf 4 = .ok (.iload_n 1, 1) := by decide +kernel
theorem dX0_heightOf_5 : decode cX0_heightOf 5 = .ok (.bipush 36, 2) := by decide +kernel
theorem dX0_heightOf_7 : decode cX0_heightOf 7 = .ok (.if_icmp .ge 12, 3) := by decide +kernel
theorem dX0_heightOf_10 : decode cX0_heightOf 10 = .ok (.aload_n 0, 1) := by decide +kernel
theorem dX0_heightOf_11 : decode cX0_heightOf 11 = .ok (.getfield 25, 3) := by decide +kernel
theorem dX0_heightOf_14 : decode cX0_heightOf 14 = .ok (.iload_n 1, 1) := by decide +kernel
theorem dX0_heightOf_15 : decode cX0_heightOf 15 = .ok (.iaload, 1) := by decide +kernel
theorem dX0_heightOf_16 : decode cX0_heightOf 16 = .ok (.goto 4, 3) := by decide +kernel
theorem dX0_heightOf_19 : decode cX0_heightOf 19 = .ok (.iconst 0, 1) := by decide +kernel
theorem dX0_heightOf_20 : decode cX0_heightOf 20 = .ok (.ireturn, 1) := by decide +kernel
theorem dX0_beside_0 : decode cX0_beside 0 = .ok (.aload_n 0, 1) := by decide +kernel
theorem dX0_beside_1 : decode cX0_beside 1 = .ok (.iload_n 1, 1) := by decide +kernel
theorem dX0_beside_2 : decode cX0_beside 2 = .ok (.invokevirtual 41, 3) := by decide +kernel
theorem dX0_beside_5 : decode cX0_beside 5 = .ok (.ifCond .eq 12, 3) := by decide +kernel
theorem dX0_beside_8 : decode cX0_beside 8 = .ok (.iload_n 2, 1) := by decide +kernel
theorem dX0_beside_9 : decode cX0_beside 9 = .ok (.ifCond .lt 8, 3) := by decide +kernel
theorem dX0_beside_12 : decode cX0_beside 12 = .ok (.iload_n 2, 1) := by decide +kernel
theorem dX0_beside_13 : decode cX0_beside 13 = .ok (.iconst 4, 1) := by decide +kernel
theorem dX0_beside_14 : decode cX0_beside 14 = .ok (.if_icmp .lt 5, 3) := by decide +kernel
theorem dX0_beside_17 : decode cX0_beside 17 = .ok (.iconst (-1), 1) := by decide +kernel
theorem dX0_beside_18 : decode cX0_beside 18 = .ok (.ireturn, 1) := by decide +kernel
theorem dX0_beside_19 : decode cX0_beside 19 = .ok (.aload_n 0, 1) := by decide +kernel
theorem dX0_beside_20 : decode cX0_beside 20 = .ok (.getfield 28, 3) := by decide +kernel
theorem dX0_beside_23 : decode cX0_beside 23 = .ok (.iload_n 1, 1) := by decide +kernel
theorem dX0_beside_24 : decode cX0_beside 24 = .ok (.iconst 4, 1) := by decide +kernel
theorem dX0_beside_25 : decode cX0_beside 25 = .ok (.imul, 1) := by decide +kernel
theorem dX0_beside_26 : decode cX0_beside 26 = .ok (.iload_n 2, 1) := by decide +kernel
theorem dX0_beside_27 : decode cX0_beside 27 = .ok (.iadd, 1) := by decide +kernel
theorem dX0_beside_28 : decode cX0_beside 28 = .ok (.iaload, 1) := by decide +kernel
theorem dX0_beside_29 : decode cX0_beside 29 = .ok (.ireturn, 1) := by decide +kernel
theorem dX0_canRead_0 : decode cX0_canRead 0 = .ok (.iconst 0, 1) := by decide +kernel
theorem dX0_canRead_1 : decode cX0_canRead 1 = .ok (.istore_n 2, 1) := by decide +kernel
theorem dX0_canRead_2 : decode cX0_canRead 2 = .ok (.iconst 0, 1) := by decide +kernel
theorem dX0_canRead_3 : decode cX0_canRead 3 = .ok (.istore_n 3, 1) := by decide +kernel
theorem dX0_canRead_4 : decode cX0_canRead 4 = .ok (.iload_n 3, 1) := by decide +kernel
theorem dX0_canRead_5 : decode cX0_canRead 5 = .ok (.bipush 6, 2) := by decide +kernel
theorem dX0_canRead_7 : decode cX0_canRead 7 = .ok (.if_icmp .ge 70, 3) := by decide +kernel
theorem dX0_canRead_10 : decode cX0_canRead 10 = .ok (.aload_n 1, 1) := by decide +kernel
theorem dX0_canRead_11 : decode cX0_canRead 11 = .ok (.iload_n 3, 1) := by decide +kernel
theorem dX0_canRead_12 : decode cX0_canRead 12 = .ok (.ifCond .ne 8, 3) := by decide +kernel
theorem dX0_canRead_15 : decode cX0_canRead 15 = .ok (.bipush 6, 2) := by decide +kernel
theorem dX0_canRead_17 : decode cX0_canRead 17 = .ok (.goto 4, 3) := by decide +kernel
theorem dX0_canRead_20 : decode cX0_canRead 20 = .ok (.iload_n 2, 1) := by decide +kernel
theorem dX0_canRead_21 : decode cX0_canRead 21 = .ok (.invokestatic 45, 3) := by decide +kernel
theorem dX0_canRead_24 : decode cX0_canRead 24 = .ok (.istore 4, 2) := by decide +kernel
theorem dX0_canRead_26 : decode cX0_canRead 26 = .ok (.iload 4, 2) := by decide +kernel
theorem dX0_canRead_28 : decode cX0_canRead 28 = .ok (.ifCond .eq 13, 3) := by decide +kernel
theorem dX0_canRead_31 : decode cX0_canRead 31 = .ok (.iload_n 3, 1) := by decide +kernel
theorem dX0_canRead_32 : decode cX0_canRead 32 = .ok (.ifCond .le 11, 3) := by decide +kernel
theorem dX0_canRead_35 : decode cX0_canRead 35 = .ok (.iload 4, 2) := by decide +kernel
theorem dX0_canRead_37 : decode cX0_canRead 37 = .ok (.iload_n 2, 1) := by decide +kernel
theorem dX0_canRead_38 : decode cX0_canRead 38 = .ok (.if_icmp .ge 5, 3) := by decide +kernel
theorem dX0_canRead_41 : decode cX0_canRead 41 = .ok (.iconst 0, 1) := by decide +kernel
theorem dX0_canRead_42 : decode cX0_canRead 42 = .ok (.ireturn, 1) := by decide +kernel
theorem dX0_canRead_43 : decode cX0_canRead 43 = .ok (.iload 4, 2) := by decide +kernel
theorem dX0_canRead_45 : decode cX0_canRead 45 = .ok (.istore_n 2, 1) := by decide +kernel
theorem dX0_canRead_46 : decode cX0_canRead 46 = .ok (.aload_n 1, 1) := by decide +kernel
theorem dX0_canRead_47 : decode cX0_canRead 47 = .ok (.invokevirtual 49, 3) := by decide +kernel
theorem dX0_canRead_50 : decode cX0_canRead 50 = .ok (.ifCond .eq 5, 3) := by decide +kernel
theorem dX0_canRead_53 : decode cX0_canRead 53 = .ok (.iconst 1, 1) := by decide +kernel
theorem dX0_canRead_54 : decode cX0_canRead 54 = .ok (.ireturn, 1) := by decide +kernel
theorem dX0_canRead_55 : decode cX0_canRead 55 = .ok (.iload_n 3, 1) := by decide +kernel
theorem dX0_canRead_56 : decode cX0_canRead 56 = .ok (.iconst 5, 1) := by decide +kernel
theorem dX0_canRead_57 : decode cX0_canRead 57 = .ok (.if_icmp .eq 12, 3) := by decide +kernel
theorem dX0_canRead_60 : decode cX0_canRead 60 = .ok (.aload_n 1, 1) := by decide +kernel
theorem dX0_canRead_61 : decode cX0_canRead 61 = .ok (.bipush 47, 2) := by decide +kernel
theorem dX0_canRead_63 : decode cX0_canRead 63 = .ok (.invokevirtual 55, 3) := by decide +kernel
theorem dX0_canRead_66 : decode cX0_canRead 66 = .ok (.ifCond .ne 5, 3) := by decide +kernel
theorem dX0_canRead_69 : decode cX0_canRead 69 = .ok (.iconst 0, 1) := by decide +kernel
theorem dX0_canRead_70 : decode cX0_canRead 70 = .ok (.ireturn, 1) := by decide +kernel
theorem dX0_canRead_71 : decode cX0_canRead 71 = .ok (.iinc 3 1, 3) := by decide +kernel
theorem dX0_canRead_74 : decode cX0_canRead 74 = .ok (.goto (-70), 3) := by decide +kernel
theorem dX0_canRead_77 : decode cX0_canRead 77 = .ok (.iconst 0, 1) := by decide +kernel
theorem dX0_canRead_78 : decode cX0_canRead 78 = .ok (.ireturn, 1) := by decide +kernel
theorem dX0_fieldsAhead_0 : decode cX0_fieldsAhead 0 = .ok (.iconst 0, 1) := by decide +kernel
theorem dX0_fieldsAhead_1 : decode cX0_fieldsAhead 1 = .ok (.istore_n 2, 1) := by decide +kernel
theorem dX0_fieldsAhead_2 : decode cX0_fieldsAhead 2 = .ok (.iload_n 2, 1) := by decide +kernel
theorem dX0_fieldsAhead_3 : decode cX0_fieldsAhead 3 = .ok (.iload_n 1, 1) := by decide +kernel
theorem dX0_fieldsAhead_4 : decode cX0_fieldsAhead 4 = .ok (.if_icmp .ge 26, 3) := by decide +kernel
theorem dX0_fieldsAhead_7 : decode cX0_fieldsAhead 7 = .ok (.aload_n 0, 1) := by decide +kernel
theorem dX0_fieldsAhead_8 : decode cX0_fieldsAhead 8 = .ok (.invokevirtual 59, 3) := by decide +kernel
theorem dX0_fieldsAhead_11 : decode cX0_fieldsAhead 11 = .ok (.invokestatic 63, 3) := by decide +kernel
theorem dX0_fieldsAhead_14 : decode cX0_fieldsAhead 14 = .ok (.iconst (-1), 1) := by decide +kernel
theorem dX0_fieldsAhead_15 : decode cX0_fieldsAhead 15 = .ok (.if_icmp .ne 5, 3) := by decide +kernel
theorem dX0_fieldsAhead_18 : decode cX0_fieldsAhead 18 = .ok (.iload_n 2, 1) := by decide +kernel
theorem dX0_fieldsAhead_19 : decode cX0_fieldsAhead 19 = .ok (.ireturn, 1) := by decide +kernel
theorem dX0_fieldsAhead_20 : decode cX0_fieldsAhead 20 = .ok (.aload_n 0, 1) := by decide +kernel
theorem dX0_fieldsAhead_21 : decode cX0_fieldsAhead 21 = .ok (.invokevirtual 67, 3) := by decide +kernel
theorem dX0_fieldsAhead_24 : decode cX0_fieldsAhead 24 = .ok (.iinc 2 1, 3) := by decide +kernel
theorem dX0_fieldsAhead_27 : decode cX0_fieldsAhead 27 = .ok (.goto (-25), 3) := by decide +kernel
theorem dX0_fieldsAhead_30 : decode cX0_fieldsAhead 30 = .ok (.iload_n 1, 1) := by decide +kernel
theorem dX0_fieldsAhead_31 : decode cX0_fieldsAhead 31 = .ok (.ireturn, 1) := by decide +kernel
theorem dX0_kindTold_0 : decode cX0_kindTold 0 = .ok (.iload_n 0, 1) := by decide +kernel
theorem dX0_kindTold_1 : decode cX0_kindTold 1 = .ok (.lookupswitch 41 #[(35, 39), (42, 37), (126, 35)], 35) := by decide +kernel
theorem dX0_kindTold_36 : decode cX0_kindTold 36 = .ok (.iconst 1, 1) := by decide +kernel
theorem dX0_kindTold_37 : decode cX0_kindTold 37 = .ok (.ireturn, 1) := by decide +kernel
theorem dX0_kindTold_38 : decode cX0_kindTold 38 = .ok (.iconst 2, 1) := by decide +kernel
theorem dX0_kindTold_39 : decode cX0_kindTold 39 = .ok (.ireturn, 1) := by decide +kernel
theorem dX0_kindTold_40 : decode cX0_kindTold 40 = .ok (.iconst 3, 1) := by decide +kernel
theorem dX0_kindTold_41 : decode cX0_kindTold 41 = .ok (.ireturn, 1) := by decide +kernel
theorem dX0_kindTold_42 : decode cX0_kindTold 42 = .ok (.iload_n 0, 1) := by decide +kernel
theorem dX0_kindTold_43 : decode cX0_kindTold 43 = .ok (.bipush 48, 2) := by decide +kernel
theorem dX0_kindTold_45 : decode cX0_kindTold 45 = .ok (.if_icmp .lt 13, 3) := by decide +kernel
theorem dX0_kindTold_48 : decode cX0_kindTold 48 = .ok (.iload_n 0, 1) := by decide +kernel
theorem dX0_kindTold_49 : decode cX0_kindTold 49 = .ok (.bipush 57, 2) := by decide +kernel
theorem dX0_kindTold_51 : decode cX0_kindTold 51 = .ok (.if_icmp .gt 7, 3) := by decide +kernel
theorem dX0_kindTold_54 : decode cX0_kindTold 54 = .ok (.iconst 0, 1) := by decide +kernel
theorem dX0_kindTold_55 : decode cX0_kindTold 55 = .ok (.goto 4, 3) := by decide +kernel
theorem dX0_kindTold_58 : decode cX0_kindTold 58 = .ok (.iconst (-1), 1) := by decide +kernel
theorem dX0_kindTold_59 : decode cX0_kindTold 59 = .ok (.ireturn, 1) := by decide +kernel
theorem dX0_take_0 : decode cX0_take 0 = .ok (.aload_n 0, 1) := by decide +kernel
theorem dX0_take_1 : decode cX0_take 1 = .ok (.iconst 0, 1) := by decide +kernel
theorem dX0_take_2 : decode cX0_take 2 = .ok (.putfield 18, 3) := by decide +kernel
theorem dX0_take_5 : decode cX0_take 5 = .ok (.aload_n 0, 1) := by decide +kernel
theorem dX0_take_6 : decode cX0_take 6 = .ok (.iconst 1, 1) := by decide +kernel
theorem dX0_take_7 : decode cX0_take 7 = .ok (.putfield 9, 3) := by decide +kernel
theorem dX0_take_10 : decode cX0_take 10 = .ok (.aload_n 0, 1) := by decide +kernel
theorem dX0_take_11 : decode cX0_take 11 = .ok (.lconst 0, 1) := by decide +kernel
theorem dX0_take_12 : decode cX0_take 12 = .ok (.putfield 70, 3) := by decide +kernel
theorem dX0_take_15 : decode cX0_take 15 = .ok (.aload_n 0, 1) := by decide +kernel
theorem dX0_take_16 : decode cX0_take 16 = .ok (.lconst 0, 1) := by decide +kernel
theorem dX0_take_17 : decode cX0_take 17 = .ok (.putfield 31, 3) := by decide +kernel
theorem dX0_take_20 : decode cX0_take 20 = .ok (.aload_n 0, 1) := by decide +kernel
theorem dX0_take_21 : decode cX0_take 21 = .ok (.lconst 0, 1) := by decide +kernel
theorem dX0_take_22 : decode cX0_take 22 = .ok (.putfield 73, 3) := by decide +kernel
theorem dX0_take_25 : decode cX0_take 25 = .ok (.aload_n 1, 1) := by decide +kernel
theorem dX0_take_26 : decode cX0_take 26 = .ok (.bipush 80, 2) := by decide +kernel
theorem dX0_take_28 : decode cX0_take 28 = .ok (.invokevirtual 76, 3) := by decide +kernel
theorem dX0_take_31 : decode cX0_take 31 = .ok (.iconst 0, 1) := by decide +kernel
theorem dX0_take_32 : decode cX0_take 32 = .ok (.istore_n 2, 1) := by decide +kernel
theorem dX0_take_33 : decode cX0_take 33 = .ok (.iload_n 2, 1) := by decide +kernel
theorem dX0_take_34 : decode cX0_take 34 = .ok (.bipush 80, 2) := by decide +kernel
theorem dX0_take_36 : decode cX0_take 36 = .ok (.if_icmp .ge 50, 3) := by decide +kernel
theorem dX0_take_39 : decode cX0_take 39 = .ok (.aload_n 1, 1) := by decide +kernel
theorem dX0_take_40 : decode cX0_take 40 = .ok (.invokevirtual 49, 3) := by decide +kernel
theorem dX0_take_43 : decode cX0_take 43 = .ok (.ifCond .ne 43, 3) := by decide +kernel
theorem dX0_take_46 : decode cX0_take 46 = .ok (.aload_n 1, 1) := by decide +kernel
theorem dX0_take_47 : decode cX0_take 47 = .ok (.invokevirtual 59, 3) := by decide +kernel
theorem dX0_take_50 : decode cX0_take 50 = .ok (.bipush 47, 2) := by decide +kernel
theorem dX0_take_52 : decode cX0_take 52 = .ok (.if_icmp .ne 16, 3) := by decide +kernel
theorem dX0_take_55 : decode cX0_take 55 = .ok (.aload_n 0, 1) := by decide +kernel
theorem dX0_take_56 : decode cX0_take 56 = .ok (.dup, 1) := by decide +kernel
theorem dX0_take_57 : decode cX0_take 57 = .ok (.getfield 9, 3) := by decide +kernel
theorem dX0_take_60 : decode cX0_take 60 = .ok (.iconst 1, 1) := by decide +kernel
theorem dX0_take_61 : decode cX0_take 61 = .ok (.iadd, 1) := by decide +kernel
theorem dX0_take_62 : decode cX0_take 62 = .ok (.putfield 9, 3) := by decide +kernel
theorem dX0_take_65 : decode cX0_take 65 = .ok (.goto 11, 3) := by decide +kernel
theorem dX0_take_68 : decode cX0_take 68 = .ok (.aload_n 0, 1) := by decide +kernel
theorem dX0_take_69 : decode cX0_take 69 = .ok (.aload_n 1, 1) := by decide +kernel
theorem dX0_take_70 : decode cX0_take 70 = .ok (.invokevirtual 59, 3) := by decide +kernel
theorem dX0_take_73 : decode cX0_take 73 = .ok (.invokevirtual 80, 3) := by decide +kernel
theorem dX0_take_76 : decode cX0_take 76 = .ok (.aload_n 1, 1) := by decide +kernel
theorem dX0_take_77 : decode cX0_take 77 = .ok (.invokevirtual 67, 3) := by decide +kernel
theorem dX0_take_80 : decode cX0_take 80 = .ok (.iinc 2 1, 3) := by decide +kernel
theorem dX0_take_83 : decode cX0_take 83 = .ok (.goto (-50), 3) := by decide +kernel
theorem dX0_take_86 : decode cX0_take 86 = .ok (.aload_n 0, 1) := by decide +kernel
theorem dX0_take_87 : decode cX0_take 87 = .ok (.aload_n 0, 1) := by decide +kernel
theorem dX0_take_88 : decode cX0_take 88 = .ok (.getfield 9, 3) := by decide +kernel
theorem dX0_take_91 : decode cX0_take 91 = .ok (.ifCond .le 15, 3) := by decide +kernel
theorem dX0_take_94 : decode cX0_take 94 = .ok (.aload_n 0, 1) := by decide +kernel
theorem dX0_take_95 : decode cX0_take 95 = .ok (.getfield 18, 3) := by decide +kernel
theorem dX0_take_98 : decode cX0_take 98 = .ok (.aload_n 0, 1) := by decide +kernel
theorem dX0_take_99 : decode cX0_take 99 = .ok (.getfield 9, 3) := by decide +kernel
theorem dX0_take_102 : decode cX0_take 102 = .ok (.idiv, 1) := by decide +kernel
theorem dX0_take_103 : decode cX0_take 103 = .ok (.goto 7, 3) := by decide +kernel
theorem dX0_take_106 : decode cX0_take 106 = .ok (.aload_n 0, 1) := by decide +kernel
theorem dX0_take_107 : decode cX0_take 107 = .ok (.getfield 18, 3) := by decide +kernel
theorem dX0_take_110 : decode cX0_take 110 = .ok (.putfield 15, 3) := by decide +kernel
theorem dX0_take_113 : decode cX0_take 113 = .ok (.iconst 0, 1) := by decide +kernel
theorem dX0_take_114 : decode cX0_take 114 = .ok (.istore_n 2, 1) := by decide +kernel
theorem dX0_take_115 : decode cX0_take 115 = .ok (.iload_n 2, 1) := by decide +kernel
theorem dX0_take_116 : decode cX0_take 116 = .ok (.aload_n 0, 1) := by decide +kernel
theorem dX0_take_117 : decode cX0_take 117 = .ok (.getfield 18, 3) := by decide +kernel
theorem dX0_take_120 : decode cX0_take 120 = .ok (.if_icmp .ge 14, 3) := by decide +kernel
theorem dX0_take_123 : decode cX0_take 123 = .ok (.aload_n 0, 1) := by decide +kernel
theorem dX0_take_124 : decode cX0_take 124 = .ok (.iload_n 2, 1) := by decide +kernel
theorem dX0_take_125 : decode cX0_take 125 = .ok (.invokevirtual 83, 3) := by decide +kernel
theorem dX0_take_128 : decode cX0_take 128 = .ok (.iinc 2 1, 3) := by decide +kernel
theorem dX0_take_131 : decode cX0_take 131 = .ok (.goto (-16), 3) := by decide +kernel
theorem dX0_take_134 : decode cX0_take 134 = .ok (.return_, 1) := by decide +kernel
theorem dX0_takeField_0 : decode cX0_takeField 0 = .ok (.aload_n 0, 1) := by decide +kernel
theorem dX0_takeField_1 : decode cX0_takeField 1 = .ok (.getfield 18, 3) := by decide +kernel
theorem dX0_takeField_4 : decode cX0_takeField 4 = .ok (.ifCond .lt 12, 3) := by decide +kernel
theorem dX0_takeField_7 : decode cX0_takeField 7 = .ok (.aload_n 0, 1) := by decide +kernel
theorem dX0_takeField_8 : decode cX0_takeField 8 = .ok (.getfield 18, 3) := by decide +kernel
theorem dX0_takeField_11 : decode cX0_takeField 11 = .ok (.bipush 36, 2) := by decide +kernel
theorem dX0_takeField_13 : decode cX0_takeField 13 = .ok (.if_icmp .lt 4, 3) := by decide +kernel
theorem dX0_takeField_16 : decode cX0_takeField 16 = .ok (.return_, 1) := by decide +kernel
theorem dX0_takeField_17 : decode cX0_takeField 17 = .ok (.iload_n 1, 1) := by decide +kernel
theorem dX0_takeField_18 : decode cX0_takeField 18 = .ok (.invokestatic 63, 3) := by decide +kernel
theorem dX0_takeField_21 : decode cX0_takeField 21 = .ok (.istore_n 2, 1) := by decide +kernel
theorem dX0_takeField_22 : decode cX0_takeField 22 = .ok (.aload_n 0, 1) := by decide +kernel
theorem dX0_takeField_23 : decode cX0_takeField 23 = .ok (.getfield 21, 3) := by decide +kernel
theorem dX0_takeField_26 : decode cX0_takeField 26 = .ok (.aload_n 0, 1) := by decide +kernel
theorem dX0_takeField_27 : decode cX0_takeField 27 = .ok (.getfield 18, 3) := by decide +kernel
theorem dX0_takeField_30 : decode cX0_takeField 30 = .ok (.iload_n 2, 1) := by decide +kernel
theorem dX0_takeField_31 : decode cX0_takeField 31 = .ok (.iastore, 1) := by decide +kernel
theorem dX0_takeField_32 : decode cX0_takeField 32 = .ok (.aload_n 0, 1) := by decide +kernel
theorem dX0_takeField_33 : decode cX0_takeField 33 = .ok (.getfield 25, 3) := by decide +kernel
theorem dX0_takeField_36 : decode cX0_takeField 36 = .ok (.aload_n 0, 1) := by decide +kernel
theorem dX0_takeField_37 : decode cX0_takeField 37 = .ok (.getfield 18, 3) := by decide +kernel
theorem dX0_takeField_40 : decode cX0_takeField 40 = .ok (.iload_n 2, 1) := by decide +kernel
theorem dX0_takeField_41 : decode cX0_takeField 41 = .ok (.ifCond .ne 10, 3) := by decide +kernel
theorem dX0_takeField_44 : decode cX0_takeField 44 = .ok (.iload_n 1, 1) := by decide +kernel
theorem dX0_takeField_45 : decode cX0_takeField 45 = .ok (.bipush 48, 2) := by decide +kernel
theorem dX0_takeField_47 : decode cX0_takeField 47 = .ok (.isub, 1) := by decide +kernel
theorem dX0_takeField_48 : decode cX0_takeField 48 = .ok (.goto 4, 3) := by decide +kernel
theorem dX0_takeField_51 : decode cX0_takeField 51 = .ok (.iconst 0, 1) := by decide +kernel
theorem dX0_takeField_52 : decode cX0_takeField 52 = .ok (.iastore, 1) := by decide +kernel
theorem dX0_takeField_53 : decode cX0_takeField 53 = .ok (.iload_n 2, 1) := by decide +kernel
theorem dX0_takeField_54 : decode cX0_takeField 54 = .ok (.ifCond .ne 21, 3) := by decide +kernel
theorem dX0_takeField_57 : decode cX0_takeField 57 = .ok (.aload_n 0, 1) := by decide +kernel
theorem dX0_takeField_58 : decode cX0_takeField 58 = .ok (.dup, 1) := by decide +kernel
theorem dX0_takeField_59 : decode cX0_takeField 59 = .ok (.getfield 70, 3) := by decide +kernel
theorem dX0_takeField_62 : decode cX0_takeField 62 = .ok (.lconst 1, 1) := by decide +kernel
theorem dX0_takeField_63 : decode cX0_takeField 63 = .ok (.aload_n 0, 1) := by decide +kernel
theorem dX0_takeField_64 : decode cX0_takeField 64 = .ok (.getfield 18, 3) := by decide +kernel
theorem dX0_takeField_67 : decode cX0_takeField 67 = .ok (.lshl, 1) := by decide +kernel
theorem dX0_takeField_68 : decode cX0_takeField 68 = .ok (.lor, 1) := by decide +kernel
theorem dX0_takeField_69 : decode cX0_takeField 69 = .ok (.putfield 70, 3) := by decide +kernel
theorem dX0_takeField_72 : decode cX0_takeField 72 = .ok (.goto 46, 3) := by decide +kernel
theorem dX0_takeField_75 : decode cX0_takeField 75 = .ok (.iload_n 2, 1) := by decide +kernel
theorem dX0_takeField_76 : decode cX0_takeField 76 = .ok (.iconst 1, 1) := by decide +kernel
theorem dX0_takeField_77 : decode cX0_takeField 77 = .ok (.if_icmp .ne 21, 3) := by decide +kernel
theorem dX0_takeField_80 : decode cX0_takeField 80 = .ok (.aload_n 0, 1) := by decide +kernel
theorem dX0_takeField_81 : decode cX0_takeField 81 = .ok (.dup, 1) := by decide +kernel
theorem dX0_takeField_82 : decode cX0_takeField 82 = .ok (.getfield 31, 3) := by decide +kernel
theorem dX0_takeField_85 : decode cX0_takeField 85 = .ok (.lconst 1, 1) := by decide +kernel
theorem dX0_takeField_86 : decode cX0_takeField 86 = .ok (.aload_n 0, 1) := by decide +kernel
theorem dX0_takeField_87 : decode cX0_takeField 87 = .ok (.getfield 18, 3) := by decide +kernel
theorem dX0_takeField_90 : decode cX0_takeField 90 = .ok (.lshl, 1) := by decide +kernel
theorem dX0_takeField_91 : decode cX0_takeField 91 = .ok (.lor, 1) := by decide +kernel
theorem dX0_takeField_92 : decode cX0_takeField 92 = .ok (.putfield 31, 3) := by decide +kernel
theorem dX0_takeField_95 : decode cX0_takeField 95 = .ok (.goto 23, 3) := by decide +kernel
theorem dX0_takeField_98 : decode cX0_takeField 98 = .ok (.iload_n 2, 1) := by decide +kernel
theorem dX0_takeField_99 : decode cX0_takeField 99 = .ok (.iconst 2, 1) := by decide +kernel
theorem dX0_takeField_100 : decode cX0_takeField 100 = .ok (.if_icmp .ne 18, 3) := by decide +kernel
theorem dX0_takeField_103 : decode cX0_takeField 103 = .ok (.aload_n 0, 1) := by decide +kernel
theorem dX0_takeField_104 : decode cX0_takeField 104 = .ok (.dup, 1) := by decide +kernel
theorem dX0_takeField_105 : decode cX0_takeField 105 = .ok (.getfield 73, 3) := by decide +kernel
theorem dX0_takeField_108 : decode cX0_takeField 108 = .ok (.lconst 1, 1) := by decide +kernel
theorem dX0_takeField_109 : decode cX0_takeField 109 = .ok (.aload_n 0, 1) := by decide +kernel
theorem dX0_takeField_110 : decode cX0_takeField 110 = .ok (.getfield 18, 3) := by decide +kernel
theorem dX0_takeField_113 : decode cX0_takeField 113 = .ok (.lshl, 1) := by decide +kernel
theorem dX0_takeField_114 : decode cX0_takeField 114 = .ok (.lor, 1) := by decide +kernel
theorem dX0_takeField_115 : decode cX0_takeField 115 = .ok (.putfield 73, 3) := by decide +kernel
theorem dX0_takeField_118 : decode cX0_takeField 118 = .ok (.aload_n 0, 1) := by decide +kernel
theorem dX0_takeField_119 : decode cX0_takeField 119 = .ok (.dup, 1) := by decide +kernel
theorem dX0_takeField_120 : decode cX0_takeField 120 = .ok (.getfield 18, 3) := by decide +kernel
theorem dX0_takeField_123 : decode cX0_takeField 123 = .ok (.iconst 1, 1) := by decide +kernel
theorem dX0_takeField_124 : decode cX0_takeField 124 = .ok (.iadd, 1) := by decide +kernel
theorem dX0_takeField_125 : decode cX0_takeField 125 = .ok (.putfield 18, 3) := by decide +kernel
theorem dX0_takeField_128 : decode cX0_takeField 128 = .ok (.return_, 1) := by decide +kernel
theorem dX0_link_0 : decode cX0_link 0 = .ok (.aload_n 0, 1) := by decide +kernel
theorem dX0_link_1 : decode cX0_link 1 = .ok (.iload_n 1, 1) := by decide +kernel
theorem dX0_link_2 : decode cX0_link 2 = .ok (.invokevirtual 41, 3) := by decide +kernel
theorem dX0_link_5 : decode cX0_link 5 = .ok (.ifCond .eq 11, 3) := by decide +kernel
theorem dX0_link_8 : decode cX0_link 8 = .ok (.aload_n 0, 1) := by decide +kernel
theorem dX0_link_9 : decode cX0_link 9 = .ok (.getfield 15, 3) := by decide +kernel
theorem dX0_link_12 : decode cX0_link 12 = .ok (.iconst 1, 1) := by decide +kernel
theorem dX0_link_13 : decode cX0_link 13 = .ok (.if_icmp .ge 4, 3) := by decide +kernel
theorem dX0_link_16 : decode cX0_link 16 = .ok (.return_, 1) := by decide +kernel
theorem dX0_link_17 : decode cX0_link 17 = .ok (.iload_n 1, 1) := by decide +kernel
theorem dX0_link_18 : decode cX0_link 18 = .ok (.aload_n 0, 1) := by decide +kernel
theorem dX0_link_19 : decode cX0_link 19 = .ok (.getfield 15, 3) := by decide +kernel
theorem dX0_link_22 : decode cX0_link 22 = .ok (.irem, 1) := by decide +kernel
theorem dX0_link_23 : decode cX0_link 23 = .ok (.istore_n 2, 1) := by decide +kernel
theorem dX0_link_24 : decode cX0_link 24 = .ok (.iload_n 1, 1) := by decide +kernel
theorem dX0_link_25 : decode cX0_link 25 = .ok (.iconst 4, 1) := by decide +kernel
theorem dX0_link_26 : decode cX0_link 26 = .ok (.imul, 1) := by decide +kernel
theorem dX0_link_27 : decode cX0_link 27 = .ok (.istore_n 3, 1) := by decide +kernel
theorem dX0_link_28 : decode cX0_link 28 = .ok (.aload_n 0, 1) := by decide +kernel
theorem dX0_link_29 : decode cX0_link 29 = .ok (.getfield 28, 3) := by decide +kernel
theorem dX0_link_32 : decode cX0_link 32 = .ok (.iload_n 3, 1) := by decide +kernel
theorem dX0_link_33 : decode cX0_link 33 = .ok (.aload_n 0, 1) := by decide +kernel
theorem dX0_link_34 : decode cX0_link 34 = .ok (.iload_n 1, 1) := by decide +kernel
theorem dX0_link_35 : decode cX0_link 35 = .ok (.aload_n 0, 1) := by decide +kernel
theorem dX0_link_36 : decode cX0_link 36 = .ok (.getfield 15, 3) := by decide +kernel
theorem dX0_link_39 : decode cX0_link 39 = .ok (.isub, 1) := by decide +kernel
theorem dX0_link_40 : decode cX0_link 40 = .ok (.invokevirtual 86, 3) := by decide +kernel
theorem dX0_link_43 : decode cX0_link 43 = .ok (.iastore, 1) := by decide +kernel
theorem dX0_link_44 : decode cX0_link 44 = .ok (.aload_n 0, 1) := by decide +kernel
theorem dX0_link_45 : decode cX0_link 45 = .ok (.getfield 28, 3) := by decide +kernel
theorem dX0_link_48 : decode cX0_link 48 = .ok (.iload_n 3, 1) := by decide +kernel
theorem dX0_link_49 : decode cX0_link 49 = .ok (.iconst 1, 1) := by decide +kernel
theorem dX0_link_50 : decode cX0_link 50 = .ok (.iadd, 1) := by decide +kernel
theorem dX0_link_51 : decode cX0_link 51 = .ok (.iload_n 2, 1) := by decide +kernel
theorem dX0_link_52 : decode cX0_link 52 = .ok (.iconst 1, 1) := by decide +kernel
theorem dX0_link_53 : decode cX0_link 53 = .ok (.iadd, 1) := by decide +kernel
theorem dX0_link_54 : decode cX0_link 54 = .ok (.aload_n 0, 1) := by decide +kernel
theorem dX0_link_55 : decode cX0_link 55 = .ok (.getfield 15, 3) := by decide +kernel
theorem dX0_link_58 : decode cX0_link 58 = .ok (.if_icmp .ge 13, 3) := by decide +kernel
theorem dX0_link_61 : decode cX0_link 61 = .ok (.aload_n 0, 1) := by decide +kernel
theorem dX0_link_62 : decode cX0_link 62 = .ok (.iload_n 1, 1) := by decide +kernel
theorem dX0_link_63 : decode cX0_link 63 = .ok (.iconst 1, 1) := by decide +kernel
theorem dX0_link_64 : decode cX0_link 64 = .ok (.iadd, 1) := by decide +kernel
theorem dX0_link_65 : decode cX0_link 65 = .ok (.invokevirtual 86, 3) := by decide +kernel
theorem dX0_link_68 : decode cX0_link 68 = .ok (.goto 4, 3) := by decide +kernel
theorem dX0_link_71 : decode cX0_link 71 = .ok (.iconst (-1), 1) := by decide +kernel
theorem dX0_link_72 : decode cX0_link 72 = .ok (.iastore, 1) := by decide +kernel
theorem dX0_link_73 : decode cX0_link 73 = .ok (.aload_n 0, 1) := by decide +kernel
theorem dX0_link_74 : decode cX0_link 74 = .ok (.getfield 28, 3) := by decide +kernel
theorem dX0_link_77 : decode cX0_link 77 = .ok (.iload_n 3, 1) := by decide +kernel
theorem dX0_link_78 : decode cX0_link 78 = .ok (.iconst 2, 1) := by decide +kernel
theorem dX0_link_79 : decode cX0_link 79 = .ok (.iadd, 1) := by decide +kernel
theorem dX0_link_80 : decode cX0_link 80 = .ok (.aload_n 0, 1) := by decide +kernel
theorem dX0_link_81 : decode cX0_link 81 = .ok (.iload_n 1, 1) := by decide +kernel
theorem dX0_link_82 : decode cX0_link 82 = .ok (.aload_n 0, 1) := by decide +kernel
theorem dX0_link_83 : decode cX0_link 83 = .ok (.getfield 15, 3) := by decide +kernel
theorem dX0_link_86 : decode cX0_link 86 = .ok (.iadd, 1) := by decide +kernel
theorem dX0_link_87 : decode cX0_link 87 = .ok (.invokevirtual 86, 3) := by decide +kernel
theorem dX0_link_90 : decode cX0_link 90 = .ok (.iastore, 1) := by decide +kernel
theorem dX0_link_91 : decode cX0_link 91 = .ok (.aload_n 0, 1) := by decide +kernel
theorem dX0_link_92 : decode cX0_link 92 = .ok (.getfield 28, 3) := by decide +kernel
theorem dX0_link_95 : decode cX0_link 95 = .ok (.iload_n 3, 1) := by decide +kernel
theorem dX0_link_96 : decode cX0_link 96 = .ok (.iconst 3, 1) := by decide +kernel
theorem dX0_link_97 : decode cX0_link 97 = .ok (.iadd, 1) := by decide +kernel
theorem dX0_link_98 : decode cX0_link 98 = .ok (.iload_n 2, 1) := by decide +kernel
theorem dX0_link_99 : decode cX0_link 99 = .ok (.ifCond .le 13, 3) := by decide +kernel
theorem dX0_link_102 : decode cX0_link 102 = .ok (.aload_n 0, 1) := by decide +kernel
theorem dX0_link_103 : decode cX0_link 103 = .ok (.iload_n 1, 1) := by decide +kernel
theorem dX0_link_104 : decode cX0_link 104 = .ok (.iconst 1, 1) := by decide +kernel
theorem dX0_link_105 : decode cX0_link 105 = .ok (.isub, 1) := by decide +kernel
theorem dX0_link_106 : decode cX0_link 106 = .ok (.invokevirtual 86, 3) := by decide +kernel
theorem dX0_link_109 : decode cX0_link 109 = .ok (.goto 4, 3) := by decide +kernel
theorem dX0_link_112 : decode cX0_link 112 = .ok (.iconst (-1), 1) := by decide +kernel
theorem dX0_link_113 : decode cX0_link 113 = .ok (.iastore, 1) := by decide +kernel
theorem dX0_link_114 : decode cX0_link 114 = .ok (.return_, 1) := by decide +kernel
theorem dX0_openField_0 : decode cX0_openField 0 = .ok (.aload_n 0, 1) := by decide +kernel
theorem dX0_openField_1 : decode cX0_openField 1 = .ok (.iload_n 1, 1) := by decide +kernel
theorem dX0_openField_2 : decode cX0_openField 2 = .ok (.invokevirtual 89, 3) := by decide +kernel
theorem dX0_openField_5 : decode cX0_openField 5 = .ok (.iconst 3, 1) := by decide +kernel
theorem dX0_openField_6 : decode cX0_openField 6 = .ok (.if_icmp .ne 7, 3) := by decide +kernel
theorem dX0_openField_9 : decode cX0_openField 9 = .ok (.iconst (-1), 1) := by decide +kernel
theorem dX0_openField_10 : decode cX0_openField 10 = .ok (.goto 4, 3) := by decide +kernel
theorem dX0_openField_13 : decode cX0_openField 13 = .ok (.iload_n 1, 1) := by decide +kernel
theorem dX0_openField_14 : decode cX0_openField 14 = .ok (.ireturn, 1) := by decide +kernel
theorem dX0_upTo_0 : decode cX0_upTo 0 = .ok (.aload_n 0, 1) := by decide +kernel
theorem dX0_upTo_1 : decode cX0_upTo 1 = .ok (.getfield 31, 3) := by decide +kernel
theorem dX0_upTo_4 : decode cX0_upTo 4 = .ok (.aload_n 0, 1) := by decide +kernel
theorem dX0_upTo_5 : decode cX0_upTo 5 = .ok (.getfield 73, 3) := by decide +kernel
theorem dX0_upTo_8 : decode cX0_upTo 8 = .ok (.lor, 1) := by decide +kernel
theorem dX0_upTo_9 : decode cX0_upTo 9 = .ok (.lstore_n 2, 1) := by decide +kernel
theorem dX0_upTo_10 : decode cX0_upTo 10 = .ok (.iconst 0, 1) := by decide +kernel
theorem dX0_upTo_11 : decode cX0_upTo 11 = .ok (.istore 4, 2) := by decide +kernel
theorem dX0_upTo_13 : decode cX0_upTo 13 = .ok (.iload 4, 2) := by decide +kernel
theorem dX0_upTo_15 : decode cX0_upTo 15 = .ok (.aload_n 0, 1) := by decide +kernel
theorem dX0_upTo_16 : decode cX0_upTo 16 = .ok (.getfield 18, 3) := by decide +kernel
theorem dX0_upTo_19 : decode cX0_upTo 19 = .ok (.if_icmp .ge 35, 3) := by decide +kernel
theorem dX0_upTo_22 : decode cX0_upTo 22 = .ok (.aload_n 0, 1) := by decide +kernel
theorem dX0_upTo_23 : decode cX0_upTo 23 = .ok (.iload 4, 2) := by decide +kernel
theorem dX0_upTo_25 : decode cX0_upTo 25 = .ok (.invokevirtual 89, 3) := by decide +kernel
theorem dX0_upTo_28 : decode cX0_upTo 28 = .ok (.ifCond .ne 20, 3) := by decide +kernel
theorem dX0_upTo_31 : decode cX0_upTo 31 = .ok (.aload_n 0, 1) := by decide +kernel
theorem dX0_upTo_32 : decode cX0_upTo 32 = .ok (.iload 4, 2) := by decide +kernel
theorem dX0_upTo_34 : decode cX0_upTo 34 = .ok (.invokevirtual 92, 3) := by decide +kernel
theorem dX0_upTo_37 : decode cX0_upTo 37 = .ok (.iload_n 1, 1) := by decide +kernel
theorem dX0_upTo_38 : decode cX0_upTo 38 = .ok (.if_icmp .gt 10, 3) := by decide +kernel
theorem dX0_upTo_41 : decode cX0_upTo 41 = .ok (.lload_n 2, 1) := by decide +kernel
theorem dX0_upTo_42 : decode cX0_upTo 42 = .ok (.lconst 1, 1) := by decide +kernel
theorem dX0_upTo_43 : decode cX0_upTo 43 = .ok (.iload 4, 2) := by decide +kernel
theorem dX0_upTo_45 : decode cX0_upTo 45 = .ok (.lshl, 1) := by decide +kernel
theorem dX0_upTo_46 : decode cX0_upTo 46 = .ok (.lor, 1) := by decide +kernel
theorem dX0_upTo_47 : decode cX0_upTo 47 = .ok (.lstore_n 2, 1) := by decide +kernel
theorem dX0_upTo_48 : decode cX0_upTo 48 = .ok (.iinc 4 1, 3) := by decide +kernel
theorem dX0_upTo_51 : decode cX0_upTo 51 = .ok (.goto (-38), 3) := by decide +kernel
theorem dX0_upTo_54 : decode cX0_upTo 54 = .ok (.lload_n 2, 1) := by decide +kernel
theorem dX0_upTo_55 : decode cX0_upTo 55 = .ok (.lreturn, 1) := by decide +kernel
theorem dX0_joined_0 : decode cX0_joined 0 = .ok (.lload_n 1, 1) := by decide +kernel
theorem dX0_joined_1 : decode cX0_joined 1 = .ok (.lstore 5, 2) := by decide +kernel
theorem dX0_joined_3 : decode cX0_joined 3 = .ok (.lload_n 1, 1) := by decide +kernel
theorem dX0_joined_4 : decode cX0_joined 4 = .ok (.lstore 7, 2) := by decide +kernel
theorem dX0_joined_6 : decode cX0_joined 6 = .ok (.iconst 0, 1) := by decide +kernel
theorem dX0_joined_7 : decode cX0_joined 7 = .ok (.istore 9, 2) := by decide +kernel
theorem dX0_joined_9 : decode cX0_joined 9 = .ok (.iload 9, 2) := by decide +kernel
theorem dX0_joined_11 : decode cX0_joined 11 = .ok (.bipush 36, 2) := by decide +kernel
theorem dX0_joined_13 : decode cX0_joined 13 = .ok (.if_icmp .ge 40, 3) := by decide +kernel
theorem dX0_joined_16 : decode cX0_joined 16 = .ok (.lload 7, 2) := by decide +kernel
theorem dX0_joined_18 : decode cX0_joined 18 = .ok (.lconst 0, 1) := by decide +kernel
theorem dX0_joined_19 : decode cX0_joined 19 = .ok (.lcmp, 1) := by decide +kernel
theorem dX0_joined_20 : decode cX0_joined 20 = .ok (.ifCond .eq 33, 3) := by decide +kernel
theorem dX0_joined_23 : decode cX0_joined 23 = .ok (.aload_n 0, 1) := by decide +kernel
theorem dX0_joined_24 : decode cX0_joined 24 = .ok (.lload 7, 2) := by decide +kernel
theorem dX0_joined_26 : decode cX0_joined 26 = .ok (.invokevirtual 95, 3) := by decide +kernel
theorem dX0_joined_29 : decode cX0_joined 29 = .ok (.lload_n 3, 1) := by decide +kernel
theorem dX0_joined_30 : decode cX0_joined 30 = .ok (.land, 1) := by decide +kernel
theorem dX0_joined_31 : decode cX0_joined 31 = .ok (.lload 5, 2) := by decide +kernel
theorem dX0_joined_33 : decode cX0_joined 33 = .ok (.ldc2_w 99, 3) := by decide +kernel
theorem dX0_joined_36 : decode cX0_joined 36 = .ok (.lxor, 1) := by decide +kernel
theorem dX0_joined_37 : decode cX0_joined 37 = .ok (.land, 1) := by decide +kernel
theorem dX0_joined_38 : decode cX0_joined 38 = .ok (.lstore 7, 2) := by decide +kernel
theorem dX0_joined_40 : decode cX0_joined 40 = .ok (.lload 5, 2) := by decide +kernel
theorem dX0_joined_42 : decode cX0_joined 42 = .ok (.lload 7, 2) := by decide +kernel
theorem dX0_joined_44 : decode cX0_joined 44 = .ok (.lor, 1) := by decide +kernel
theorem dX0_joined_45 : decode cX0_joined 45 = .ok (.lstore 5, 2) := by decide +kernel
theorem dX0_joined_47 : decode cX0_joined 47 = .ok (.iinc 9 1, 3) := by decide +kernel
theorem dX0_joined_50 : decode cX0_joined 50 = .ok (.goto (-41), 3) := by decide +kernel
theorem dX0_joined_53 : decode cX0_joined 53 = .ok (.lload 5, 2) := by decide +kernel
theorem dX0_joined_55 : decode cX0_joined 55 = .ok (.lreturn, 1) := by decide +kernel
theorem dX0_besideAny_0 : decode cX0_besideAny 0 = .ok (.lconst 0, 1) := by decide +kernel
theorem dX0_besideAny_1 : decode cX0_besideAny 1 = .ok (.lstore_n 3, 1) := by decide +kernel
theorem dX0_besideAny_2 : decode cX0_besideAny 2 = .ok (.iconst 0, 1) := by decide +kernel
theorem dX0_besideAny_3 : decode cX0_besideAny 3 = .ok (.istore 5, 2) := by decide +kernel
theorem dX0_besideAny_5 : decode cX0_besideAny 5 = .ok (.iload 5, 2) := by decide +kernel
theorem dX0_besideAny_7 : decode cX0_besideAny 7 = .ok (.aload_n 0, 1) := by decide +kernel
theorem dX0_besideAny_8 : decode cX0_besideAny 8 = .ok (.getfield 18, 3) := by decide +kernel
theorem dX0_besideAny_11 : decode cX0_besideAny 11 = .ok (.if_icmp .ge 61, 3) := by decide +kernel
theorem dX0_besideAny_14 : decode cX0_besideAny 14 = .ok (.lload_n 1, 1) := by decide +kernel
theorem dX0_besideAny_15 : decode cX0_besideAny 15 = .ok (.iload 5, 2) := by decide +kernel
theorem dX0_besideAny_17 : decode cX0_besideAny 17 = .ok (.lushr, 1) := by decide +kernel
theorem dX0_besideAny_18 : decode cX0_besideAny 18 = .ok (.lconst 1, 1) := by decide +kernel
theorem dX0_besideAny_19 : decode cX0_besideAny 19 = .ok (.land, 1) := by decide +kernel
theorem dX0_besideAny_20 : decode cX0_besideAny 20 = .ok (.lconst 0, 1) := by decide +kernel
theorem dX0_besideAny_21 : decode cX0_besideAny 21 = .ok (.lcmp, 1) := by decide +kernel
theorem dX0_besideAny_22 : decode cX0_besideAny 22 = .ok (.ifCond .ne 6, 3) := by decide +kernel
theorem dX0_besideAny_25 : decode cX0_besideAny 25 = .ok (.goto 41, 3) := by decide +kernel
theorem dX0_besideAny_28 : decode cX0_besideAny 28 = .ok (.iconst 0, 1) := by decide +kernel
theorem dX0_besideAny_29 : decode cX0_besideAny 29 = .ok (.istore 6, 2) := by decide +kernel
theorem dX0_besideAny_31 : decode cX0_besideAny 31 = .ok (.iload 6, 2) := by decide +kernel
theorem dX0_besideAny_33 : decode cX0_besideAny 33 = .ok (.iconst 4, 1) := by decide +kernel
theorem dX0_besideAny_34 : decode cX0_besideAny 34 = .ok (.if_icmp .ge 32, 3) := by decide +kernel
theorem dX0_besideAny_37 : decode cX0_besideAny 37 = .ok (.aload_n 0, 1) := by decide +kernel
theorem dX0_besideAny_38 : decode cX0_besideAny 38 = .ok (.iload 5, 2) := by decide +kernel
theorem dX0_besideAny_40 : decode cX0_besideAny 40 = .ok (.iload 6, 2) := by decide +kernel
theorem dX0_besideAny_42 : decode cX0_besideAny 42 = .ok (.invokevirtual 101, 3) := by decide +kernel
theorem dX0_besideAny_45 : decode cX0_besideAny 45 = .ok (.istore 7, 2) := by decide +kernel
theorem dX0_besideAny_47 : decode cX0_besideAny 47 = .ok (.iload 7, 2) := by decide +kernel
theorem dX0_besideAny_49 : decode cX0_besideAny 49 = .ok (.iconst (-1), 1) := by decide +kernel
theorem dX0_besideAny_50 : decode cX0_besideAny 50 = .ok (.if_icmp .eq 10, 3) := by decide +kernel
theorem dX0_besideAny_53 : decode cX0_besideAny 53 = .ok (.lload_n 3, 1) := by decide +kernel
theorem dX0_besideAny_54 : decode cX0_besideAny 54 = .ok (.lconst 1, 1) := by decide +kernel
theorem dX0_besideAny_55 : decode cX0_besideAny 55 = .ok (.iload 7, 2) := by decide +kernel
theorem dX0_besideAny_57 : decode cX0_besideAny 57 = .ok (.lshl, 1) := by decide +kernel
theorem dX0_besideAny_58 : decode cX0_besideAny 58 = .ok (.lor, 1) := by decide +kernel
theorem dX0_besideAny_59 : decode cX0_besideAny 59 = .ok (.lstore_n 3, 1) := by decide +kernel
theorem dX0_besideAny_60 : decode cX0_besideAny 60 = .ok (.iinc 6 1, 3) := by decide +kernel
theorem dX0_besideAny_63 : decode cX0_besideAny 63 = .ok (.goto (-32), 3) := by decide +kernel
theorem dX0_besideAny_66 : decode cX0_besideAny 66 = .ok (.iinc 5 1, 3) := by decide +kernel
theorem dX0_besideAny_69 : decode cX0_besideAny 69 = .ok (.goto (-64), 3) := by decide +kernel
theorem dX0_besideAny_72 : decode cX0_besideAny 72 = .ok (.lload_n 3, 1) := by decide +kernel
theorem dX0_besideAny_73 : decode cX0_besideAny 73 = .ok (.lreturn, 1) := by decide +kernel
theorem dX1_clear_0 : decode cX1_clear 0 = .ok (.aload_n 0, 1) := by decide +kernel
theorem dX1_clear_1 : decode cX1_clear 1 = .ok (.iconst 0, 1) := by decide +kernel
theorem dX1_clear_2 : decode cX1_clear 2 = .ok (.putfield 15, 3) := by decide +kernel
theorem dX1_clear_5 : decode cX1_clear 5 = .ok (.aload_n 0, 1) := by decide +kernel
theorem dX1_clear_6 : decode cX1_clear 6 = .ok (.iconst 0, 1) := by decide +kernel
theorem dX1_clear_7 : decode cX1_clear 7 = .ok (.putfield 19, 3) := by decide +kernel
theorem dX1_clear_10 : decode cX1_clear 10 = .ok (.aload_n 0, 1) := by decide +kernel
theorem dX1_clear_11 : decode cX1_clear 11 = .ok (.lconst 0, 1) := by decide +kernel
theorem dX1_clear_12 : decode cX1_clear 12 = .ok (.putfield 22, 3) := by decide +kernel
theorem dX1_clear_15 : decode cX1_clear 15 = .ok (.aload_n 0, 1) := by decide +kernel
theorem dX1_clear_16 : decode cX1_clear 16 = .ok (.iconst 0, 1) := by decide +kernel
theorem dX1_clear_17 : decode cX1_clear 17 = .ok (.putfield 26, 3) := by decide +kernel
theorem dX1_clear_20 : decode cX1_clear 20 = .ok (.aload_n 0, 1) := by decide +kernel
theorem dX1_clear_21 : decode cX1_clear 21 = .ok (.iconst 0, 1) := by decide +kernel
theorem dX1_clear_22 : decode cX1_clear 22 = .ok (.putfield 29, 3) := by decide +kernel
theorem dX1_clear_25 : decode cX1_clear 25 = .ok (.aload_n 0, 1) := by decide +kernel
theorem dX1_clear_26 : decode cX1_clear 26 = .ok (.iconst 0, 1) := by decide +kernel
theorem dX1_clear_27 : decode cX1_clear 27 = .ok (.putfield 32, 3) := by decide +kernel
theorem dX1_clear_30 : decode cX1_clear 30 = .ok (.aload_n 0, 1) := by decide +kernel
theorem dX1_clear_31 : decode cX1_clear 31 = .ok (.iconst 0, 1) := by decide +kernel
theorem dX1_clear_32 : decode cX1_clear 32 = .ok (.putfield 35, 3) := by decide +kernel
theorem dX1_clear_35 : decode cX1_clear 35 = .ok (.aload_n 0, 1) := by decide +kernel
theorem dX1_clear_36 : decode cX1_clear 36 = .ok (.iconst 0, 1) := by decide +kernel
theorem dX1_clear_37 : decode cX1_clear 37 = .ok (.putfield 38, 3) := by decide +kernel
theorem dX1_clear_40 : decode cX1_clear 40 = .ok (.return_, 1) := by decide +kernel
theorem dX1_copy_0 : decode cX1_copy 0 = .ok (.aload_n 1, 1) := by decide +kernel
theorem dX1_copy_1 : decode cX1_copy 1 = .ok (.getfield 9, 3) := by decide +kernel
theorem dX1_copy_4 : decode cX1_copy 4 = .ok (.iconst 0, 1) := by decide +kernel
theorem dX1_copy_5 : decode cX1_copy 5 = .ok (.aload_n 0, 1) := by decide +kernel
theorem dX1_copy_6 : decode cX1_copy 6 = .ok (.getfield 9, 3) := by decide +kernel
theorem dX1_copy_9 : decode cX1_copy 9 = .ok (.iconst 0, 1) := by decide +kernel
theorem dX1_copy_10 : decode cX1_copy 10 = .ok (.bipush 8, 2) := by decide +kernel
theorem dX1_copy_12 : decode cX1_copy 12 = .ok (.invokestatic 41, 3) := by decide +kernel
theorem dX1_copy_15 : decode cX1_copy 15 = .ok (.aload_n 0, 1) := by decide +kernel
theorem dX1_copy_16 : decode cX1_copy 16 = .ok (.aload_n 1, 1) := by decide +kernel
theorem dX1_copy_17 : decode cX1_copy 17 = .ok (.getfield 15, 3) := by decide +kernel
theorem dX1_copy_20 : decode cX1_copy 20 = .ok (.putfield 15, 3) := by decide +kernel
theorem dX1_copy_23 : decode cX1_copy 23 = .ok (.aload_n 0, 1) := by decide +kernel
theorem dX1_copy_24 : decode cX1_copy 24 = .ok (.aload_n 1, 1) := by decide +kernel
theorem dX1_copy_25 : decode cX1_copy 25 = .ok (.getfield 19, 3) := by decide +kernel
theorem dX1_copy_28 : decode cX1_copy 28 = .ok (.putfield 19, 3) := by decide +kernel
theorem dX1_copy_31 : decode cX1_copy 31 = .ok (.aload_n 0, 1) := by decide +kernel
theorem dX1_copy_32 : decode cX1_copy 32 = .ok (.aload_n 1, 1) := by decide +kernel
theorem dX1_copy_33 : decode cX1_copy 33 = .ok (.getfield 22, 3) := by decide +kernel
theorem dX1_copy_36 : decode cX1_copy 36 = .ok (.putfield 22, 3) := by decide +kernel
theorem dX1_copy_39 : decode cX1_copy 39 = .ok (.aload_n 0, 1) := by decide +kernel
theorem dX1_copy_40 : decode cX1_copy 40 = .ok (.aload_n 1, 1) := by decide +kernel
theorem dX1_copy_41 : decode cX1_copy 41 = .ok (.getfield 26, 3) := by decide +kernel
theorem dX1_copy_44 : decode cX1_copy 44 = .ok (.putfield 26, 3) := by decide +kernel
theorem dX1_copy_47 : decode cX1_copy 47 = .ok (.aload_n 0, 1) := by decide +kernel
theorem dX1_copy_48 : decode cX1_copy 48 = .ok (.aload_n 1, 1) := by decide +kernel
theorem dX1_copy_49 : decode cX1_copy 49 = .ok (.getfield 29, 3) := by decide +kernel
theorem dX1_copy_52 : decode cX1_copy 52 = .ok (.putfield 29, 3) := by decide +kernel
theorem dX1_copy_55 : decode cX1_copy 55 = .ok (.aload_n 0, 1) := by decide +kernel
theorem dX1_copy_56 : decode cX1_copy 56 = .ok (.aload_n 1, 1) := by decide +kernel
theorem dX1_copy_57 : decode cX1_copy 57 = .ok (.getfield 32, 3) := by decide +kernel
theorem dX1_copy_60 : decode cX1_copy 60 = .ok (.putfield 32, 3) := by decide +kernel
theorem dX1_copy_63 : decode cX1_copy 63 = .ok (.aload_n 0, 1) := by decide +kernel
theorem dX1_copy_64 : decode cX1_copy 64 = .ok (.aload_n 1, 1) := by decide +kernel
theorem dX1_copy_65 : decode cX1_copy 65 = .ok (.getfield 35, 3) := by decide +kernel
theorem dX1_copy_68 : decode cX1_copy 68 = .ok (.putfield 35, 3) := by decide +kernel
theorem dX1_copy_71 : decode cX1_copy 71 = .ok (.aload_n 0, 1) := by decide +kernel
theorem dX1_copy_72 : decode cX1_copy 72 = .ok (.aload_n 1, 1) := by decide +kernel
theorem dX1_copy_73 : decode cX1_copy 73 = .ok (.getfield 38, 3) := by decide +kernel
theorem dX1_copy_76 : decode cX1_copy 76 = .ok (.putfield 38, 3) := by decide +kernel
theorem dX1_copy_79 : decode cX1_copy 79 = .ok (.return_, 1) := by decide +kernel
theorem dX1_put_0 : decode cX1_put 0 = .ok (.iload_n 1, 1) := by decide +kernel
theorem dX1_put_1 : decode cX1_put 1 = .ok (.ifCond .lt 16, 3) := by decide +kernel
theorem dX1_put_4 : decode cX1_put 4 = .ok (.iload_n 1, 1) := by decide +kernel
theorem dX1_put_5 : decode cX1_put 5 = .ok (.bipush 8, 2) := by decide +kernel
theorem dX1_put_7 : decode cX1_put 7 = .ok (.if_icmp .ge 10, 3) := by decide +kernel
theorem dX1_put_10 : decode cX1_put 10 = .ok (.aload_n 0, 1) := by decide +kernel
theorem dX1_put_11 : decode cX1_put 11 = .ok (.getfield 9, 3) := by decide +kernel
theorem dX1_put_14 : decode cX1_put 14 = .ok (.iload_n 1, 1) := by decide +kernel
theorem dX1_put_15 : decode cX1_put 15 = .ok (.iload_n 2, 1) := by decide +kernel
theorem dX1_put_16 : decode cX1_put 16 = .ok (.iastore, 1) := by decide +kernel
theorem dX1_put_17 : decode cX1_put 17 = .ok (.return_, 1) := by decide +kernel
theorem dX1_placeOf_0 : decode cX1_placeOf 0 = .ok (.iload_n 1, 1) := by decide +kernel
theorem dX1_placeOf_1 : decode cX1_placeOf 1 = .ok (.ifCond .lt 18, 3) := by decide +kernel
theorem dX1_placeOf_4 : decode cX1_placeOf 4 = .ok (.iload_n 1, 1) := by decide +kernel
theorem dX1_placeOf_5 : decode cX1_placeOf 5 = .ok (.bipush 8, 2) := by decide +kernel
theorem dX1_placeOf_7 : decode cX1_placeOf 7 = .ok (.if_icmp .ge 12, 3) := by decide +kernel
theorem dX1_placeOf_10 : decode cX1_placeOf 10 = .ok (.aload_n 0, 1) := by decide +kernel
theorem dX1_placeOf_11 : decode cX1_placeOf 11 = .ok (.getfield 9, 3) := by decide +kernel
theorem dX1_placeOf_14 : decode cX1_placeOf 14 = .ok (.iload_n 1, 1) := by decide +kernel
theorem dX1_placeOf_15 : decode cX1_placeOf 15 = .ok (.iaload, 1) := by decide +kernel
theorem dX1_placeOf_16 : decode cX1_placeOf 16 = .ok (.goto 4, 3) := by decide +kernel
theorem dX1_placeOf_19 : decode cX1_placeOf 19 = .ok (.iconst (-1), 1) := by decide +kernel
theorem dX1_placeOf_20 : decode cX1_placeOf 20 = .ok (.ireturn, 1) := by decide +kernel
theorem dX1_wasDragged_0 : decode cX1_wasDragged 0 = .ok (.aload_n 0, 1) := by decide +kernel
theorem dX1_wasDragged_1 : decode cX1_wasDragged 1 = .ok (.getfield 19, 3) := by decide +kernel
theorem dX1_wasDragged_4 : decode cX1_wasDragged 4 = .ok (.iload_n 1, 1) := by decide +kernel
theorem dX1_wasDragged_5 : decode cX1_wasDragged 5 = .ok (.iushr, 1) := by decide +kernel
theorem dX1_wasDragged_6 : decode cX1_wasDragged 6 = .ok (.iconst 1, 1) := by decide +kernel
theorem dX1_wasDragged_7 : decode cX1_wasDragged 7 = .ok (.iand, 1) := by decide +kernel
theorem dX1_wasDragged_8 : decode cX1_wasDragged 8 = .ok (.ifCond .eq 7, 3) := by decide +kernel
theorem dX1_wasDragged_11 : decode cX1_wasDragged 11 = .ok (.iconst 1, 1) := by decide +kernel
theorem dX1_wasDragged_12 : decode cX1_wasDragged 12 = .ok (.goto 4, 3) := by decide +kernel
theorem dX1_wasDragged_15 : decode cX1_wasDragged 15 = .ok (.iconst 0, 1) := by decide +kernel
theorem dX1_wasDragged_16 : decode cX1_wasDragged 16 = .ok (.ireturn, 1) := by decide +kernel
theorem dX1_planksAt_0 : decode cX1_planksAt 0 = .ok (.aload_n 0, 1) := by decide +kernel
theorem dX1_planksAt_1 : decode cX1_planksAt 1 = .ok (.getfield 22, 3) := by decide +kernel
theorem dX1_planksAt_4 : decode cX1_planksAt 4 = .ok (.iload_n 1, 1) := by decide +kernel
theorem dX1_planksAt_5 : decode cX1_planksAt 5 = .ok (.lushr, 1) := by decide +kernel
theorem dX1_planksAt_6 : decode cX1_planksAt 6 = .ok (.lconst 1, 1) := by decide +kernel
theorem dX1_planksAt_7 : decode cX1_planksAt 7 = .ok (.land, 1) := by decide +kernel
theorem dX1_planksAt_8 : decode cX1_planksAt 8 = .ok (.l2i, 1) := by decide +kernel
theorem dX1_planksAt_9 : decode cX1_planksAt 9 = .ok (.ireturn, 1) := by decide +kernel
theorem dX1_shipsAt_0 : decode cX1_shipsAt 0 = .ok (.iconst 0, 1) := by decide +kernel
theorem dX1_shipsAt_1 : decode cX1_shipsAt 1 = .ok (.istore_n 2, 1) := by decide +kernel
theorem dX1_shipsAt_2 : decode cX1_shipsAt 2 = .ok (.iconst 0, 1) := by decide +kernel
theorem dX1_shipsAt_3 : decode cX1_shipsAt 3 = .ok (.istore_n 3, 1) := by decide +kernel
theorem dX1_shipsAt_4 : decode cX1_shipsAt 4 = .ok (.iload_n 3, 1) := by decide +kernel
theorem dX1_shipsAt_5 : decode cX1_shipsAt 5 = .ok (.aload_n 0, 1) := by decide +kernel
theorem dX1_shipsAt_6 : decode cX1_shipsAt 6 = .ok (.getfield 15, 3) := by decide +kernel
theorem dX1_shipsAt_9 : decode cX1_shipsAt 9 = .ok (.if_icmp .ge 31, 3) := by decide +kernel
theorem dX1_shipsAt_12 : decode cX1_shipsAt 12 = .ok (.iload_n 3, 1) := by decide +kernel
theorem dX1_shipsAt_13 : decode cX1_shipsAt 13 = .ok (.bipush 8, 2) := by decide +kernel
theorem dX1_shipsAt_15 : decode cX1_shipsAt 15 = .ok (.if_icmp .ge 25, 3) := by decide +kernel
theorem dX1_shipsAt_18 : decode cX1_shipsAt 18 = .ok (.aload_n 0, 1) := by decide +kernel
theorem dX1_shipsAt_19 : decode cX1_shipsAt 19 = .ok (.getfield 9, 3) := by decide +kernel
theorem dX1_shipsAt_22 : decode cX1_shipsAt 22 = .ok (.iload_n 3, 1) := by decide +kernel
theorem dX1_shipsAt_23 : decode cX1_shipsAt 23 = .ok (.iaload, 1) := by decide +kernel
theorem dX1_shipsAt_24 : decode cX1_shipsAt 24 = .ok (.iload_n 1, 1) := by decide +kernel
theorem dX1_shipsAt_25 : decode cX1_shipsAt 25 = .ok (.if_icmp .ne 9, 3) := by decide +kernel
theorem dX1_shipsAt_28 : decode cX1_shipsAt 28 = .ok (.iload_n 2, 1) := by decide +kernel
theorem dX1_shipsAt_29 : decode cX1_shipsAt 29 = .ok (.iconst 1, 1) := by decide +kernel
theorem dX1_shipsAt_30 : decode cX1_shipsAt 30 = .ok (.iload_n 3, 1) := by decide +kernel
theorem dX1_shipsAt_31 : decode cX1_shipsAt 31 = .ok (.ishl, 1) := by decide +kernel
theorem dX1_shipsAt_32 : decode cX1_shipsAt 32 = .ok (.ior, 1) := by decide +kernel
theorem dX1_shipsAt_33 : decode cX1_shipsAt 33 = .ok (.istore_n 2, 1) := by decide +kernel
theorem dX1_shipsAt_34 : decode cX1_shipsAt 34 = .ok (.iinc 3 1, 3) := by decide +kernel
theorem dX1_shipsAt_37 : decode cX1_shipsAt 37 = .ok (.goto (-33), 3) := by decide +kernel
theorem dX1_shipsAt_40 : decode cX1_shipsAt 40 = .ok (.iload_n 2, 1) := by decide +kernel
theorem dX1_shipsAt_41 : decode cX1_shipsAt 41 = .ok (.ireturn, 1) := by decide +kernel
theorem dX1_letHourPass_0 : decode cX1_letHourPass 0 = .ok (.aload_n 0, 1) := by decide +kernel
theorem dX1_letHourPass_1 : decode cX1_letHourPass 1 = .ok (.getfield 35, 3) := by decide +kernel
theorem dX1_letHourPass_4 : decode cX1_letHourPass 4 = .ok (.iload_n 1, 1) := by decide +kernel
theorem dX1_letHourPass_5 : decode cX1_letHourPass 5 = .ok (.if_icmp .le 13, 3) := by decide +kernel
theorem dX1_letHourPass_8 : decode cX1_letHourPass 8 = .ok (.aload_n 0, 1) := by decide +kernel
theorem dX1_letHourPass_9 : decode cX1_letHourPass 9 = .ok (.dup, 1) := by decide +kernel
theorem dX1_letHourPass_10 : decode cX1_letHourPass 10 = .ok (.getfield 38, 3) := by decide +kernel
theorem dX1_letHourPass_13 : decode cX1_letHourPass 13 = .ok (.iconst 1, 1) := by decide +kernel
theorem dX1_letHourPass_14 : decode cX1_letHourPass 14 = .ok (.iadd, 1) := by decide +kernel
theorem dX1_letHourPass_15 : decode cX1_letHourPass 15 = .ok (.putfield 38, 3) := by decide +kernel
theorem dX1_letHourPass_18 : decode cX1_letHourPass 18 = .ok (.aload_n 0, 1) := by decide +kernel
theorem dX1_letHourPass_19 : decode cX1_letHourPass 19 = .ok (.iconst 0, 1) := by decide +kernel
theorem dX1_letHourPass_20 : decode cX1_letHourPass 20 = .ok (.putfield 26, 3) := by decide +kernel
theorem dX1_letHourPass_23 : decode cX1_letHourPass 23 = .ok (.aload_n 0, 1) := by decide +kernel
theorem dX1_letHourPass_24 : decode cX1_letHourPass 24 = .ok (.iconst 0, 1) := by decide +kernel
theorem dX1_letHourPass_25 : decode cX1_letHourPass 25 = .ok (.putfield 35, 3) := by decide +kernel
theorem dX1_letHourPass_28 : decode cX1_letHourPass 28 = .ok (.aload_n 0, 1) := by decide +kernel
theorem dX1_letHourPass_29 : decode cX1_letHourPass 29 = .ok (.iconst 0, 1) := by decide +kernel
theorem dX1_letHourPass_30 : decode cX1_letHourPass 30 = .ok (.putfield 19, 3) := by decide +kernel
theorem dX1_letHourPass_33 : decode cX1_letHourPass 33 = .ok (.aload_n 0, 1) := by decide +kernel
theorem dX1_letHourPass_34 : decode cX1_letHourPass 34 = .ok (.dup, 1) := by decide +kernel
theorem dX1_letHourPass_35 : decode cX1_letHourPass 35 = .ok (.getfield 32, 3) := by decide +kernel
theorem dX1_letHourPass_38 : decode cX1_letHourPass 38 = .ok (.iconst 1, 1) := by decide +kernel
theorem dX1_letHourPass_39 : decode cX1_letHourPass 39 = .ok (.iadd, 1) := by decide +kernel
theorem dX1_letHourPass_40 : decode cX1_letHourPass 40 = .ok (.putfield 32, 3) := by decide +kernel
theorem dX1_letHourPass_43 : decode cX1_letHourPass 43 = .ok (.aload_n 0, 1) := by decide +kernel
theorem dX1_letHourPass_44 : decode cX1_letHourPass 44 = .ok (.getfield 32, 3) := by decide +kernel
theorem dX1_letHourPass_47 : decode cX1_letHourPass 47 = .ok (.bipush 10, 2) := by decide +kernel
theorem dX1_letHourPass_49 : decode cX1_letHourPass 49 = .ok (.if_icmp .ne 18, 3) := by decide +kernel
theorem dX1_letHourPass_52 : decode cX1_letHourPass 52 = .ok (.aload_n 0, 1) := by decide +kernel
theorem dX1_letHourPass_53 : decode cX1_letHourPass 53 = .ok (.iconst 0, 1) := by decide +kernel
theorem dX1_letHourPass_54 : decode cX1_letHourPass 54 = .ok (.putfield 32, 3) := by decide +kernel
theorem dX1_letHourPass_57 : decode cX1_letHourPass 57 = .ok (.aload_n 0, 1) := by decide +kernel
theorem dX1_letHourPass_58 : decode cX1_letHourPass 58 = .ok (.dup, 1) := by decide +kernel
theorem dX1_letHourPass_59 : decode cX1_letHourPass 59 = .ok (.getfield 29, 3) := by decide +kernel
theorem dX1_letHourPass_62 : decode cX1_letHourPass 62 = .ok (.iconst 1, 1) := by decide +kernel
theorem dX1_letHourPass_63 : decode cX1_letHourPass 63 = .ok (.iadd, 1) := by decide +kernel
theorem dX1_letHourPass_64 : decode cX1_letHourPass 64 = .ok (.putfield 29, 3) := by decide +kernel
theorem dX1_letHourPass_67 : decode cX1_letHourPass 67 = .ok (.return_, 1) := by decide +kernel
theorem dX2_clear_0 : decode cX2_clear 0 = .ok (.aload_n 0, 1) := by decide +kernel
theorem dX2_clear_1 : decode cX2_clear 1 = .ok (.iconst 0, 1) := by decide +kernel
theorem dX2_clear_2 : decode cX2_clear 2 = .ok (.putfield 16, 3) := by decide +kernel
theorem dX2_clear_5 : decode cX2_clear 5 = .ok (.return_, 1) := by decide +kernel
theorem dX2_add_0 : decode cX2_add 0 = .ok (.aload_n 0, 1) := by decide +kernel
theorem dX2_add_1 : decode cX2_add 1 = .ok (.getfield 11, 3) := by decide +kernel
theorem dX2_add_4 : decode cX2_add 4 = .ok (.aload_n 0, 1) := by decide +kernel
theorem dX2_add_5 : decode cX2_add 5 = .ok (.invokevirtual 20, 3) := by decide +kernel
theorem dX2_add_8 : decode cX2_add 8 = .ok (.aaload, 1) := by decide +kernel
theorem dX2_add_9 : decode cX2_add 9 = .ok (.aload_n 1, 1) := by decide +kernel
theorem dX2_add_10 : decode cX2_add 10 = .ok (.invokevirtual 24, 3) := by decide +kernel
theorem dX2_add_13 : decode cX2_add 13 = .ok (.aload_n 0, 1) := by decide +kernel
theorem dX2_add_14 : decode cX2_add 14 = .ok (.getfield 16, 3) := by decide +kernel
theorem dX2_add_17 : decode cX2_add 17 = .ok (.bipush 15, 2) := by decide +kernel
theorem dX2_add_19 : decode cX2_add 19 = .ok (.if_icmp .ge 16, 3) := by decide +kernel
theorem dX2_add_22 : decode cX2_add 22 = .ok (.aload_n 0, 1) := by decide +kernel
theorem dX2_add_23 : decode cX2_add 23 = .ok (.dup, 1) := by decide +kernel
theorem dX2_add_24 : decode cX2_add 24 = .ok (.getfield 16, 3) := by decide +kernel
theorem dX2_add_27 : decode cX2_add 27 = .ok (.iconst 1, 1) := by decide +kernel
theorem dX2_add_28 : decode cX2_add 28 = .ok (.iadd, 1) := by decide +kernel
theorem dX2_add_29 : decode cX2_add 29 = .ok (.putfield 16, 3) := by decide +kernel
theorem dX2_add_32 : decode cX2_add 32 = .ok (.goto 16, 3) := by decide +kernel
theorem dX2_add_35 : decode cX2_add 35 = .ok (.aload_n 0, 1) := by decide +kernel
theorem dX2_add_36 : decode cX2_add 36 = .ok (.aload_n 0, 1) := by decide +kernel
theorem dX2_add_37 : decode cX2_add 37 = .ok (.getfield 28, 3) := by decide +kernel
theorem dX2_add_40 : decode cX2_add 40 = .ok (.iconst 1, 1) := by decide +kernel
theorem dX2_add_41 : decode cX2_add 41 = .ok (.iadd, 1) := by decide +kernel
theorem dX2_add_42 : decode cX2_add 42 = .ok (.bipush 15, 2) := by decide +kernel
theorem dX2_add_44 : decode cX2_add 44 = .ok (.irem, 1) := by decide +kernel
theorem dX2_add_45 : decode cX2_add 45 = .ok (.putfield 28, 3) := by decide +kernel
theorem dX2_add_48 : decode cX2_add 48 = .ok (.return_, 1) := by decide +kernel
theorem dX2_stepBack_0 : decode cX2_stepBack 0 = .ok (.aload_n 0, 1) := by decide +kernel
theorem dX2_stepBack_1 : decode cX2_stepBack 1 = .ok (.getfield 16, 3) := by decide +kernel
theorem dX2_stepBack_4 : decode cX2_stepBack 4 = .ok (.iconst 1, 1) := by decide +kernel
theorem dX2_stepBack_5 : decode cX2_stepBack 5 = .ok (.if_icmp .ge 5, 3) := by decide +kernel
theorem dX2_stepBack_8 : decode cX2_stepBack 8 = .ok (.iconst 0, 1) := by decide +kernel
theorem dX2_stepBack_9 : decode cX2_stepBack 9 = .ok (.ireturn, 1) := by decide +kernel
theorem dX2_stepBack_10 : decode cX2_stepBack 10 = .ok (.aload_n 0, 1) := by decide +kernel
theorem dX2_stepBack_11 : decode cX2_stepBack 11 = .ok (.dup, 1) := by decide +kernel
theorem dX2_stepBack_12 : decode cX2_stepBack 12 = .ok (.getfield 16, 3) := by decide +kernel
theorem dX2_stepBack_15 : decode cX2_stepBack 15 = .ok (.iconst 1, 1) := by decide +kernel
theorem dX2_stepBack_16 : decode cX2_stepBack 16 = .ok (.isub, 1) := by decide +kernel
theorem dX2_stepBack_17 : decode cX2_stepBack 17 = .ok (.putfield 16, 3) := by decide +kernel
theorem dX2_stepBack_20 : decode cX2_stepBack 20 = .ok (.aload_n 1, 1) := by decide +kernel
theorem dX2_stepBack_21 : decode cX2_stepBack 21 = .ok (.aload_n 0, 1) := by decide +kernel
theorem dX2_stepBack_22 : decode cX2_stepBack 22 = .ok (.getfield 11, 3) := by decide +kernel
theorem dX2_stepBack_25 : decode cX2_stepBack 25 = .ok (.aload_n 0, 1) := by decide +kernel
theorem dX2_stepBack_26 : decode cX2_stepBack 26 = .ok (.invokevirtual 20, 3) := by decide +kernel
theorem dX2_stepBack_29 : decode cX2_stepBack 29 = .ok (.aaload, 1) := by decide +kernel
theorem dX2_stepBack_30 : decode cX2_stepBack 30 = .ok (.invokevirtual 24, 3) := by decide +kernel
theorem dX2_stepBack_33 : decode cX2_stepBack 33 = .ok (.iconst 1, 1) := by decide +kernel
theorem dX2_stepBack_34 : decode cX2_stepBack 34 = .ok (.ireturn, 1) := by decide +kernel
theorem dX2_slot_0 : decode cX2_slot 0 = .ok (.aload_n 0, 1) := by decide +kernel
theorem dX2_slot_1 : decode cX2_slot 1 = .ok (.getfield 28, 3) := by decide +kernel
theorem dX2_slot_4 : decode cX2_slot 4 = .ok (.aload_n 0, 1) := by decide +kernel
theorem dX2_slot_5 : decode cX2_slot 5 = .ok (.getfield 16, 3) := by decide +kernel
theorem dX2_slot_8 : decode cX2_slot 8 = .ok (.iadd, 1) := by decide +kernel
theorem dX2_slot_9 : decode cX2_slot 9 = .ok (.bipush 15, 2) := by decide +kernel
theorem dX2_slot_11 : decode cX2_slot 11 = .ok (.invokestatic 31, 3) := by decide +kernel
theorem dX2_slot_14 : decode cX2_slot 14 = .ok (.ireturn, 1) := by decide +kernel
theorem dX3_start_0 : decode cX3_start 0 = .ok (.aload_n 0, 1) := by decide +kernel
theorem dX3_start_1 : decode cX3_start 1 = .ok (.iconst 0, 1) := by decide +kernel
theorem dX3_start_2 : decode cX3_start 2 = .ok (.putfield 15, 3) := by decide +kernel
theorem dX3_start_5 : decode cX3_start 5 = .ok (.return_, 1) := by decide +kernel
theorem dX3_turnTo_0 : decode cX3_turnTo 0 = .ok (.aload_n 0, 1) := by decide +kernel
theorem dX3_turnTo_1 : decode cX3_turnTo 1 = .ok (.iload_n 2, 1) := by decide +kernel
theorem dX3_turnTo_2 : decode cX3_turnTo 2 = .ok (.putfield 19, 3) := by decide +kernel
theorem dX3_turnTo_5 : decode cX3_turnTo 5 = .ok (.iload_n 1, 1) := by decide +kernel
theorem dX3_turnTo_6 : decode cX3_turnTo 6 = .ok (.ifCond .lt 9, 3) := by decide +kernel
theorem dX3_turnTo_9 : decode cX3_turnTo 9 = .ok (.iload_n 1, 1) := by decide +kernel
theorem dX3_turnTo_10 : decode cX3_turnTo 10 = .ok (.bipush 10, 2) := by decide +kernel
theorem dX3_turnTo_12 : decode cX3_turnTo 12 = .ok (.if_icmp .lt 4, 3) := by decide +kernel
theorem dX3_turnTo_15 : decode cX3_turnTo 15 = .ok (.return_, 1) := by decide +kernel
theorem dX3_turnTo_16 : decode cX3_turnTo 16 = .ok (.aload_n 0, 1) := by decide +kernel
theorem dX3_turnTo_17 : decode cX3_turnTo 17 = .ok (.iload_n 1, 1) := by decide +kernel
theorem dX3_turnTo_18 : decode cX3_turnTo 18 = .ok (.bipush 38, 2) := by decide +kernel
theorem dX3_turnTo_20 : decode cX3_turnTo 20 = .ok (.imul, 1) := by decide +kernel
theorem dX3_turnTo_21 : decode cX3_turnTo 21 = .ok (.putfield 22, 3) := by decide +kernel
theorem dX3_turnTo_24 : decode cX3_turnTo 24 = .ok (.aload_n 0, 1) := by decide +kernel
theorem dX3_turnTo_25 : decode cX3_turnTo 25 = .ok (.getfield 15, 3) := by decide +kernel
theorem dX3_turnTo_28 : decode cX3_turnTo 28 = .ok (.iload_n 1, 1) := by decide +kernel
theorem dX3_turnTo_29 : decode cX3_turnTo 29 = .ok (.iushr, 1) := by decide +kernel
theorem dX3_turnTo_30 : decode cX3_turnTo 30 = .ok (.iconst 1, 1) := by decide +kernel
theorem dX3_turnTo_31 : decode cX3_turnTo 31 = .ok (.iand, 1) := by decide +kernel
theorem dX3_turnTo_32 : decode cX3_turnTo 32 = .ok (.ifCond .ne 61, 3) := by decide +kernel
theorem dX3_turnTo_35 : decode cX3_turnTo 35 = .ok (.aload_n 0, 1) := by decide +kernel
theorem dX3_turnTo_36 : decode cX3_turnTo 36 = .ok (.dup, 1) := by decide +kernel
theorem dX3_turnTo_37 : decode cX3_turnTo 37 = .ok (.getfield 15, 3) := by decide +kernel
theorem dX3_turnTo_40 : decode cX3_turnTo 40 = .ok (.iconst 1, 1) := by decide +kernel
theorem dX3_turnTo_41 : decode cX3_turnTo 41 = .ok (.iload_n 1, 1) := by decide +kernel
theorem dX3_turnTo_42 : decode cX3_turnTo 42 = .ok (.ishl, 1) := by decide +kernel
theorem dX3_turnTo_43 : decode cX3_turnTo 43 = .ok (.ior, 1) := by decide +kernel
theorem dX3_turnTo_44 : decode cX3_turnTo 44 = .ok (.putfield 15, 3) := by decide +kernel
theorem dX3_turnTo_47 : decode cX3_turnTo 47 = .ok (.iconst 0, 1) := by decide +kernel
theorem dX3_turnTo_48 : decode cX3_turnTo 48 = .ok (.istore 5, 2) := by decide +kernel
theorem dX3_turnTo_50 : decode cX3_turnTo 50 = .ok (.iload 5, 2) := by decide +kernel
theorem dX3_turnTo_52 : decode cX3_turnTo 52 = .ok (.bipush 38, 2) := by decide +kernel
theorem dX3_turnTo_54 : decode cX3_turnTo 54 = .ok (.if_icmp .ge 39, 3) := by decide +kernel
theorem dX3_turnTo_57 : decode cX3_turnTo 57 = .ok (.aload_n 0, 1) := by decide +kernel
theorem dX3_turnTo_58 : decode cX3_turnTo 58 = .ok (.getfield 11, 3) := by decide +kernel
theorem dX3_turnTo_61 : decode cX3_turnTo 61 = .ok (.aload_n 0, 1) := by decide +kernel
theorem dX3_turnTo_62 : decode cX3_turnTo 62 = .ok (.getfield 22, 3) := by decide +kernel
theorem dX3_turnTo_65 : decode cX3_turnTo 65 = .ok (.iload 5, 2) := by decide +kernel
theorem dX3_turnTo_67 : decode cX3_turnTo 67 = .ok (.iadd, 1) := by decide +kernel
theorem dX3_turnTo_68 : decode cX3_turnTo 68 = .ok (.aload_n 3, 1) := by decide +kernel
theorem dX3_turnTo_69 : decode cX3_turnTo 69 = .ok (.iload 4, 2) := by decide +kernel
theorem dX3_turnTo_71 : decode cX3_turnTo 71 = .ok (.iload 5, 2) := by decide +kernel
theorem dX3_turnTo_73 : decode cX3_turnTo 73 = .ok (.iconst 2, 1) := by decide +kernel
theorem dX3_turnTo_74 : decode cX3_turnTo 74 = .ok (.idiv, 1) := by decide +kernel
theorem dX3_turnTo_75 : decode cX3_turnTo 75 = .ok (.bipush 9, 2) := by decide +kernel
theorem dX3_turnTo_77 : decode cX3_turnTo 77 = .ok (.isub, 1) := by decide +kernel
theorem dX3_turnTo_78 : decode cX3_turnTo 78 = .ok (.iload 5, 2) := by decide +kernel
theorem dX3_turnTo_80 : decode cX3_turnTo 80 = .ok (.iconst 2, 1) := by decide +kernel
theorem dX3_turnTo_81 : decode cX3_turnTo 81 = .ok (.irem, 1) := by decide +kernel
theorem dX3_turnTo_82 : decode cX3_turnTo 82 = .ok (.iload_n 1, 1) := by decide +kernel
theorem dX3_turnTo_83 : decode cX3_turnTo 83 = .ok (.invokevirtual 25, 3) := by decide +kernel
theorem dX3_turnTo_86 : decode cX3_turnTo 86 = .ok (.iastore, 1) := by decide +kernel
theorem dX3_turnTo_87 : decode cX3_turnTo 87 = .ok (.iinc 5 1, 3) := by decide +kernel
theorem dX3_turnTo_90 : decode cX3_turnTo 90 = .ok (.goto (-40), 3) := by decide +kernel
theorem dX3_turnTo_93 : decode cX3_turnTo 93 = .ok (.return_, 1) := by decide +kernel
theorem dX3_of_0 : decode cX3_of 0 = .ok (.iload_n 1, 1) := by decide +kernel
theorem dX3_of_1 : decode cX3_of 1 = .ok (.bipush 9, 2) := by decide +kernel
theorem dX3_of_3 : decode cX3_of 3 = .ok (.iadd, 1) := by decide +kernel
theorem dX3_of_4 : decode cX3_of 4 = .ok (.iconst 2, 1) := by decide +kernel
theorem dX3_of_5 : decode cX3_of 5 = .ok (.imul, 1) := by decide +kernel
theorem dX3_of_6 : decode cX3_of 6 = .ok (.iload_n 2, 1) := by decide +kernel
theorem dX3_of_7 : decode cX3_of 7 = .ok (.iadd, 1) := by decide +kernel
theorem dX3_of_8 : decode cX3_of 8 = .ok (.istore_n 3, 1) := by decide +kernel
theorem dX3_of_9 : decode cX3_of 9 = .ok (.iload_n 3, 1) := by decide +kernel
theorem dX3_of_10 : decode cX3_of 10 = .ok (.ifCond .lt 30, 3) := by decide +kernel
theorem dX3_of_13 : decode cX3_of 13 = .ok (.iload_n 3, 1) := by decide +kernel
theorem dX3_of_14 : decode cX3_of 14 = .ok (.bipush 38, 2) := by decide +kernel
theorem dX3_of_16 : decode cX3_of 16 = .ok (.if_icmp .ge 24, 3) := by decide +kernel
theorem dX3_of_19 : decode cX3_of 19 = .ok (.aload_n 0, 1) := by decide +kernel
theorem dX3_of_20 : decode cX3_of 20 = .ok (.getfield 11, 3) := by decide +kernel
theorem dX3_of_23 : decode cX3_of 23 = .ok (.aload_n 0, 1) := by decide +kernel
theorem dX3_of_24 : decode cX3_of 24 = .ok (.getfield 22, 3) := by decide +kernel
theorem dX3_of_27 : decode cX3_of 27 = .ok (.iload_n 3, 1) := by decide +kernel
theorem dX3_of_28 : decode cX3_of 28 = .ok (.iadd, 1) := by decide +kernel
theorem dX3_of_29 : decode cX3_of 29 = .ok (.iaload, 1) := by decide +kernel
theorem dX3_of_30 : decode cX3_of 30 = .ok (.aload_n 0, 1) := by decide +kernel
theorem dX3_of_31 : decode cX3_of 31 = .ok (.getfield 19, 3) := by decide +kernel
theorem dX3_of_34 : decode cX3_of 34 = .ok (.invokestatic 31, 3) := by decide +kernel
theorem dX3_of_37 : decode cX3_of 37 = .ok (.goto 6, 3) := by decide +kernel
theorem dX3_of_40 : decode cX3_of 40 = .ok (.sipush 1498, 3) := by decide +kernel
theorem dX3_of_43 : decode cX3_of 43 = .ok (.ireturn, 1) := by decide +kernel
theorem dX4_clear_0 : decode cX4_clear 0 = .ok (.aload_n 0, 1) := by decide +kernel
theorem dX4_clear_1 : decode cX4_clear 1 = .ok (.iconst 0, 1) := by decide +kernel
theorem dX4_clear_2 : decode cX4_clear 2 = .ok (.putfield 15, 3) := by decide +kernel
theorem dX4_clear_5 : decode cX4_clear 5 = .ok (.return_, 1) := by decide +kernel
theorem dX4_add_0 : decode cX4_add 0 = .ok (.aload_n 0, 1) := by decide +kernel
theorem dX4_add_1 : decode cX4_add 1 = .ok (.getfield 15, 3) := by decide +kernel
theorem dX4_add_4 : decode cX4_add 4 = .ok (.ifCond .lt 32, 3) := by decide +kernel
theorem dX4_add_7 : decode cX4_add 7 = .ok (.aload_n 0, 1) := by decide +kernel
theorem dX4_add_8 : decode cX4_add 8 = .ok (.getfield 15, 3) := by decide +kernel
theorem dX4_add_11 : decode cX4_add 11 = .ok (.bipush 36, 2) := by decide +kernel
theorem dX4_add_13 : decode cX4_add 13 = .ok (.if_icmp .ge 23, 3) := by decide +kernel
theorem dX4_add_16 : decode cX4_add 16 = .ok (.aload_n 0, 1) := by decide +kernel
theorem dX4_add_17 : decode cX4_add 17 = .ok (.getfield 9, 3) := by decide +kernel
theorem dX4_add_20 : decode cX4_add 20 = .ok (.aload_n 0, 1) := by decide +kernel
theorem dX4_add_21 : decode cX4_add 21 = .ok (.getfield 15, 3) := by decide +kernel
theorem dX4_add_24 : decode cX4_add 24 = .ok (.lload_n 1, 1) := by decide +kernel
theorem dX4_add_25 : decode cX4_add 25 = .ok (.lastore, 1) := by decide +kernel
theorem dX4_add_26 : decode cX4_add 26 = .ok (.aload_n 0, 1) := by decide +kernel
theorem dX4_add_27 : decode cX4_add 27 = .ok (.dup, 1) := by decide +kernel
theorem dX4_add_28 : decode cX4_add 28 = .ok (.getfield 15, 3) := by decide +kernel
theorem dX4_add_31 : decode cX4_add 31 = .ok (.iconst 1, 1) := by decide +kernel
theorem dX4_add_32 : decode cX4_add 32 = .ok (.iadd, 1) := by decide +kernel
theorem dX4_add_33 : decode cX4_add 33 = .ok (.putfield 15, 3) := by decide +kernel
theorem dX4_add_36 : decode cX4_add 36 = .ok (.return_, 1) := by decide +kernel
theorem dX4_only_0 : decode cX4_only 0 = .ok (.aload_n 0, 1) := by decide +kernel
theorem dX4_only_1 : decode cX4_only 1 = .ok (.invokevirtual 19, 3) := by decide +kernel
theorem dX4_only_4 : decode cX4_only 4 = .ok (.aload_n 0, 1) := by decide +kernel
theorem dX4_only_5 : decode cX4_only 5 = .ok (.lload_n 1, 1) := by decide +kernel
theorem dX4_only_6 : decode cX4_only 6 = .ok (.invokevirtual 22, 3) := by decide +kernel
theorem dX4_only_9 : decode cX4_only 9 = .ok (.return_, 1) := by decide +kernel
theorem dX4_both_0 : decode cX4_both 0 = .ok (.aload_n 0, 1) := by decide +kernel
theorem dX4_both_1 : decode cX4_both 1 = .ok (.invokevirtual 19, 3) := by decide +kernel
theorem dX4_both_4 : decode cX4_both 4 = .ok (.aload_n 0, 1) := by decide +kernel
theorem dX4_both_5 : decode cX4_both 5 = .ok (.lload_n 1, 1) := by decide +kernel
theorem dX4_both_6 : decode cX4_both 6 = .ok (.invokevirtual 22, 3) := by decide +kernel
theorem dX4_both_9 : decode cX4_both 9 = .ok (.aload_n 0, 1) := by decide +kernel
theorem dX4_both_10 : decode cX4_both 10 = .ok (.lload_n 3, 1) := by decide +kernel
theorem dX4_both_11 : decode cX4_both 11 = .ok (.invokevirtual 22, 3) := by decide +kernel
theorem dX4_both_14 : decode cX4_both 14 = .ok (.return_, 1) := by decide +kernel
theorem dX4_has_0 : decode cX4_has 0 = .ok (.iload_n 1, 1) := by decide +kernel
theorem dX4_has_1 : decode cX4_has 1 = .ok (.ifCond .lt 21, 3) := by decide +kernel
theorem dX4_has_4 : decode cX4_has 4 = .ok (.iload_n 1, 1) := by decide +kernel
theorem dX4_has_5 : decode cX4_has 5 = .ok (.aload_n 0, 1) := by decide +kernel
theorem dX4_has_6 : decode cX4_has 6 = .ok (.getfield 15, 3) := by decide +kernel
theorem dX4_has_9 : decode cX4_has 9 = .ok (.if_icmp .ge 13, 3) := by decide +kernel
theorem dX4_has_12 : decode cX4_has 12 = .ok (.iload_n 1, 1) := by decide +kernel
theorem dX4_has_13 : decode cX4_has 13 = .ok (.bipush 36, 2) := by decide +kernel
theorem dX4_has_15 : decode cX4_has 15 = .ok (.if_icmp .ge 7, 3) := by decide +kernel
theorem dX4_has_18 : decode cX4_has 18 = .ok (.iconst 1, 1) := by decide +kernel
theorem dX4_has_19 : decode cX4_has 19 = .ok (.goto 4, 3) := by decide +kernel
theorem dX4_has_22 : decode cX4_has 22 = .ok (.iconst 0, 1) := by decide +kernel
theorem dX4_has_23 : decode cX4_has 23 = .ok (.ireturn, 1) := by decide +kernel
theorem dX4_at_0 : decode cX4_at 0 = .ok (.aload_n 0, 1) := by decide +kernel
theorem dX4_at_1 : decode cX4_at 1 = .ok (.iload_n 1, 1) := by decide +kernel
theorem dX4_at_2 : decode cX4_at 2 = .ok (.invokevirtual 26, 3) := by decide +kernel
theorem dX4_at_5 : decode cX4_at 5 = .ok (.ifCond .eq 12, 3) := by decide +kernel
theorem dX4_at_8 : decode cX4_at 8 = .ok (.aload_n 0, 1) := by decide +kernel
theorem dX4_at_9 : decode cX4_at 9 = .ok (.getfield 9, 3) := by decide +kernel
theorem dX4_at_12 : decode cX4_at 12 = .ok (.iload_n 1, 1) := by decide +kernel
theorem dX4_at_13 : decode cX4_at 13 = .ok (.laload, 1) := by decide +kernel
theorem dX4_at_14 : decode cX4_at 14 = .ok (.goto 4, 3) := by decide +kernel
theorem dX4_at_17 : decode cX4_at 17 = .ok (.lconst 0, 1) := by decide +kernel
theorem dX4_at_18 : decode cX4_at 18 = .ok (.lreturn, 1) := by decide +kernel
theorem dX5_copy_0 : decode cX5_copy 0 = .ok (.aload_n 1, 1) := by decide +kernel
theorem dX5_copy_1 : decode cX5_copy 1 = .ok (.getfield 11, 3) := by decide +kernel
theorem dX5_copy_4 : decode cX5_copy 4 = .ok (.iconst 0, 1) := by decide +kernel
theorem dX5_copy_5 : decode cX5_copy 5 = .ok (.aload_n 0, 1) := by decide +kernel
theorem dX5_copy_6 : decode cX5_copy 6 = .ok (.getfield 11, 3) := by decide +kernel
theorem dX5_copy_9 : decode cX5_copy 9 = .ok (.iconst 0, 1) := by decide +kernel
theorem dX5_copy_10 : decode cX5_copy 10 = .ok (.bipush 40, 2) := by decide +kernel
theorem dX5_copy_12 : decode cX5_copy 12 = .ok (.invokestatic 18, 3) := by decide +kernel
theorem dX5_copy_15 : decode cX5_copy 15 = .ok (.aload_n 0, 1) := by decide +kernel
theorem dX5_copy_16 : decode cX5_copy 16 = .ok (.aload_n 1, 1) := by decide +kernel
theorem dX5_copy_17 : decode cX5_copy 17 = .ok (.getfield 24, 3) := by decide +kernel
theorem dX5_copy_20 : decode cX5_copy 20 = .ok (.putfield 24, 3) := by decide +kernel
theorem dX5_copy_23 : decode cX5_copy 23 = .ok (.return_, 1) := by decide +kernel
theorem dX5_read_0 : decode cX5_read 0 = .ok (.aload_n 0, 1) := by decide +kernel
theorem dX5_read_1 : decode cX5_read 1 = .ok (.iconst 0, 1) := by decide +kernel
theorem dX5_read_2 : decode cX5_read 2 = .ok (.putfield 24, 3) := by decide +kernel
theorem dX5_read_5 : decode cX5_read 5 = .ok (.aload_n 1, 1) := by decide +kernel
theorem dX5_read_6 : decode cX5_read 6 = .ok (.bipush 40, 2) := by decide +kernel
theorem dX5_read_8 : decode cX5_read 8 = .ok (.invokevirtual 28, 3) := by decide +kernel
theorem dX5_read_11 : decode cX5_read 11 = .ok (.aload_n 1, 1) := by decide +kernel
theorem dX5_read_12 : decode cX5_read 12 = .ok (.invokevirtual 34, 3) := by decide +kernel
theorem dX5_read_15 : decode cX5_read 15 = .ok (.ifCond .ne 20, 3) := by decide +kernel
theorem dX5_read_18 : decode cX5_read 18 = .ok (.aload_n 0, 1) := by decide +kernel
theorem dX5_read_19 : decode cX5_read 19 = .ok (.aload_n 1, 1) := by decide +kernel
theorem dX5_read_20 : decode cX5_read 20 = .ok (.iconst 0, 1) := by decide +kernel
theorem dX5_read_21 : decode cX5_read 21 = .ok (.iconst 0, 1) := by decide +kernel
theorem dX5_read_22 : decode cX5_read 22 = .ok (.invokevirtual 38, 3) := by decide +kernel
theorem dX5_read_25 : decode cX5_read 25 = .ok (.ifCond .eq 14, 3) := by decide +kernel
theorem dX5_read_28 : decode cX5_read 28 = .ok (.aload_n 1, 1) := by decide +kernel
theorem dX5_read_29 : decode cX5_read 29 = .ok (.invokevirtual 34, 3) := by decide +kernel
theorem dX5_read_32 : decode cX5_read 32 = .ok (.ifCond .eq 7, 3) := by decide +kernel
theorem dX5_read_35 : decode cX5_read 35 = .ok (.iconst 1, 1) := by decide +kernel
theorem dX5_read_36 : decode cX5_read 36 = .ok (.goto 4, 3) := by decide +kernel
theorem dX5_read_39 : decode cX5_read 39 = .ok (.iconst 0, 1) := by decide +kernel
theorem dX5_read_40 : decode cX5_read 40 = .ok (.ireturn, 1) := by decide +kernel
theorem dX5_readJoined_0 : decode cX5_readJoined 0 = .ok (.iload_n 2, 1) := by decide +kernel
theorem dX5_readJoined_1 : decode cX5_readJoined 1 = .ok (.iconst 2, 1) := by decide +kernel
theorem dX5_readJoined_2 : decode cX5_readJoined 2 = .ok (.if_icmp .le 10, 3) := by decide +kernel
theorem dX5_readJoined_5 : decode cX5_readJoined 5 = .ok (.aload_n 0, 1) := by decide +kernel
theorem dX5_readJoined_6 : decode cX5_readJoined 6 = .ok (.aload_n 1, 1) := by decide +kernel
theorem dX5_readJoined_7 : decode cX5_readJoined 7 = .ok (.iload_n 3, 1) := by decide +kernel
theorem dX5_readJoined_8 : decode cX5_readJoined 8 = .ok (.invokevirtual 42, 3) := by decide +kernel
theorem dX5_readJoined_11 : decode cX5_readJoined 11 = .ok (.ireturn, 1) := by decide +kernel
theorem dX5_readJoined_12 : decode cX5_readJoined 12 = .ok (.aload_n 0, 1) := by decide +kernel
theorem dX5_readJoined_13 : decode cX5_readJoined 13 = .ok (.aload_n 1, 1) := by decide +kernel
theorem dX5_readJoined_14 : decode cX5_readJoined 14 = .ok (.iload_n 2, 1) := by decide +kernel
theorem dX5_readJoined_15 : decode cX5_readJoined 15 = .ok (.iconst 1, 1) := by decide +kernel
theorem dX5_readJoined_16 : decode cX5_readJoined 16 = .ok (.iadd, 1) := by decide +kernel
theorem dX5_readJoined_17 : decode cX5_readJoined 17 = .ok (.iload_n 3, 1) := by decide +kernel
theorem dX5_readJoined_18 : decode cX5_readJoined 18 = .ok (.invokevirtual 38, 3) := by decide +kernel
theorem dX5_readJoined_21 : decode cX5_readJoined 21 = .ok (.ifCond .ne 5, 3) := by decide +kernel
theorem dX5_readJoined_24 : decode cX5_readJoined 24 = .ok (.iconst 0, 1) := by decide +kernel
theorem dX5_readJoined_25 : decode cX5_readJoined 25 = .ok (.ireturn, 1) := by decide +kernel
theorem dX5_readJoined_26 : decode cX5_readJoined 26 = .ok (.iload_n 2, 1) := by decide +kernel
theorem dX5_readJoined_27 : decode cX5_readJoined 27 = .ok (.ifCond .ne 7, 3) := by decide +kernel
theorem dX5_readJoined_30 : decode cX5_readJoined 30 = .ok (.iconst 1, 1) := by decide +kernel
theorem dX5_readJoined_31 : decode cX5_readJoined 31 = .ok (.goto 5, 3) := by decide +kernel
theorem dX5_readJoined_34 : decode cX5_readJoined 34 = .ok (.bipush 40, 2) := by decide +kernel
theorem dX5_readJoined_36 : decode cX5_readJoined 36 = .ok (.istore 4, 2) := by decide +kernel
theorem dX5_readJoined_38 : decode cX5_readJoined 38 = .ok (.iconst 0, 1) := by decide +kernel
theorem dX5_readJoined_39 : decode cX5_readJoined 39 = .ok (.istore 5, 2) := by decide +kernel
theorem dX5_readJoined_41 : decode cX5_readJoined 41 = .ok (.iload 5, 2) := by decide +kernel
theorem dX5_readJoined_43 : decode cX5_readJoined 43 = .ok (.iload 4, 2) := by decide +kernel
theorem dX5_readJoined_45 : decode cX5_readJoined 45 = .ok (.if_icmp .ge 57, 3) := by decide +kernel
theorem dX5_readJoined_48 : decode cX5_readJoined 48 = .ok (.aload_n 1, 1) := by decide +kernel
theorem dX5_readJoined_49 : decode cX5_readJoined 49 = .ok (.invokevirtual 46, 3) := by decide +kernel
theorem dX5_readJoined_52 : decode cX5_readJoined 52 = .ok (.invokestatic 50, 3) := by decide +kernel
theorem dX5_readJoined_55 : decode cX5_readJoined 55 = .ok (.iload_n 2, 1) := by decide +kernel
theorem dX5_readJoined_56 : decode cX5_readJoined 56 = .ok (.if_icmp .ne 46, 3) := by decide +kernel
theorem dX5_readJoined_59 : decode cX5_readJoined 59 = .ok (.aload_n 1, 1) := by decide +kernel
theorem dX5_readJoined_60 : decode cX5_readJoined 60 = .ok (.invokevirtual 46, 3) := by decide +kernel
theorem dX5_readJoined_63 : decode cX5_readJoined 63 = .ok (.istore 6, 2) := by decide +kernel
theorem dX5_readJoined_65 : decode cX5_readJoined 65 = .ok (.aload_n 1, 1) := by decide +kernel
theorem dX5_readJoined_66 : decode cX5_readJoined 66 = .ok (.invokevirtual 54, 3) := by decide +kernel
theorem dX5_readJoined_69 : decode cX5_readJoined 69 = .ok (.aload_n 0, 1) := by decide +kernel
theorem dX5_readJoined_70 : decode cX5_readJoined 70 = .ok (.aload_n 1, 1) := by decide +kernel
theorem dX5_readJoined_71 : decode cX5_readJoined 71 = .ok (.iload_n 2, 1) := by decide +kernel
theorem dX5_readJoined_72 : decode cX5_readJoined 72 = .ok (.iconst 1, 1) := by decide +kernel
theorem dX5_readJoined_73 : decode cX5_readJoined 73 = .ok (.iadd, 1) := by decide +kernel
theorem dX5_readJoined_74 : decode cX5_readJoined 74 = .ok (.iload_n 3, 1) := by decide +kernel
theorem dX5_readJoined_75 : decode cX5_readJoined 75 = .ok (.invokevirtual 38, 3) := by decide +kernel
theorem dX5_readJoined_78 : decode cX5_readJoined 78 = .ok (.ifCond .eq 16, 3) := by decide +kernel
theorem dX5_readJoined_81 : decode cX5_readJoined 81 = .ok (.aload_n 0, 1) := by decide +kernel
theorem dX5_readJoined_82 : decode cX5_readJoined 82 = .ok (.sipush 1000, 3) := by decide +kernel
theorem dX5_readJoined_85 : decode cX5_readJoined 85 = .ok (.iload 6, 2) := by decide +kernel
theorem dX5_readJoined_87 : decode cX5_readJoined 87 = .ok (.iadd, 1) := by decide +kernel
theorem dX5_readJoined_88 : decode cX5_readJoined 88 = .ok (.invokevirtual 57, 3) := by decide +kernel
theorem dX5_readJoined_91 : decode cX5_readJoined 91 = .ok (.ifCond .ne 5, 3) := by decide +kernel
theorem dX5_readJoined_94 : decode cX5_readJoined 94 = .ok (.iconst 0, 1) := by decide +kernel
theorem dX5_readJoined_95 : decode cX5_readJoined 95 = .ok (.ireturn, 1) := by decide +kernel
theorem dX5_readJoined_96 : decode cX5_readJoined 96 = .ok (.iinc 5 1, 3) := by decide +kernel
theorem dX5_readJoined_99 : decode cX5_readJoined 99 = .ok (.goto (-58), 3) := by decide +kernel
theorem dX5_readJoined_102 : decode cX5_readJoined 102 = .ok (.iconst 1, 1) := by decide +kernel
theorem dX5_readJoined_103 : decode cX5_readJoined 103 = .ok (.ireturn, 1) := by decide +kernel
theorem dX5_levelOf_0 : decode cX5_levelOf 0 = .ok (.iload_n 0, 1) := by decide +kernel
theorem dX5_levelOf_1 : decode cX5_levelOf 1 = .ok (.tableswitch 105 42 62 #[103, 101, 105, 101, 105, 103, 105, 105, 105, 105, 105, 105, 105, 105, 105, 105, 105, 105, 99, 99, 99], 99) := by decide +kernel
theorem dX5_levelOf_100 : decode cX5_levelOf 100 = .ok (.iconst 0, 1) := by decide +kernel
theorem dX5_levelOf_101 : decode cX5_levelOf 101 = .ok (.ireturn, 1) := by decide +kernel
theorem dX5_levelOf_102 : decode cX5_levelOf 102 = .ok (.iconst 1, 1) := by decide +kernel
theorem dX5_levelOf_103 : decode cX5_levelOf 103 = .ok (.ireturn, 1) := by decide +kernel
theorem dX5_levelOf_104 : decode cX5_levelOf 104 = .ok (.iconst 2, 1) := by decide +kernel
theorem dX5_levelOf_105 : decode cX5_levelOf 105 = .ok (.ireturn, 1) := by decide +kernel
theorem dX5_levelOf_106 : decode cX5_levelOf 106 = .ok (.iconst (-1), 1) := by decide +kernel
theorem dX5_levelOf_107 : decode cX5_levelOf 107 = .ok (.ireturn, 1) := by decide +kernel
theorem dX5_readFactor_0 : decode cX5_readFactor 0 = .ok (.iconst 0, 1) := by decide +kernel
theorem dX5_readFactor_1 : decode cX5_readFactor 1 = .ok (.istore_n 3, 1) := by decide +kernel
theorem dX5_readFactor_2 : decode cX5_readFactor 2 = .ok (.iconst 0, 1) := by decide +kernel
theorem dX5_readFactor_3 : decode cX5_readFactor 3 = .ok (.istore 4, 2) := by decide +kernel
theorem dX5_readFactor_5 : decode cX5_readFactor 5 = .ok (.iload 4, 2) := by decide +kernel
theorem dX5_readFactor_7 : decode cX5_readFactor 7 = .ok (.bipush 40, 2) := by decide +kernel
theorem dX5_readFactor_9 : decode cX5_readFactor 9 = .ok (.if_icmp .ge 28, 3) := by decide +kernel
theorem dX5_readFactor_12 : decode cX5_readFactor 12 = .ok (.aload_n 1, 1) := by decide +kernel
theorem dX5_readFactor_13 : decode cX5_readFactor 13 = .ok (.bipush 45, 2) := by decide +kernel
theorem dX5_readFactor_15 : decode cX5_readFactor 15 = .ok (.invokevirtual 61, 3) := by decide +kernel
theorem dX5_readFactor_18 : decode cX5_readFactor 18 = .ok (.ifCond .eq 19, 3) := by decide +kernel
theorem dX5_readFactor_21 : decode cX5_readFactor 21 = .ok (.iload_n 3, 1) := by decide +kernel
theorem dX5_readFactor_22 : decode cX5_readFactor 22 = .ok (.ifCond .ne 7, 3) := by decide +kernel
theorem dX5_readFactor_25 : decode cX5_readFactor 25 = .ok (.iconst 1, 1) := by decide +kernel
theorem dX5_readFactor_26 : decode cX5_readFactor 26 = .ok (.goto 4, 3) := by decide +kernel
theorem dX5_readFactor_29 : decode cX5_readFactor 29 = .ok (.iconst 0, 1) := by decide +kernel
theorem dX5_readFactor_30 : decode cX5_readFactor 30 = .ok (.istore_n 3, 1) := by decide +kernel
theorem dX5_readFactor_31 : decode cX5_readFactor 31 = .ok (.iinc 4 1, 3) := by decide +kernel
theorem dX5_readFactor_34 : decode cX5_readFactor 34 = .ok (.goto (-29), 3) := by decide +kernel
theorem dX5_readFactor_37 : decode cX5_readFactor 37 = .ok (.aload_n 0, 1) := by decide +kernel
theorem dX5_readFactor_38 : decode cX5_readFactor 38 = .ok (.aload_n 1, 1) := by decide +kernel
theorem dX5_readFactor_39 : decode cX5_readFactor 39 = .ok (.iload_n 2, 1) := by decide +kernel
theorem dX5_readFactor_40 : decode cX5_readFactor 40 = .ok (.invokevirtual 65, 3) := by decide +kernel
theorem dX5_readFactor_43 : decode cX5_readFactor 43 = .ok (.ifCond .eq 21, 3) := by decide +kernel
theorem dX5_readFactor_46 : decode cX5_readFactor 46 = .ok (.iload_n 3, 1) := by decide +kernel
theorem dX5_readFactor_47 : decode cX5_readFactor 47 = .ok (.ifCond .eq 13, 3) := by decide +kernel
theorem dX5_readFactor_50 : decode cX5_readFactor 50 = .ok (.aload_n 0, 1) := by decide +kernel
theorem dX5_readFactor_51 : decode cX5_readFactor 51 = .ok (.sipush 1126, 3) := by decide +kernel
theorem dX5_readFactor_54 : decode cX5_readFactor 54 = .ok (.invokevirtual 57, 3) := by decide +kernel
theorem dX5_readFactor_57 : decode cX5_readFactor 57 = .ok (.ifCond .eq 7, 3) := by decide +kernel
theorem dX5_readFactor_60 : decode cX5_readFactor 60 = .ok (.iconst 1, 1) := by decide +kernel
theorem dX5_readFactor_61 : decode cX5_readFactor 61 = .ok (.goto 4, 3) := by decide +kernel
theorem dX5_readFactor_64 : decode cX5_readFactor 64 = .ok (.iconst 0, 1) := by decide +kernel
theorem dX5_readFactor_65 : decode cX5_readFactor 65 = .ok (.ireturn, 1) := by decide +kernel
theorem dX5_readThing_0 : decode cX5_readThing 0 = .ok (.aload_n 1, 1) := by decide +kernel
theorem dX5_readThing_1 : decode cX5_readThing 1 = .ok (.invokevirtual 46, 3) := by decide +kernel
theorem dX5_readThing_4 : decode cX5_readThing 4 = .ok (.istore_n 3, 1) := by decide +kernel
theorem dX5_readThing_5 : decode cX5_readThing 5 = .ok (.iload_n 3, 1) := by decide +kernel
theorem dX5_readThing_6 : decode cX5_readThing 6 = .ok (.bipush 40, 2) := by decide +kernel
theorem dX5_readThing_8 : decode cX5_readThing 8 = .ok (.if_icmp .ne 41, 3) := by decide +kernel
theorem dX5_readThing_11 : decode cX5_readThing 11 = .ok (.iload_n 2, 1) := by decide +kernel
theorem dX5_readThing_12 : decode cX5_readThing 12 = .ok (.iconst 4, 1) := by decide +kernel
theorem dX5_readThing_13 : decode cX5_readThing 13 = .ok (.if_icmp .lt 5, 3) := by decide +kernel
theorem dX5_readThing_16 : decode cX5_readThing 16 = .ok (.iconst 0, 1) := by decide +kernel
theorem dX5_readThing_17 : decode cX5_readThing 17 = .ok (.ireturn, 1) := by decide +kernel
theorem dX5_readThing_18 : decode cX5_readThing 18 = .ok (.aload_n 1, 1) := by decide +kernel
theorem dX5_readThing_19 : decode cX5_readThing 19 = .ok (.invokevirtual 54, 3) := by decide +kernel
theorem dX5_readThing_22 : decode cX5_readThing 22 = .ok (.aload_n 0, 1) := by decide +kernel
theorem dX5_readThing_23 : decode cX5_readThing 23 = .ok (.aload_n 1, 1) := by decide +kernel
theorem dX5_readThing_24 : decode cX5_readThing 24 = .ok (.iconst 0, 1) := by decide +kernel
theorem dX5_readThing_25 : decode cX5_readThing 25 = .ok (.iload_n 2, 1) := by decide +kernel
theorem dX5_readThing_26 : decode cX5_readThing 26 = .ok (.iconst 1, 1) := by decide +kernel
theorem dX5_readThing_27 : decode cX5_readThing 27 = .ok (.iadd, 1) := by decide +kernel
theorem dX5_readThing_28 : decode cX5_readThing 28 = .ok (.invokevirtual 38, 3) := by decide +kernel
theorem dX5_readThing_31 : decode cX5_readThing 31 = .ok (.ifCond .eq 16, 3) := by decide +kernel
theorem dX5_readThing_34 : decode cX5_readThing 34 = .ok (.aload_n 1, 1) := by decide +kernel
theorem dX5_readThing_35 : decode cX5_readThing 35 = .ok (.bipush 41, 2) := by decide +kernel
theorem dX5_readThing_37 : decode cX5_readThing 37 = .ok (.invokevirtual 61, 3) := by decide +kernel
theorem dX5_readThing_40 : decode cX5_readThing 40 = .ok (.ifCond .eq 7, 3) := by decide +kernel
theorem dX5_readThing_43 : decode cX5_readThing 43 = .ok (.iconst 1, 1) := by decide +kernel
theorem dX5_readThing_44 : decode cX5_readThing 44 = .ok (.goto 4, 3) := by decide +kernel
theorem dX5_readThing_47 : decode cX5_readThing 47 = .ok (.iconst 0, 1) := by decide +kernel
theorem dX5_readThing_48 : decode cX5_readThing 48 = .ok (.ireturn, 1) := by decide +kernel
theorem dX5_readThing_49 : decode cX5_readThing 49 = .ok (.iload_n 3, 1) := by decide +kernel
theorem dX5_readThing_50 : decode cX5_readThing 50 = .ok (.bipush 119, 2) := by decide +kernel
theorem dX5_readThing_52 : decode cX5_readThing 52 = .ok (.if_icmp .eq 27, 3) := by decide +kernel
theorem dX5_readThing_55 : decode cX5_readThing 55 = .ok (.iload_n 3, 1) := by decide +kernel
theorem dX5_readThing_56 : decode cX5_readThing 56 = .ok (.bipush 117, 2) := by decide +kernel
theorem dX5_readThing_58 : decode cX5_readThing 58 = .ok (.if_icmp .eq 21, 3) := by decide +kernel
theorem dX5_readThing_61 : decode cX5_readThing 61 = .ok (.iload_n 3, 1) := by decide +kernel
theorem dX5_readThing_62 : decode cX5_readThing 62 = .ok (.bipush 118, 2) := by decide +kernel
theorem dX5_readThing_64 : decode cX5_readThing 64 = .ok (.if_icmp .eq 15, 3) := by decide +kernel
theorem dX5_readThing_67 : decode cX5_readThing 67 = .ok (.iload_n 3, 1) := by decide +kernel
theorem dX5_readThing_68 : decode cX5_readThing 68 = .ok (.bipush 103, 2) := by decide +kernel
theorem dX5_readThing_70 : decode cX5_readThing 70 = .ok (.if_icmp .eq 9, 3) := by decide +kernel
theorem dX5_readThing_73 : decode cX5_readThing 73 = .ok (.iload_n 3, 1) := by decide +kernel
theorem dX5_readThing_74 : decode cX5_readThing 74 = .ok (.bipush 104, 2) := by decide +kernel
theorem dX5_readThing_76 : decode cX5_readThing 76 = .ok (.if_icmp .ne 17, 3) := by decide +kernel
theorem dX5_readThing_79 : decode cX5_readThing 79 = .ok (.aload_n 1, 1) := by decide +kernel
theorem dX5_readThing_80 : decode cX5_readThing 80 = .ok (.invokevirtual 54, 3) := by decide +kernel
theorem dX5_readThing_83 : decode cX5_readThing 83 = .ok (.aload_n 0, 1) := by decide +kernel
theorem dX5_readThing_84 : decode cX5_readThing 84 = .ok (.sipush 1000, 3) := by decide +kernel
theorem dX5_readThing_87 : decode cX5_readThing 87 = .ok (.iload_n 3, 1) := by decide +kernel
theorem dX5_readThing_88 : decode cX5_readThing 88 = .ok (.iadd, 1) := by decide +kernel
theorem dX5_readThing_89 : decode cX5_readThing 89 = .ok (.invokevirtual 57, 3) := by decide +kernel
theorem dX5_readThing_92 : decode cX5_readThing 92 = .ok (.ireturn, 1) := by decide +kernel
theorem dX5_readThing_93 : decode cX5_readThing 93 = .ok (.aload_n 1, 1) := by decide +kernel
theorem dX5_readThing_94 : decode cX5_readThing 94 = .ok (.iconst 3, 1) := by decide +kernel
theorem dX5_readThing_95 : decode cX5_readThing 95 = .ok (.invokevirtual 68, 3) := by decide +kernel
theorem dX5_readThing_98 : decode cX5_readThing 98 = .ok (.istore 4, 2) := by decide +kernel
theorem dX5_readThing_100 : decode cX5_readThing 100 = .ok (.iload 4, 2) := by decide +kernel
theorem dX5_readThing_102 : decode cX5_readThing 102 = .ok (.iconst (-1), 1) := by decide +kernel
theorem dX5_readThing_103 : decode cX5_readThing 103 = .ok (.if_icmp .eq 16, 3) := by decide +kernel
theorem dX5_readThing_106 : decode cX5_readThing 106 = .ok (.aload_n 0, 1) := by decide +kernel
theorem dX5_readThing_107 : decode cX5_readThing 107 = .ok (.iload 4, 2) := by decide +kernel
theorem dX5_readThing_109 : decode cX5_readThing 109 = .ok (.invokevirtual 57, 3) := by decide +kernel
theorem dX5_readThing_112 : decode cX5_readThing 112 = .ok (.ifCond .eq 7, 3) := by decide +kernel
theorem dX5_readThing_115 : decode cX5_readThing 115 = .ok (.iconst 1, 1) := by decide +kernel
theorem dX5_readThing_116 : decode cX5_readThing 116 = .ok (.goto 4, 3) := by decide +kernel
theorem dX5_readThing_119 : decode cX5_readThing 119 = .ok (.iconst 0, 1) := by decide +kernel
theorem dX5_readThing_120 : decode cX5_readThing 120 = .ok (.ireturn, 1) := by decide +kernel
theorem dX5_addStep_0 : decode cX5_addStep 0 = .ok (.aload_n 0, 1) := by decide +kernel
theorem dX5_addStep_1 : decode cX5_addStep 1 = .ok (.getfield 24, 3) := by decide +kernel
theorem dX5_addStep_4 : decode cX5_addStep 4 = .ok (.ifCond .lt 12, 3) := by decide +kernel
theorem dX5_addStep_7 : decode cX5_addStep 7 = .ok (.aload_n 0, 1) := by decide +kernel
theorem dX5_addStep_8 : decode cX5_addStep 8 = .ok (.getfield 24, 3) := by decide +kernel
theorem dX5_addStep_11 : decode cX5_addStep 11 = .ok (.bipush 40, 2) := by decide +kernel
theorem dX5_addStep_13 : decode cX5_addStep 13 = .ok (.if_icmp .lt 5, 3) := by decide +kernel
theorem dX5_addStep_16 : decode cX5_addStep 16 = .ok (.iconst 0, 1) := by decide +kernel
theorem dX5_addStep_17 : decode cX5_addStep 17 = .ok (.ireturn, 1) := by decide +kernel
theorem dX5_addStep_18 : decode cX5_addStep 18 = .ok (.aload_n 0, 1) := by decide +kernel
theorem dX5_addStep_19 : decode cX5_addStep 19 = .ok (.getfield 11, 3) := by decide +kernel
theorem dX5_addStep_22 : decode cX5_addStep 22 = .ok (.aload_n 0, 1) := by decide +kernel
theorem dX5_addStep_23 : decode cX5_addStep 23 = .ok (.getfield 24, 3) := by decide +kernel
theorem dX5_addStep_26 : decode cX5_addStep 26 = .ok (.iload_n 1, 1) := by decide +kernel
theorem dX5_addStep_27 : decode cX5_addStep 27 = .ok (.iastore, 1) := by decide +kernel
theorem dX5_addStep_28 : decode cX5_addStep 28 = .ok (.aload_n 0, 1) := by decide +kernel
theorem dX5_addStep_29 : decode cX5_addStep 29 = .ok (.dup, 1) := by decide +kernel
theorem dX5_addStep_30 : decode cX5_addStep 30 = .ok (.getfield 24, 3) := by decide +kernel
theorem dX5_addStep_33 : decode cX5_addStep 33 = .ok (.iconst 1, 1) := by decide +kernel
theorem dX5_addStep_34 : decode cX5_addStep 34 = .ok (.iadd, 1) := by decide +kernel
theorem dX5_addStep_35 : decode cX5_addStep 35 = .ok (.putfield 24, 3) := by decide +kernel
theorem dX5_addStep_38 : decode cX5_addStep 38 = .ok (.iconst 1, 1) := by decide +kernel
theorem dX5_addStep_39 : decode cX5_addStep 39 = .ok (.ireturn, 1) := by decide +kernel
theorem dX5_dragOf_0 : decode cX5_dragOf 0 = .ok (.iconst 0, 1) := by decide +kernel
theorem dX5_dragOf_1 : decode cX5_dragOf 1 = .ok (.iload_n 2, 1) := by decide +kernel
theorem dX5_dragOf_2 : decode cX5_dragOf 2 = .ok (.invokestatic 71, 3) := by decide +kernel
theorem dX5_dragOf_5 : decode cX5_dragOf 5 = .ok (.istore 5, 2) := by decide +kernel
theorem dX5_dragOf_7 : decode cX5_dragOf 7 = .ok (.aload_n 0, 1) := by decide +kernel
theorem dX5_dragOf_8 : decode cX5_dragOf 8 = .ok (.getfield 24, 3) := by decide +kernel
theorem dX5_dragOf_11 : decode cX5_dragOf 11 = .ok (.ifCond .ne 25, 3) := by decide +kernel
theorem dX5_dragOf_14 : decode cX5_dragOf 14 = .ok (.iload_n 1, 1) := by decide +kernel
theorem dX5_dragOf_15 : decode cX5_dragOf 15 = .ok (.iconst 1, 1) := by decide +kernel
theorem dX5_dragOf_16 : decode cX5_dragOf 16 = .ok (.iload 5, 2) := by decide +kernel
theorem dX5_dragOf_18 : decode cX5_dragOf 18 = .ok (.iadd, 1) := by decide +kernel
theorem dX5_dragOf_19 : decode cX5_dragOf 19 = .ok (.imul, 1) := by decide +kernel
theorem dX5_dragOf_20 : decode cX5_dragOf 20 = .ok (.iload_n 3, 1) := by decide +kernel
theorem dX5_dragOf_21 : decode cX5_dragOf 21 = .ok (.iconst 1, 1) := by decide +kernel
theorem dX5_dragOf_22 : decode cX5_dragOf 22 = .ok (.if_icmp .ne 7, 3) := by decide +kernel
theorem dX5_dragOf_25 : decode cX5_dragOf 25 = .ok (.iconst 3, 1) := by decide +kernel
theorem dX5_dragOf_26 : decode cX5_dragOf 26 = .ok (.goto 4, 3) := by decide +kernel
theorem dX5_dragOf_29 : decode cX5_dragOf 29 = .ok (.iconst 1, 1) := by decide +kernel
theorem dX5_dragOf_30 : decode cX5_dragOf 30 = .ok (.idiv, 1) := by decide +kernel
theorem dX5_dragOf_31 : decode cX5_dragOf 31 = .ok (.iconst 1, 1) := by decide +kernel
theorem dX5_dragOf_32 : decode cX5_dragOf 32 = .ok (.iadd, 1) := by decide +kernel
theorem dX5_dragOf_33 : decode cX5_dragOf 33 = .ok (.goto 12, 3) := by decide +kernel
theorem dX5_dragOf_36 : decode cX5_dragOf 36 = .ok (.aload_n 0, 1) := by decide +kernel
theorem dX5_dragOf_37 : decode cX5_dragOf 37 = .ok (.iload_n 1, 1) := by decide +kernel
theorem dX5_dragOf_38 : decode cX5_dragOf 38 = .ok (.iload_n 2, 1) := by decide +kernel
theorem dX5_dragOf_39 : decode cX5_dragOf 39 = .ok (.iload_n 3, 1) := by decide +kernel
theorem dX5_dragOf_40 : decode cX5_dragOf 40 = .ok (.iload 4, 2) := by decide +kernel
theorem dX5_dragOf_42 : decode cX5_dragOf 42 = .ok (.invokevirtual 77, 3) := by decide +kernel
theorem dX5_dragOf_45 : decode cX5_dragOf 45 = .ok (.istore 6, 2) := by decide +kernel
theorem dX5_dragOf_47 : decode cX5_dragOf 47 = .ok (.iconst 0, 1) := by decide +kernel
theorem dX5_dragOf_48 : decode cX5_dragOf 48 = .ok (.sipush 999, 3) := by decide +kernel
theorem dX5_dragOf_51 : decode cX5_dragOf 51 = .ok (.iload 6, 2) := by decide +kernel
theorem dX5_dragOf_53 : decode cX5_dragOf 53 = .ok (.invokestatic 81, 3) := by decide +kernel
theorem dX5_dragOf_56 : decode cX5_dragOf 56 = .ok (.invokestatic 71, 3) := by decide +kernel
theorem dX5_dragOf_59 : decode cX5_dragOf 59 = .ok (.ireturn, 1) := by decide +kernel
theorem dX5_worked_0 : decode cX5_worked 0 = .ok (.aload_n 0, 1) := by decide +kernel
theorem dX5_worked_1 : decode cX5_worked 1 = .ok (.iconst 0, 1) := by decide +kernel
theorem dX5_worked_2 : decode cX5_worked 2 = .ok (.putfield 84, 3) := by decide +kernel
theorem dX5_worked_5 : decode cX5_worked 5 = .ok (.iconst 0, 1) := by decide +kernel
theorem dX5_worked_6 : decode cX5_worked 6 = .ok (.istore 5, 2) := by decide +kernel
theorem dX5_worked_8 : decode cX5_worked 8 = .ok (.iload 5, 2) := by decide +kernel
theorem dX5_worked_10 : decode cX5_worked 10 = .ok (.aload_n 0, 1) := by decide +kernel
theorem dX5_worked_11 : decode cX5_worked 11 = .ok (.getfield 24, 3) := by decide +kernel
theorem dX5_worked_14 : decode cX5_worked 14 = .ok (.if_icmp .ge 184, 3) := by decide +kernel
theorem dX5_worked_17 : decode cX5_worked 17 = .ok (.iload 5, 2) := by decide +kernel
theorem dX5_worked_19 : decode cX5_worked 19 = .ok (.bipush 40, 2) := by decide +kernel
theorem dX5_worked_21 : decode cX5_worked 21 = .ok (.if_icmp .ge 177, 3) := by decide +kernel
theorem dX5_worked_24 : decode cX5_worked 24 = .ok (.aload_n 0, 1) := by decide +kernel
theorem dX5_worked_25 : decode cX5_worked 25 = .ok (.getfield 11, 3) := by decide +kernel
theorem dX5_worked_28 : decode cX5_worked 28 = .ok (.iload 5, 2) := by decide +kernel
theorem dX5_worked_30 : decode cX5_worked 30 = .ok (.iaload, 1) := by decide +kernel
theorem dX5_worked_31 : decode cX5_worked 31 = .ok (.istore 6, 2) := by decide +kernel
theorem dX5_worked_33 : decode cX5_worked 33 = .ok (.iload 6, 2) := by decide +kernel
theorem dX5_worked_35 : decode cX5_worked 35 = .ok (.sipush 1000, 3) := by decide +kernel
theorem dX5_worked_38 : decode cX5_worked 38 = .ok (.isub, 1) := by decide +kernel
theorem dX5_worked_39 : decode cX5_worked 39 = .ok (.lookupswitch 119 #[(103, 90), (104, 98), (117, 65), (118, 77), (119, 57), (126, 107)], 57) := by decide +kernel
theorem dX5_worked_96 : decode cX5_worked 96 = .ok (.aload_n 0, 1) := by decide +kernel
theorem dX5_worked_97 : decode cX5_worked 97 = .ok (.iload_n 1, 1) := by decide +kernel
theorem dX5_worked_98 : decode cX5_worked 98 = .ok (.invokevirtual 87, 3) := by decide +kernel
theorem dX5_worked_101 : decode cX5_worked 101 = .ok (.goto 91, 3) := by decide +kernel
theorem dX5_worked_104 : decode cX5_worked 104 = .ok (.aload_n 0, 1) := by decide +kernel
theorem dX5_worked_105 : decode cX5_worked 105 = .ok (.iconst 0, 1) := by decide +kernel
theorem dX5_worked_106 : decode cX5_worked 106 = .ok (.iload_n 2, 1) := by decide +kernel
theorem dX5_worked_107 : decode cX5_worked 107 = .ok (.invokestatic 71, 3) := by decide +kernel
theorem dX5_worked_110 : decode cX5_worked 110 = .ok (.invokevirtual 87, 3) := by decide +kernel
theorem dX5_worked_113 : decode cX5_worked 113 = .ok (.goto 79, 3) := by decide +kernel
theorem dX5_worked_116 : decode cX5_worked 116 = .ok (.aload_n 0, 1) := by decide +kernel
theorem dX5_worked_117 : decode cX5_worked 117 = .ok (.iconst 0, 1) := by decide +kernel
theorem dX5_worked_118 : decode cX5_worked 118 = .ok (.iload_n 2, 1) := by decide +kernel
theorem dX5_worked_119 : decode cX5_worked 119 = .ok (.ineg, 1) := by decide +kernel
theorem dX5_worked_120 : decode cX5_worked 120 = .ok (.invokestatic 71, 3) := by decide +kernel
theorem dX5_worked_123 : decode cX5_worked 123 = .ok (.invokevirtual 87, 3) := by decide +kernel
theorem dX5_worked_126 : decode cX5_worked 126 = .ok (.goto 66, 3) := by decide +kernel
theorem dX5_worked_129 : decode cX5_worked 129 = .ok (.aload_n 0, 1) := by decide +kernel
theorem dX5_worked_130 : decode cX5_worked 130 = .ok (.iload_n 3, 1) := by decide +kernel
theorem dX5_worked_131 : decode cX5_worked 131 = .ok (.invokevirtual 87, 3) := by decide +kernel
theorem dX5_worked_134 : decode cX5_worked 134 = .ok (.goto 58, 3) := by decide +kernel
theorem dX5_worked_137 : decode cX5_worked 137 = .ok (.aload_n 0, 1) := by decide +kernel
theorem dX5_worked_138 : decode cX5_worked 138 = .ok (.iload 4, 2) := by decide +kernel
theorem dX5_worked_140 : decode cX5_worked 140 = .ok (.invokevirtual 87, 3) := by decide +kernel
theorem dX5_worked_143 : decode cX5_worked 143 = .ok (.goto 49, 3) := by decide +kernel
theorem dX5_worked_146 : decode cX5_worked 146 = .ok (.aload_n 0, 1) := by decide +kernel
theorem dX5_worked_147 : decode cX5_worked 147 = .ok (.aload_n 0, 1) := by decide +kernel
theorem dX5_worked_148 : decode cX5_worked 148 = .ok (.invokevirtual 90, 3) := by decide +kernel
theorem dX5_worked_151 : decode cX5_worked 151 = .ok (.ineg, 1) := by decide +kernel
theorem dX5_worked_152 : decode cX5_worked 152 = .ok (.invokevirtual 87, 3) := by decide +kernel
theorem dX5_worked_155 : decode cX5_worked 155 = .ok (.goto 37, 3) := by decide +kernel
theorem dX5_worked_158 : decode cX5_worked 158 = .ok (.aload_n 0, 1) := by decide +kernel
theorem dX5_worked_159 : decode cX5_worked 159 = .ok (.iload 6, 2) := by decide +kernel
theorem dX5_worked_161 : decode cX5_worked 161 = .ok (.sipush 1000, 3) := by decide +kernel
theorem dX5_worked_164 : decode cX5_worked 164 = .ok (.if_icmp .ge 8, 3) := by decide +kernel
theorem dX5_worked_167 : decode cX5_worked 167 = .ok (.iload 6, 2) := by decide +kernel
theorem dX5_worked_169 : decode cX5_worked 169 = .ok (.goto 20, 3) := by decide +kernel
theorem dX5_worked_172 : decode cX5_worked 172 = .ok (.iload 6, 2) := by decide +kernel
theorem dX5_worked_174 : decode cX5_worked 174 = .ok (.sipush 1000, 3) := by decide +kernel
theorem dX5_worked_177 : decode cX5_worked 177 = .ok (.isub, 1) := by decide +kernel
theorem dX5_worked_178 : decode cX5_worked 178 = .ok (.aload_n 0, 1) := by decide +kernel
theorem dX5_worked_179 : decode cX5_worked 179 = .ok (.invokevirtual 90, 3) := by decide +kernel
theorem dX5_worked_182 : decode cX5_worked 182 = .ok (.aload_n 0, 1) := by decide +kernel
theorem dX5_worked_183 : decode cX5_worked 183 = .ok (.invokevirtual 90, 3) := by decide +kernel
theorem dX5_worked_186 : decode cX5_worked 186 = .ok (.invokestatic 93, 3) := by decide +kernel
theorem dX5_worked_189 : decode cX5_worked 189 = .ok (.invokevirtual 87, 3) := by decide +kernel
theorem dX5_worked_192 : decode cX5_worked 192 = .ok (.iinc 5 1, 3) := by decide +kernel
theorem dX5_worked_195 : decode cX5_worked 195 = .ok (.goto (-187), 3) := by decide +kernel
theorem dX5_worked_198 : decode cX5_worked 198 = .ok (.aload_n 0, 1) := by decide +kernel
theorem dX5_worked_199 : decode cX5_worked 199 = .ok (.invokevirtual 90, 3) := by decide +kernel
theorem dX5_worked_202 : decode cX5_worked 202 = .ok (.ireturn, 1) := by decide +kernel
theorem dX5_joined_0 : decode cX5_joined 0 = .ok (.iload_n 0, 1) := by decide +kernel
theorem dX5_joined_1 : decode cX5_joined 1 = .ok (.lookupswitch 105 #[(42, 67), (43, 59), (45, 63), (47, 71), (60, 83), (62, 94)], 59) := by decide +kernel
theorem dX5_joined_60 : decode cX5_joined 60 = .ok (.iload_n 2, 1) := by decide +kernel
theorem dX5_joined_61 : decode cX5_joined 61 = .ok (.iload_n 1, 1) := by decide +kernel
theorem dX5_joined_62 : decode cX5_joined 62 = .ok (.iadd, 1) := by decide +kernel
theorem dX5_joined_63 : decode cX5_joined 63 = .ok (.ireturn, 1) := by decide +kernel
theorem dX5_joined_64 : decode cX5_joined 64 = .ok (.iload_n 2, 1) := by decide +kernel
theorem dX5_joined_65 : decode cX5_joined 65 = .ok (.iload_n 1, 1) := by decide +kernel
theorem dX5_joined_66 : decode cX5_joined 66 = .ok (.isub, 1) := by decide +kernel
theorem dX5_joined_67 : decode cX5_joined 67 = .ok (.ireturn, 1) := by decide +kernel
theorem dX5_joined_68 : decode cX5_joined 68 = .ok (.iload_n 2, 1) := by decide +kernel
theorem dX5_joined_69 : decode cX5_joined 69 = .ok (.iload_n 1, 1) := by decide +kernel
theorem dX5_joined_70 : decode cX5_joined 70 = .ok (.imul, 1) := by decide +kernel
theorem dX5_joined_71 : decode cX5_joined 71 = .ok (.ireturn, 1) := by decide +kernel
theorem dX5_joined_72 : decode cX5_joined 72 = .ok (.iload_n 1, 1) := by decide +kernel
theorem dX5_joined_73 : decode cX5_joined 73 = .ok (.ifCond .ne 7, 3) := by decide +kernel
theorem dX5_joined_76 : decode cX5_joined 76 = .ok (.iconst 0, 1) := by decide +kernel
theorem dX5_joined_77 : decode cX5_joined 77 = .ok (.goto 6, 3) := by decide +kernel
theorem dX5_joined_80 : decode cX5_joined 80 = .ok (.iload_n 2, 1) := by decide +kernel
theorem dX5_joined_81 : decode cX5_joined 81 = .ok (.iload_n 1, 1) := by decide +kernel
theorem dX5_joined_82 : decode cX5_joined 82 = .ok (.idiv, 1) := by decide +kernel
theorem dX5_joined_83 : decode cX5_joined 83 = .ok (.ireturn, 1) := by decide +kernel
theorem dX5_joined_84 : decode cX5_joined 84 = .ok (.iload_n 2, 1) := by decide +kernel
theorem dX5_joined_85 : decode cX5_joined 85 = .ok (.iload_n 1, 1) := by decide +kernel
theorem dX5_joined_86 : decode cX5_joined 86 = .ok (.if_icmp .ge 7, 3) := by decide +kernel
theorem dX5_joined_89 : decode cX5_joined 89 = .ok (.iconst 1, 1) := by decide +kernel
theorem dX5_joined_90 : decode cX5_joined 90 = .ok (.goto 4, 3) := by decide +kernel
theorem dX5_joined_93 : decode cX5_joined 93 = .ok (.iconst 0, 1) := by decide +kernel
theorem dX5_joined_94 : decode cX5_joined 94 = .ok (.ireturn, 1) := by decide +kernel
theorem dX5_joined_95 : decode cX5_joined 95 = .ok (.iload_n 2, 1) := by decide +kernel
theorem dX5_joined_96 : decode cX5_joined 96 = .ok (.iload_n 1, 1) := by decide +kernel
theorem dX5_joined_97 : decode cX5_joined 97 = .ok (.if_icmp .le 7, 3) := by decide +kernel
theorem dX5_joined_100 : decode cX5_joined 100 = .ok (.iconst 1, 1) := by decide +kernel
theorem dX5_joined_101 : decode cX5_joined 101 = .ok (.goto 4, 3) := by decide +kernel
theorem dX5_joined_104 : decode cX5_joined 104 = .ok (.iconst 0, 1) := by decide +kernel
theorem dX5_joined_105 : decode cX5_joined 105 = .ok (.ireturn, 1) := by decide +kernel
theorem dX5_joined_106 : decode cX5_joined 106 = .ok (.iload_n 2, 1) := by decide +kernel
theorem dX5_joined_107 : decode cX5_joined 107 = .ok (.iload_n 1, 1) := by decide +kernel
theorem dX5_joined_108 : decode cX5_joined 108 = .ok (.if_icmp .ne 7, 3) := by decide +kernel
theorem dX5_joined_111 : decode cX5_joined 111 = .ok (.iconst 1, 1) := by decide +kernel
theorem dX5_joined_112 : decode cX5_joined 112 = .ok (.goto 4, 3) := by decide +kernel
theorem dX5_joined_115 : decode cX5_joined 115 = .ok (.iconst 0, 1) := by decide +kernel
theorem dX5_joined_116 : decode cX5_joined 116 = .ok (.ireturn, 1) := by decide +kernel
theorem dX5_push_0 : decode cX5_push 0 = .ok (.aload_n 0, 1) := by decide +kernel
theorem dX5_push_1 : decode cX5_push 1 = .ok (.getfield 84, 3) := by decide +kernel
theorem dX5_push_4 : decode cX5_push 4 = .ok (.ifCond .lt 32, 3) := by decide +kernel
theorem dX5_push_7 : decode cX5_push 7 = .ok (.aload_n 0, 1) := by decide +kernel
theorem dX5_push_8 : decode cX5_push 8 = .ok (.getfield 84, 3) := by decide +kernel
theorem dX5_push_11 : decode cX5_push 11 = .ok (.bipush 40, 2) := by decide +kernel
theorem dX5_push_13 : decode cX5_push 13 = .ok (.if_icmp .ge 23, 3) := by decide +kernel
theorem dX5_push_16 : decode cX5_push 16 = .ok (.aload_n 0, 1) := by decide +kernel
theorem dX5_push_17 : decode cX5_push 17 = .ok (.getfield 15, 3) := by decide +kernel
theorem dX5_push_20 : decode cX5_push 20 = .ok (.aload_n 0, 1) := by decide +kernel
theorem dX5_push_21 : decode cX5_push 21 = .ok (.getfield 84, 3) := by decide +kernel
theorem dX5_push_24 : decode cX5_push 24 = .ok (.iload_n 1, 1) := by decide +kernel
theorem dX5_push_25 : decode cX5_push 25 = .ok (.iastore, 1) := by decide +kernel
theorem dX5_push_26 : decode cX5_push 26 = .ok (.aload_n 0, 1) := by decide +kernel
theorem dX5_push_27 : decode cX5_push 27 = .ok (.dup, 1) := by decide +kernel
theorem dX5_push_28 : decode cX5_push 28 = .ok (.getfield 84, 3) := by decide +kernel
theorem dX5_push_31 : decode cX5_push 31 = .ok (.iconst 1, 1) := by decide +kernel
theorem dX5_push_32 : decode cX5_push 32 = .ok (.iadd, 1) := by decide +kernel
theorem dX5_push_33 : decode cX5_push 33 = .ok (.putfield 84, 3) := by decide +kernel
theorem dX5_push_36 : decode cX5_push 36 = .ok (.return_, 1) := by decide +kernel
theorem dX5_pop_0 : decode cX5_pop 0 = .ok (.aload_n 0, 1) := by decide +kernel
theorem dX5_pop_1 : decode cX5_pop 1 = .ok (.getfield 84, 3) := by decide +kernel
theorem dX5_pop_4 : decode cX5_pop 4 = .ok (.iconst 1, 1) := by decide +kernel
theorem dX5_pop_5 : decode cX5_pop 5 = .ok (.if_icmp .lt 12, 3) := by decide +kernel
theorem dX5_pop_8 : decode cX5_pop 8 = .ok (.aload_n 0, 1) := by decide +kernel
theorem dX5_pop_9 : decode cX5_pop 9 = .ok (.getfield 84, 3) := by decide +kernel
theorem dX5_pop_12 : decode cX5_pop 12 = .ok (.bipush 40, 2) := by decide +kernel
theorem dX5_pop_14 : decode cX5_pop 14 = .ok (.if_icmp .le 5, 3) := by decide +kernel
theorem dX5_pop_17 : decode cX5_pop 17 = .ok (.iconst 0, 1) := by decide +kernel
theorem dX5_pop_18 : decode cX5_pop 18 = .ok (.ireturn, 1) := by decide +kernel
theorem dX5_pop_19 : decode cX5_pop 19 = .ok (.aload_n 0, 1) := by decide +kernel
theorem dX5_pop_20 : decode cX5_pop 20 = .ok (.dup, 1) := by decide +kernel
theorem dX5_pop_21 : decode cX5_pop 21 = .ok (.getfield 84, 3) := by decide +kernel
theorem dX5_pop_24 : decode cX5_pop 24 = .ok (.iconst 1, 1) := by decide +kernel
theorem dX5_pop_25 : decode cX5_pop 25 = .ok (.isub, 1) := by decide +kernel
theorem dX5_pop_26 : decode cX5_pop 26 = .ok (.putfield 84, 3) := by decide +kernel
theorem dX5_pop_29 : decode cX5_pop 29 = .ok (.aload_n 0, 1) := by decide +kernel
theorem dX5_pop_30 : decode cX5_pop 30 = .ok (.getfield 15, 3) := by decide +kernel
theorem dX5_pop_33 : decode cX5_pop 33 = .ok (.aload_n 0, 1) := by decide +kernel
theorem dX5_pop_34 : decode cX5_pop 34 = .ok (.getfield 84, 3) := by decide +kernel
theorem dX5_pop_37 : decode cX5_pop 37 = .ok (.iaload, 1) := by decide +kernel
theorem dX5_pop_38 : decode cX5_pop 38 = .ok (.ireturn, 1) := by decide +kernel
theorem dX6_takeFour_0 : decode cX6_takeFour 0 = .ok (.aload_n 0, 1) := by decide +kernel
theorem dX6_takeFour_1 : decode cX6_takeFour 1 = .ok (.getfield 15, 3) := by decide +kernel
theorem dX6_takeFour_4 : decode cX6_takeFour 4 = .ok (.ifCond .lt 12, 3) := by decide +kernel
theorem dX6_takeFour_7 : decode cX6_takeFour 7 = .ok (.aload_n 0, 1) := by decide +kernel
theorem dX6_takeFour_8 : decode cX6_takeFour 8 = .ok (.getfield 15, 3) := by decide +kernel
theorem dX6_takeFour_11 : decode cX6_takeFour 11 = .ok (.bipush 76, 2) := by decide +kernel
theorem dX6_takeFour_13 : decode cX6_takeFour 13 = .ok (.if_icmp .le 5, 3) := by decide +kernel
theorem dX6_takeFour_16 : decode cX6_takeFour 16 = .ok (.iconst 0, 1) := by decide +kernel
theorem dX6_takeFour_17 : decode cX6_takeFour 17 = .ok (.ireturn, 1) := by decide +kernel
theorem dX6_takeFour_18 : decode cX6_takeFour 18 = .ok (.iconst 0, 1) := by decide +kernel
theorem dX6_takeFour_19 : decode cX6_takeFour 19 = .ok (.istore_n 2, 1) := by decide +kernel
theorem dX6_takeFour_20 : decode cX6_takeFour 20 = .ok (.iload_n 2, 1) := by decide +kernel
theorem dX6_takeFour_21 : decode cX6_takeFour 21 = .ok (.iconst 4, 1) := by decide +kernel
theorem dX6_takeFour_22 : decode cX6_takeFour 22 = .ok (.if_icmp .ge 34, 3) := by decide +kernel
theorem dX6_takeFour_25 : decode cX6_takeFour 25 = .ok (.aload_n 0, 1) := by decide +kernel
theorem dX6_takeFour_26 : decode cX6_takeFour 26 = .ok (.getfield 11, 3) := by decide +kernel
theorem dX6_takeFour_29 : decode cX6_takeFour 29 = .ok (.aload_n 0, 1) := by decide +kernel
theorem dX6_takeFour_30 : decode cX6_takeFour 30 = .ok (.getfield 15, 3) := by decide +kernel
theorem dX6_takeFour_33 : decode cX6_takeFour 33 = .ok (.iload_n 2, 1) := by decide +kernel
theorem dX6_takeFour_34 : decode cX6_takeFour 34 = .ok (.iadd, 1) := by decide +kernel
theorem dX6_takeFour_35 : decode cX6_takeFour 35 = .ok (.iload_n 1, 1) := by decide +kernel
theorem dX6_takeFour_36 : decode cX6_takeFour 36 = .ok (.bipush 24, 2) := by decide +kernel
theorem dX6_takeFour_38 : decode cX6_takeFour 38 = .ok (.bipush 8, 2) := by decide +kernel
theorem dX6_takeFour_40 : decode cX6_takeFour 40 = .ok (.iload_n 2, 1) := by decide +kernel
theorem dX6_takeFour_41 : decode cX6_takeFour 41 = .ok (.imul, 1) := by decide +kernel
theorem dX6_takeFour_42 : decode cX6_takeFour 42 = .ok (.isub, 1) := by decide +kernel
theorem dX6_takeFour_43 : decode cX6_takeFour 43 = .ok (.iushr, 1) := by decide +kernel
theorem dX6_takeFour_44 : decode cX6_takeFour 44 = .ok (.sipush 255, 3) := by decide +kernel
theorem dX6_takeFour_47 : decode cX6_takeFour 47 = .ok (.iand, 1) := by decide +kernel
theorem dX6_takeFour_48 : decode cX6_takeFour 48 = .ok (.i2c, 1) := by decide +kernel
theorem dX6_takeFour_49 : decode cX6_takeFour 49 = .ok (.castore, 1) := by decide +kernel
theorem dX6_takeFour_50 : decode cX6_takeFour 50 = .ok (.iinc 2 1, 3) := by decide +kernel
theorem dX6_takeFour_53 : decode cX6_takeFour 53 = .ok (.goto (-33), 3) := by decide +kernel
theorem dX6_takeFour_56 : decode cX6_takeFour 56 = .ok (.aload_n 0, 1) := by decide +kernel
theorem dX6_takeFour_57 : decode cX6_takeFour 57 = .ok (.dup, 1) := by decide +kernel
theorem dX6_takeFour_58 : decode cX6_takeFour 58 = .ok (.getfield 15, 3) := by decide +kernel
theorem dX6_takeFour_61 : decode cX6_takeFour 61 = .ok (.iconst 4, 1) := by decide +kernel
theorem dX6_takeFour_62 : decode cX6_takeFour 62 = .ok (.iadd, 1) := by decide +kernel
theorem dX6_takeFour_63 : decode cX6_takeFour 63 = .ok (.putfield 15, 3) := by decide +kernel
theorem dX6_takeFour_66 : decode cX6_takeFour 66 = .ok (.iconst 1, 1) := by decide +kernel
theorem dX6_takeFour_67 : decode cX6_takeFour 67 = .ok (.ireturn, 1) := by decide +kernel
theorem dX6_cutTo_0 : decode cX6_cutTo 0 = .ok (.iload_n 1, 1) := by decide +kernel
theorem dX6_cutTo_1 : decode cX6_cutTo 1 = .ok (.ifCond .lt 11, 3) := by decide +kernel
theorem dX6_cutTo_4 : decode cX6_cutTo 4 = .ok (.iload_n 1, 1) := by decide +kernel
theorem dX6_cutTo_5 : decode cX6_cutTo 5 = .ok (.aload_n 0, 1) := by decide +kernel
theorem dX6_cutTo_6 : decode cX6_cutTo 6 = .ok (.getfield 15, 3) := by decide +kernel
theorem dX6_cutTo_9 : decode cX6_cutTo 9 = .ok (.if_icmp .le 5, 3) := by decide +kernel
theorem dX6_cutTo_12 : decode cX6_cutTo 12 = .ok (.iconst 0, 1) := by decide +kernel
theorem dX6_cutTo_13 : decode cX6_cutTo 13 = .ok (.ireturn, 1) := by decide +kernel
theorem dX6_cutTo_14 : decode cX6_cutTo 14 = .ok (.aload_n 0, 1) := by decide +kernel
theorem dX6_cutTo_15 : decode cX6_cutTo 15 = .ok (.iload_n 1, 1) := by decide +kernel
theorem dX6_cutTo_16 : decode cX6_cutTo 16 = .ok (.putfield 15, 3) := by decide +kernel
theorem dX6_cutTo_19 : decode cX6_cutTo 19 = .ok (.iconst 1, 1) := by decide +kernel
theorem dX6_cutTo_20 : decode cX6_cutTo 20 = .ok (.ireturn, 1) := by decide +kernel
theorem dX6_empty_0 : decode cX6_empty 0 = .ok (.aload_n 0, 1) := by decide +kernel
theorem dX6_empty_1 : decode cX6_empty 1 = .ok (.iconst 0, 1) := by decide +kernel
theorem dX6_empty_2 : decode cX6_empty 2 = .ok (.putfield 15, 3) := by decide +kernel
theorem dX6_empty_5 : decode cX6_empty 5 = .ok (.return_, 1) := by decide +kernel
theorem dX6_open_0 : decode cX6_open 0 = .ok (.aload_n 0, 1) := by decide +kernel
theorem dX6_open_1 : decode cX6_open 1 = .ok (.aload_n 0, 1) := by decide +kernel
theorem dX6_open_2 : decode cX6_open 2 = .ok (.getfield 15, 3) := by decide +kernel
theorem dX6_open_5 : decode cX6_open 5 = .ok (.iload_n 1, 1) := by decide +kernel
theorem dX6_open_6 : decode cX6_open 6 = .ok (.invokestatic 19, 3) := by decide +kernel
theorem dX6_open_9 : decode cX6_open 9 = .ok (.putfield 25, 3) := by decide +kernel
theorem dX6_open_12 : decode cX6_open 12 = .ok (.aload_n 0, 1) := by decide +kernel
theorem dX6_open_13 : decode cX6_open 13 = .ok (.iconst 0, 1) := by decide +kernel
theorem dX6_open_14 : decode cX6_open 14 = .ok (.putfield 28, 3) := by decide +kernel
theorem dX6_open_17 : decode cX6_open 17 = .ok (.return_, 1) := by decide +kernel
theorem dX6_finished_0 : decode cX6_finished 0 = .ok (.aload_n 0, 1) := by decide +kernel
theorem dX6_finished_1 : decode cX6_finished 1 = .ok (.getfield 28, 3) := by decide +kernel
theorem dX6_finished_4 : decode cX6_finished 4 = .ok (.aload_n 0, 1) := by decide +kernel
theorem dX6_finished_5 : decode cX6_finished 5 = .ok (.getfield 15, 3) := by decide +kernel
theorem dX6_finished_8 : decode cX6_finished 8 = .ok (.if_icmp .ne 7, 3) := by decide +kernel
theorem dX6_finished_11 : decode cX6_finished 11 = .ok (.iconst 1, 1) := by decide +kernel
theorem dX6_finished_12 : decode cX6_finished 12 = .ok (.goto 4, 3) := by decide +kernel
theorem dX6_finished_15 : decode cX6_finished 15 = .ok (.iconst 0, 1) := by decide +kernel
theorem dX6_finished_16 : decode cX6_finished 16 = .ok (.ireturn, 1) := by decide +kernel
theorem dX6_peek_0 : decode cX6_peek 0 = .ok (.aload_n 0, 1) := by decide +kernel
theorem dX6_peek_1 : decode cX6_peek 1 = .ok (.getfield 28, 3) := by decide +kernel
theorem dX6_peek_4 : decode cX6_peek 4 = .ok (.ifCond .lt 35, 3) := by decide +kernel
theorem dX6_peek_7 : decode cX6_peek 7 = .ok (.aload_n 0, 1) := by decide +kernel
theorem dX6_peek_8 : decode cX6_peek 8 = .ok (.getfield 28, 3) := by decide +kernel
theorem dX6_peek_11 : decode cX6_peek 11 = .ok (.aload_n 0, 1) := by decide +kernel
theorem dX6_peek_12 : decode cX6_peek 12 = .ok (.getfield 25, 3) := by decide +kernel
theorem dX6_peek_15 : decode cX6_peek 15 = .ok (.if_icmp .ge 24, 3) := by decide +kernel
theorem dX6_peek_18 : decode cX6_peek 18 = .ok (.aload_n 0, 1) := by decide +kernel
theorem dX6_peek_19 : decode cX6_peek 19 = .ok (.getfield 28, 3) := by decide +kernel
theorem dX6_peek_22 : decode cX6_peek 22 = .ok (.bipush 80, 2) := by decide +kernel
theorem dX6_peek_24 : decode cX6_peek 24 = .ok (.if_icmp .ge 15, 3) := by decide +kernel
theorem dX6_peek_27 : decode cX6_peek 27 = .ok (.aload_n 0, 1) := by decide +kernel
theorem dX6_peek_28 : decode cX6_peek 28 = .ok (.getfield 11, 3) := by decide +kernel
theorem dX6_peek_31 : decode cX6_peek 31 = .ok (.aload_n 0, 1) := by decide +kernel
theorem dX6_peek_32 : decode cX6_peek 32 = .ok (.getfield 28, 3) := by decide +kernel
theorem dX6_peek_35 : decode cX6_peek 35 = .ok (.caload, 1) := by decide +kernel
theorem dX6_peek_36 : decode cX6_peek 36 = .ok (.goto 4, 3) := by decide +kernel
theorem dX6_peek_39 : decode cX6_peek 39 = .ok (.iconst (-1), 1) := by decide +kernel
theorem dX6_peek_40 : decode cX6_peek 40 = .ok (.ireturn, 1) := by decide +kernel
theorem dX6_step_0 : decode cX6_step 0 = .ok (.aload_n 0, 1) := by decide +kernel
theorem dX6_step_1 : decode cX6_step 1 = .ok (.dup, 1) := by decide +kernel
theorem dX6_step_2 : decode cX6_step 2 = .ok (.getfield 28, 3) := by decide +kernel
theorem dX6_step_5 : decode cX6_step 5 = .ok (.iconst 1, 1) := by decide +kernel
theorem dX6_step_6 : decode cX6_step 6 = .ok (.iadd, 1) := by decide +kernel
theorem dX6_step_7 : decode cX6_step 7 = .ok (.putfield 28, 3) := by decide +kernel
theorem dX6_step_10 : decode cX6_step 10 = .ok (.return_, 1) := by decide +kernel
theorem dX6_back_0 : decode cX6_back 0 = .ok (.aload_n 0, 1) := by decide +kernel
theorem dX6_back_1 : decode cX6_back 1 = .ok (.dup, 1) := by decide +kernel
theorem dX6_back_2 : decode cX6_back 2 = .ok (.getfield 28, 3) := by decide +kernel
theorem dX6_back_5 : decode cX6_back 5 = .ok (.iconst 1, 1) := by decide +kernel
theorem dX6_back_6 : decode cX6_back 6 = .ok (.isub, 1) := by decide +kernel
theorem dX6_back_7 : decode cX6_back 7 = .ok (.putfield 28, 3) := by decide +kernel
theorem dX6_back_10 : decode cX6_back 10 = .ok (.return_, 1) := by decide +kernel
theorem dX6_takeSign_0 : decode cX6_takeSign 0 = .ok (.aload_n 0, 1) := by decide +kernel
theorem dX6_takeSign_1 : decode cX6_takeSign 1 = .ok (.invokevirtual 31, 3) := by decide +kernel
theorem dX6_takeSign_4 : decode cX6_takeSign 4 = .ok (.iload_n 1, 1) := by decide +kernel
theorem dX6_takeSign_5 : decode cX6_takeSign 5 = .ok (.if_icmp .eq 5, 3) := by decide +kernel
theorem dX6_takeSign_8 : decode cX6_takeSign 8 = .ok (.iconst 0, 1) := by decide +kernel
theorem dX6_takeSign_9 : decode cX6_takeSign 9 = .ok (.ireturn, 1) := by decide +kernel
theorem dX6_takeSign_10 : decode cX6_takeSign 10 = .ok (.aload_n 0, 1) := by decide +kernel
theorem dX6_takeSign_11 : decode cX6_takeSign 11 = .ok (.invokevirtual 35, 3) := by decide +kernel
theorem dX6_takeSign_14 : decode cX6_takeSign 14 = .ok (.iconst 1, 1) := by decide +kernel
theorem dX6_takeSign_15 : decode cX6_takeSign 15 = .ok (.ireturn, 1) := by decide +kernel
theorem dX6_takeDigit_0 : decode cX6_takeDigit 0 = .ok (.aload_n 0, 1) := by decide +kernel
theorem dX6_takeDigit_1 : decode cX6_takeDigit 1 = .ok (.invokevirtual 31, 3) := by decide +kernel
theorem dX6_takeDigit_4 : decode cX6_takeDigit 4 = .ok (.bipush 48, 2) := by decide +kernel
theorem dX6_takeDigit_6 : decode cX6_takeDigit 6 = .ok (.isub, 1) := by decide +kernel
theorem dX6_takeDigit_7 : decode cX6_takeDigit 7 = .ok (.istore_n 3, 1) := by decide +kernel
theorem dX6_takeDigit_8 : decode cX6_takeDigit 8 = .ok (.iload_n 3, 1) := by decide +kernel
theorem dX6_takeDigit_9 : decode cX6_takeDigit 9 = .ok (.iload_n 1, 1) := by decide +kernel
theorem dX6_takeDigit_10 : decode cX6_takeDigit 10 = .ok (.if_icmp .lt 8, 3) := by decide +kernel
theorem dX6_takeDigit_13 : decode cX6_takeDigit 13 = .ok (.iload_n 3, 1) := by decide +kernel
theorem dX6_takeDigit_14 : decode cX6_takeDigit 14 = .ok (.iload_n 2, 1) := by decide +kernel
theorem dX6_takeDigit_15 : decode cX6_takeDigit 15 = .ok (.if_icmp .le 5, 3) := by decide +kernel
theorem dX6_takeDigit_18 : decode cX6_takeDigit 18 = .ok (.iconst (-1), 1) := by decide +kernel
theorem dX6_takeDigit_19 : decode cX6_takeDigit 19 = .ok (.ireturn, 1) := by decide +kernel
theorem dX6_takeDigit_20 : decode cX6_takeDigit 20 = .ok (.aload_n 0, 1) := by decide +kernel
theorem dX6_takeDigit_21 : decode cX6_takeDigit 21 = .ok (.invokevirtual 35, 3) := by decide +kernel
theorem dX6_takeDigit_24 : decode cX6_takeDigit 24 = .ok (.iload_n 3, 1) := by decide +kernel
theorem dX6_takeDigit_25 : decode cX6_takeDigit 25 = .ok (.ireturn, 1) := by decide +kernel
theorem dX6_takeNumber_0 : decode cX6_takeNumber 0 = .ok (.iconst (-1), 1) := by decide +kernel
theorem dX6_takeNumber_1 : decode cX6_takeNumber 1 = .ok (.istore_n 2, 1) := by decide +kernel
theorem dX6_takeNumber_2 : decode cX6_takeNumber 2 = .ok (.iconst 0, 1) := by decide +kernel
theorem dX6_takeNumber_3 : decode cX6_takeNumber 3 = .ok (.istore_n 3, 1) := by decide +kernel
theorem dX6_takeNumber_4 : decode cX6_takeNumber 4 = .ok (.iload_n 3, 1) := by decide +kernel
theorem dX6_takeNumber_5 : decode cX6_takeNumber 5 = .ok (.iload_n 1, 1) := by decide +kernel
theorem dX6_takeNumber_6 : decode cX6_takeNumber 6 = .ok (.if_icmp .ge 43, 3) := by decide +kernel
theorem dX6_takeNumber_9 : decode cX6_takeNumber 9 = .ok (.aload_n 0, 1) := by decide +kernel
theorem dX6_takeNumber_10 : decode cX6_takeNumber 10 = .ok (.iconst 0, 1) := by decide +kernel
theorem dX6_takeNumber_11 : decode cX6_takeNumber 11 = .ok (.bipush 9, 2) := by decide +kernel
theorem dX6_takeNumber_13 : decode cX6_takeNumber 13 = .ok (.invokevirtual 38, 3) := by decide +kernel
theorem dX6_takeNumber_16 : decode cX6_takeNumber 16 = .ok (.istore 4, 2) := by decide +kernel
theorem dX6_takeNumber_18 : decode cX6_takeNumber 18 = .ok (.iload 4, 2) := by decide +kernel
theorem dX6_takeNumber_20 : decode cX6_takeNumber 20 = .ok (.iconst (-1), 1) := by decide +kernel
theorem dX6_takeNumber_21 : decode cX6_takeNumber 21 = .ok (.if_icmp .ne 5, 3) := by decide +kernel
theorem dX6_takeNumber_24 : decode cX6_takeNumber 24 = .ok (.iload_n 2, 1) := by decide +kernel
theorem dX6_takeNumber_25 : decode cX6_takeNumber 25 = .ok (.ireturn, 1) := by decide +kernel
theorem dX6_takeNumber_26 : decode cX6_takeNumber 26 = .ok (.iload_n 3, 1) := by decide +kernel
theorem dX6_takeNumber_27 : decode cX6_takeNumber 27 = .ok (.ifCond .ne 8, 3) := by decide +kernel
theorem dX6_takeNumber_30 : decode cX6_takeNumber 30 = .ok (.iload 4, 2) := by decide +kernel
theorem dX6_takeNumber_32 : decode cX6_takeNumber 32 = .ok (.goto 10, 3) := by decide +kernel
theorem dX6_takeNumber_35 : decode cX6_takeNumber 35 = .ok (.iload_n 2, 1) := by decide +kernel
theorem dX6_takeNumber_36 : decode cX6_takeNumber 36 = .ok (.bipush 10, 2) := by decide +kernel
theorem dX6_takeNumber_38 : decode cX6_takeNumber 38 = .ok (.imul, 1) := by decide +kernel
theorem dX6_takeNumber_39 : decode cX6_takeNumber 39 = .ok (.iload 4, 2) := by decide +kernel
theorem dX6_takeNumber_41 : decode cX6_takeNumber 41 = .ok (.iadd, 1) := by decide +kernel
theorem dX6_takeNumber_42 : decode cX6_takeNumber 42 = .ok (.istore_n 2, 1) := by decide +kernel
theorem dX6_takeNumber_43 : decode cX6_takeNumber 43 = .ok (.iinc 3 1, 3) := by decide +kernel
theorem dX6_takeNumber_46 : decode cX6_takeNumber 46 = .ok (.goto (-42), 3) := by decide +kernel
theorem dX6_takeNumber_49 : decode cX6_takeNumber 49 = .ok (.iload_n 2, 1) := by decide +kernel
theorem dX6_takeNumber_50 : decode cX6_takeNumber 50 = .ok (.ireturn, 1) := by decide +kernel
theorem dX6_takeTwoDigits_0 : decode cX6_takeTwoDigits 0 = .ok (.aload_n 0, 1) := by decide +kernel
theorem dX6_takeTwoDigits_1 : decode cX6_takeTwoDigits 1 = .ok (.iconst 0, 1) := by decide +kernel
theorem dX6_takeTwoDigits_2 : decode cX6_takeTwoDigits 2 = .ok (.bipush 9, 2) := by decide +kernel
theorem dX6_takeTwoDigits_4 : decode cX6_takeTwoDigits 4 = .ok (.invokevirtual 38, 3) := by decide +kernel
theorem dX6_takeTwoDigits_7 : decode cX6_takeTwoDigits 7 = .ok (.istore_n 1, 1) := by decide +kernel
theorem dX6_takeTwoDigits_8 : decode cX6_takeTwoDigits 8 = .ok (.iload_n 1, 1) := by decide +kernel
theorem dX6_takeTwoDigits_9 : decode cX6_takeTwoDigits 9 = .ok (.iconst (-1), 1) := by decide +kernel
theorem dX6_takeTwoDigits_10 : decode cX6_takeTwoDigits 10 = .ok (.if_icmp .ne 7, 3) := by decide +kernel
theorem dX6_takeTwoDigits_13 : decode cX6_takeTwoDigits 13 = .ok (.iconst (-1), 1) := by decide +kernel
theorem dX6_takeTwoDigits_14 : decode cX6_takeTwoDigits 14 = .ok (.goto 10, 3) := by decide +kernel
theorem dX6_takeTwoDigits_17 : decode cX6_takeTwoDigits 17 = .ok (.aload_n 0, 1) := by decide +kernel
theorem dX6_takeTwoDigits_18 : decode cX6_takeTwoDigits 18 = .ok (.iconst 0, 1) := by decide +kernel
theorem dX6_takeTwoDigits_19 : decode cX6_takeTwoDigits 19 = .ok (.bipush 9, 2) := by decide +kernel
theorem dX6_takeTwoDigits_21 : decode cX6_takeTwoDigits 21 = .ok (.invokevirtual 38, 3) := by decide +kernel
theorem dX6_takeTwoDigits_24 : decode cX6_takeTwoDigits 24 = .ok (.istore_n 2, 1) := by decide +kernel
theorem dX6_takeTwoDigits_25 : decode cX6_takeTwoDigits 25 = .ok (.iload_n 2, 1) := by decide +kernel
theorem dX6_takeTwoDigits_26 : decode cX6_takeTwoDigits 26 = .ok (.iconst (-1), 1) := by decide +kernel
theorem dX6_takeTwoDigits_27 : decode cX6_takeTwoDigits 27 = .ok (.if_icmp .ne 7, 3) := by decide +kernel
theorem dX6_takeTwoDigits_30 : decode cX6_takeTwoDigits 30 = .ok (.iconst (-1), 1) := by decide +kernel
theorem dX6_takeTwoDigits_31 : decode cX6_takeTwoDigits 31 = .ok (.goto 9, 3) := by decide +kernel
theorem dX6_takeTwoDigits_34 : decode cX6_takeTwoDigits 34 = .ok (.iload_n 1, 1) := by decide +kernel
theorem dX6_takeTwoDigits_35 : decode cX6_takeTwoDigits 35 = .ok (.bipush 10, 2) := by decide +kernel
theorem dX6_takeTwoDigits_37 : decode cX6_takeTwoDigits 37 = .ok (.imul, 1) := by decide +kernel
theorem dX6_takeTwoDigits_38 : decode cX6_takeTwoDigits 38 = .ok (.iload_n 2, 1) := by decide +kernel
theorem dX6_takeTwoDigits_39 : decode cX6_takeTwoDigits 39 = .ok (.iadd, 1) := by decide +kernel
theorem dX6_takeTwoDigits_40 : decode cX6_takeTwoDigits 40 = .ok (.ireturn, 1) := by decide +kernel
theorem dX7_settle_0 : decode cX7_settle 0 = .ok (.iconst 0, 1) := by decide +kernel
theorem dX7_settle_1 : decode cX7_settle 1 = .ok (.istore_n 3, 1) := by decide +kernel
theorem dX7_settle_2 : decode cX7_settle 2 = .ok (.iload_n 3, 1) := by decide +kernel
theorem dX7_settle_3 : decode cX7_settle 3 = .ok (.iload_n 1, 1) := by decide +kernel
theorem dX7_settle_4 : decode cX7_settle 4 = .ok (.if_icmp .gt 33, 3) := by decide +kernel
theorem dX7_settle_7 : decode cX7_settle 7 = .ok (.iload_n 3, 1) := by decide +kernel
theorem dX7_settle_8 : decode cX7_settle 8 = .ok (.bipush 60, 2) := by decide +kernel
theorem dX7_settle_10 : decode cX7_settle 10 = .ok (.if_icmp .gt 27, 3) := by decide +kernel
theorem dX7_settle_13 : decode cX7_settle 13 = .ok (.aload_n 0, 1) := by decide +kernel
theorem dX7_settle_14 : decode cX7_settle 14 = .ok (.getfield 9, 3) := by decide +kernel
theorem dX7_settle_17 : decode cX7_settle 17 = .ok (.iload_n 3, 1) := by decide +kernel
theorem dX7_settle_18 : decode cX7_settle 18 = .ok (.iconst 0, 1) := by decide +kernel
theorem dX7_settle_19 : decode cX7_settle 19 = .ok (.iastore, 1) := by decide +kernel
theorem dX7_settle_20 : decode cX7_settle 20 = .ok (.aload_n 0, 1) := by decide +kernel
theorem dX7_settle_21 : decode cX7_settle 21 = .ok (.getfield 13, 3) := by decide +kernel
theorem dX7_settle_24 : decode cX7_settle 24 = .ok (.iload_n 3, 1) := by decide +kernel
theorem dX7_settle_25 : decode cX7_settle 25 = .ok (.iload_n 1, 1) := by decide +kernel
theorem dX7_settle_26 : decode cX7_settle 26 = .ok (.iload_n 3, 1) := by decide +kernel
theorem dX7_settle_27 : decode cX7_settle 27 = .ok (.invokestatic 16, 3) := by decide +kernel
theorem dX7_settle_30 : decode cX7_settle 30 = .ok (.iastore, 1) := by decide +kernel
theorem dX7_settle_31 : decode cX7_settle 31 = .ok (.iinc 3 1, 3) := by decide +kernel
theorem dX7_settle_34 : decode cX7_settle 34 = .ok (.goto (-32), 3) := by decide +kernel
theorem dX7_settle_37 : decode cX7_settle 37 = .ok (.iconst 0, 1) := by decide +kernel
theorem dX7_settle_38 : decode cX7_settle 38 = .ok (.istore_n 3, 1) := by decide +kernel
theorem dX7_settle_39 : decode cX7_settle 39 = .ok (.iload_n 3, 1) := by decide +kernel
theorem dX7_settle_40 : decode cX7_settle 40 = .ok (.iload_n 2, 1) := by decide +kernel
theorem dX7_settle_41 : decode cX7_settle 41 = .ok (.if_icmp .ge 38, 3) := by decide +kernel
theorem dX7_settle_44 : decode cX7_settle 44 = .ok (.iconst 0, 1) := by decide +kernel
theorem dX7_settle_45 : decode cX7_settle 45 = .ok (.istore 4, 2) := by decide +kernel
theorem dX7_settle_47 : decode cX7_settle 47 = .ok (.iload 4, 2) := by decide +kernel
theorem dX7_settle_49 : decode cX7_settle 49 = .ok (.iload_n 1, 1) := by decide +kernel
theorem dX7_settle_50 : decode cX7_settle 50 = .ok (.if_icmp .gt 23, 3) := by decide +kernel
theorem dX7_settle_53 : decode cX7_settle 53 = .ok (.iload 4, 2) := by decide +kernel
theorem dX7_settle_55 : decode cX7_settle 55 = .ok (.bipush 60, 2) := by decide +kernel
theorem dX7_settle_57 : decode cX7_settle 57 = .ok (.if_icmp .gt 16, 3) := by decide +kernel
theorem dX7_settle_60 : decode cX7_settle 60 = .ok (.aload_n 0, 1) := by decide +kernel
theorem dX7_settle_61 : decode cX7_settle 61 = .ok (.iload_n 1, 1) := by decide +kernel
theorem dX7_settle_62 : decode cX7_settle 62 = .ok (.iload 4, 2) := by decide +kernel
theorem dX7_settle_64 : decode cX7_settle 64 = .ok (.invokevirtual 20, 3) := by decide +kernel
theorem dX7_settle_67 : decode cX7_settle 67 = .ok (.iinc 4 1, 3) := by decide +kernel
theorem dX7_settle_70 : decode cX7_settle 70 = .ok (.goto (-23), 3) := by decide +kernel
theorem dX7_settle_73 : decode cX7_settle 73 = .ok (.iinc 3 1, 3) := by decide +kernel
theorem dX7_settle_76 : decode cX7_settle 76 = .ok (.goto (-37), 3) := by decide +kernel
theorem dX7_settle_79 : decode cX7_settle 79 = .ok (.return_, 1) := by decide +kernel
theorem dX7_takeTurn_0 : decode cX7_takeTurn 0 = .ok (.iconst 0, 1) := by decide +kernel
theorem dX7_takeTurn_1 : decode cX7_takeTurn 1 = .ok (.istore_n 3, 1) := by decide +kernel
theorem dX7_takeTurn_2 : decode cX7_takeTurn 2 = .ok (.iload_n 1, 1) := by decide +kernel
theorem dX7_takeTurn_3 : decode cX7_takeTurn 3 = .ok (.iload_n 2, 1) := by decide +kernel
theorem dX7_takeTurn_4 : decode cX7_takeTurn 4 = .ok (.invokestatic 16, 3) := by decide +kernel
theorem dX7_takeTurn_7 : decode cX7_takeTurn 7 = .ok (.istore 4, 2) := by decide +kernel
theorem dX7_takeTurn_9 : decode cX7_takeTurn 9 = .ok (.iconst 0, 1) := by decide +kernel
theorem dX7_takeTurn_10 : decode cX7_takeTurn 10 = .ok (.istore 5, 2) := by decide +kernel
theorem dX7_takeTurn_12 : decode cX7_takeTurn 12 = .ok (.iconst 1, 1) := by decide +kernel
theorem dX7_takeTurn_13 : decode cX7_takeTurn 13 = .ok (.istore 6, 2) := by decide +kernel
theorem dX7_takeTurn_15 : decode cX7_takeTurn 15 = .ok (.iload 6, 2) := by decide +kernel
theorem dX7_takeTurn_17 : decode cX7_takeTurn 17 = .ok (.iconst 3, 1) := by decide +kernel
theorem dX7_takeTurn_18 : decode cX7_takeTurn 18 = .ok (.if_icmp .gt 64, 3) := by decide +kernel
theorem dX7_takeTurn_21 : decode cX7_takeTurn 21 = .ok (.iload_n 2, 1) := by decide +kernel
theorem dX7_takeTurn_22 : decode cX7_takeTurn 22 = .ok (.iload 6, 2) := by decide +kernel
theorem dX7_takeTurn_24 : decode cX7_takeTurn 24 = .ok (.iadd, 1) := by decide +kernel
theorem dX7_takeTurn_25 : decode cX7_takeTurn 25 = .ok (.iload_n 1, 1) := by decide +kernel
theorem dX7_takeTurn_26 : decode cX7_takeTurn 26 = .ok (.if_icmp .gt 56, 3) := by decide +kernel
theorem dX7_takeTurn_29 : decode cX7_takeTurn 29 = .ok (.iload_n 2, 1) := by decide +kernel
theorem dX7_takeTurn_30 : decode cX7_takeTurn 30 = .ok (.iload 6, 2) := by decide +kernel
theorem dX7_takeTurn_32 : decode cX7_takeTurn 32 = .ok (.iadd, 1) := by decide +kernel
theorem dX7_takeTurn_33 : decode cX7_takeTurn 33 = .ok (.bipush 60, 2) := by decide +kernel
theorem dX7_takeTurn_35 : decode cX7_takeTurn 35 = .ok (.if_icmp .gt 47, 3) := by decide +kernel
theorem dX7_takeTurn_38 : decode cX7_takeTurn 38 = .ok (.aload_n 0, 1) := by decide +kernel
theorem dX7_takeTurn_39 : decode cX7_takeTurn 39 = .ok (.getfield 13, 3) := by decide +kernel
theorem dX7_takeTurn_42 : decode cX7_takeTurn 42 = .ok (.iload_n 2, 1) := by decide +kernel
theorem dX7_takeTurn_43 : decode cX7_takeTurn 43 = .ok (.iload 6, 2) := by decide +kernel
theorem dX7_takeTurn_45 : decode cX7_takeTurn 45 = .ok (.iadd, 1) := by decide +kernel
theorem dX7_takeTurn_46 : decode cX7_takeTurn 46 = .ok (.iaload, 1) := by decide +kernel
theorem dX7_takeTurn_47 : decode cX7_takeTurn 47 = .ok (.iload_n 3, 1) := by decide +kernel
theorem dX7_takeTurn_48 : decode cX7_takeTurn 48 = .ok (.if_icmp .le 28, 3) := by decide +kernel
theorem dX7_takeTurn_51 : decode cX7_takeTurn 51 = .ok (.aload_n 0, 1) := by decide +kernel
theorem dX7_takeTurn_52 : decode cX7_takeTurn 52 = .ok (.getfield 13, 3) := by decide +kernel
theorem dX7_takeTurn_55 : decode cX7_takeTurn 55 = .ok (.iload_n 2, 1) := by decide +kernel
theorem dX7_takeTurn_56 : decode cX7_takeTurn 56 = .ok (.iload 6, 2) := by decide +kernel
theorem dX7_takeTurn_58 : decode cX7_takeTurn 58 = .ok (.iadd, 1) := by decide +kernel
theorem dX7_takeTurn_59 : decode cX7_takeTurn 59 = .ok (.iaload, 1) := by decide +kernel
theorem dX7_takeTurn_60 : decode cX7_takeTurn 60 = .ok (.istore_n 3, 1) := by decide +kernel
theorem dX7_takeTurn_61 : decode cX7_takeTurn 61 = .ok (.aload_n 0, 1) := by decide +kernel
theorem dX7_takeTurn_62 : decode cX7_takeTurn 62 = .ok (.getfield 9, 3) := by decide +kernel
theorem dX7_takeTurn_65 : decode cX7_takeTurn 65 = .ok (.iload_n 2, 1) := by decide +kernel
theorem dX7_takeTurn_66 : decode cX7_takeTurn 66 = .ok (.iload 6, 2) := by decide +kernel
theorem dX7_takeTurn_68 : decode cX7_takeTurn 68 = .ok (.iadd, 1) := by decide +kernel
theorem dX7_takeTurn_69 : decode cX7_takeTurn 69 = .ok (.iaload, 1) := by decide +kernel
theorem dX7_takeTurn_70 : decode cX7_takeTurn 70 = .ok (.istore 4, 2) := by decide +kernel
theorem dX7_takeTurn_72 : decode cX7_takeTurn 72 = .ok (.iload 6, 2) := by decide +kernel
theorem dX7_takeTurn_74 : decode cX7_takeTurn 74 = .ok (.istore 5, 2) := by decide +kernel
theorem dX7_takeTurn_76 : decode cX7_takeTurn 76 = .ok (.iinc 6 1, 3) := by decide +kernel
theorem dX7_takeTurn_79 : decode cX7_takeTurn 79 = .ok (.goto (-64), 3) := by decide +kernel
theorem dX7_takeTurn_82 : decode cX7_takeTurn 82 = .ok (.aload_n 0, 1) := by decide +kernel
theorem dX7_takeTurn_83 : decode cX7_takeTurn 83 = .ok (.getfield 9, 3) := by decide +kernel
theorem dX7_takeTurn_86 : decode cX7_takeTurn 86 = .ok (.iload_n 2, 1) := by decide +kernel
theorem dX7_takeTurn_87 : decode cX7_takeTurn 87 = .ok (.iload_n 3, 1) := by decide +kernel
theorem dX7_takeTurn_88 : decode cX7_takeTurn 88 = .ok (.iastore, 1) := by decide +kernel
theorem dX7_takeTurn_89 : decode cX7_takeTurn 89 = .ok (.aload_n 0, 1) := by decide +kernel
theorem dX7_takeTurn_90 : decode cX7_takeTurn 90 = .ok (.getfield 13, 3) := by decide +kernel
theorem dX7_takeTurn_93 : decode cX7_takeTurn 93 = .ok (.iload_n 2, 1) := by decide +kernel
theorem dX7_takeTurn_94 : decode cX7_takeTurn 94 = .ok (.iload 4, 2) := by decide +kernel
theorem dX7_takeTurn_96 : decode cX7_takeTurn 96 = .ok (.iastore, 1) := by decide +kernel
theorem dX7_takeTurn_97 : decode cX7_takeTurn 97 = .ok (.iload_n 2, 1) := by decide +kernel
theorem dX7_takeTurn_98 : decode cX7_takeTurn 98 = .ok (.ifCond .ne 9, 3) := by decide +kernel
theorem dX7_takeTurn_101 : decode cX7_takeTurn 101 = .ok (.aload_n 0, 1) := by decide +kernel
theorem dX7_takeTurn_102 : decode cX7_takeTurn 102 = .ok (.iload 5, 2) := by decide +kernel
theorem dX7_takeTurn_104 : decode cX7_takeTurn 104 = .ok (.putfield 24, 3) := by decide +kernel
theorem dX7_takeTurn_107 : decode cX7_takeTurn 107 = .ok (.return_, 1) := by decide +kernel
theorem dX7_leftOf_0 : decode cX7_leftOf 0 = .ok (.iload_n 1, 1) := by decide +kernel
theorem dX7_leftOf_1 : decode cX7_leftOf 1 = .ok (.ifCond .le 9, 3) := by decide +kernel
theorem dX7_leftOf_4 : decode cX7_leftOf 4 = .ok (.iload_n 0, 1) := by decide +kernel
theorem dX7_leftOf_5 : decode cX7_leftOf 5 = .ok (.iload_n 1, 1) := by decide +kernel
theorem dX7_leftOf_6 : decode cX7_leftOf 6 = .ok (.isub, 1) := by decide +kernel
theorem dX7_leftOf_7 : decode cX7_leftOf 7 = .ok (.goto 4, 3) := by decide +kernel
theorem dX7_leftOf_10 : decode cX7_leftOf 10 = .ok (.iconst 0, 1) := by decide +kernel
theorem dX7_leftOf_11 : decode cX7_leftOf 11 = .ok (.ireturn, 1) := by decide +kernel
theorem dX8_clear_0 : decode cX8_clear 0 = .ok (.aload_n 0, 1) := by decide +kernel
theorem dX8_clear_1 : decode cX8_clear 1 = .ok (.iconst 0, 1) := by decide +kernel
theorem dX8_clear_2 : decode cX8_clear 2 = .ok (.putfield 18, 3) := by decide +kernel
theorem dX8_clear_5 : decode cX8_clear 5 = .ok (.aload_n 0, 1) := by decide +kernel
theorem dX8_clear_6 : decode cX8_clear 6 = .ok (.iconst 1, 1) := by decide +kernel
theorem dX8_clear_7 : decode cX8_clear 7 = .ok (.putfield 9, 3) := by decide +kernel
theorem dX8_clear_10 : decode cX8_clear 10 = .ok (.aload_n 0, 1) := by decide +kernel
theorem dX8_clear_11 : decode cX8_clear 11 = .ok (.bipush 99, 2) := by decide +kernel
theorem dX8_clear_13 : decode cX8_clear 13 = .ok (.putfield 15, 3) := by decide +kernel
theorem dX8_clear_16 : decode cX8_clear 16 = .ok (.return_, 1) := by decide +kernel
theorem dX8_add_0 : decode cX8_add 0 = .ok (.aload_n 0, 1) := by decide +kernel
theorem dX8_add_1 : decode cX8_add 1 = .ok (.dup, 1) := by decide +kernel
theorem dX8_add_2 : decode cX8_add 2 = .ok (.getfield 18, 3) := by decide +kernel
theorem dX8_add_5 : decode cX8_add 5 = .ok (.iconst 1, 1) := by decide +kernel
theorem dX8_add_6 : decode cX8_add 6 = .ok (.iadd, 1) := by decide +kernel
theorem dX8_add_7 : decode cX8_add 7 = .ok (.putfield 18, 3) := by decide +kernel
theorem dX8_add_10 : decode cX8_add 10 = .ok (.iload_n 2, 1) := by decide +kernel
theorem dX8_add_11 : decode cX8_add 11 = .ok (.ifCond .eq 18, 3) := by decide +kernel
theorem dX8_add_14 : decode cX8_add 14 = .ok (.aload_n 0, 1) := by decide +kernel
theorem dX8_add_15 : decode cX8_add 15 = .ok (.aload_n 0, 1) := by decide +kernel
theorem dX8_add_16 : decode cX8_add 16 = .ok (.getfield 9, 3) := by decide +kernel
theorem dX8_add_19 : decode cX8_add 19 = .ok (.iload_n 1, 1) := by decide +kernel
theorem dX8_add_20 : decode cX8_add 20 = .ok (.invokestatic 21, 3) := by decide +kernel
theorem dX8_add_23 : decode cX8_add 23 = .ok (.putfield 9, 3) := by decide +kernel
theorem dX8_add_26 : decode cX8_add 26 = .ok (.goto 17, 3) := by decide +kernel
theorem dX8_add_29 : decode cX8_add 29 = .ok (.aload_n 0, 1) := by decide +kernel
theorem dX8_add_30 : decode cX8_add 30 = .ok (.aload_n 0, 1) := by decide +kernel
theorem dX8_add_31 : decode cX8_add 31 = .ok (.getfield 15, 3) := by decide +kernel
theorem dX8_add_34 : decode cX8_add 34 = .ok (.iload_n 1, 1) := by decide +kernel
theorem dX8_add_35 : decode cX8_add 35 = .ok (.iconst 1, 1) := by decide +kernel
theorem dX8_add_36 : decode cX8_add 36 = .ok (.isub, 1) := by decide +kernel
theorem dX8_add_37 : decode cX8_add 37 = .ok (.invokestatic 27, 3) := by decide +kernel
theorem dX8_add_40 : decode cX8_add 40 = .ok (.putfield 15, 3) := by decide +kernel
theorem dX8_add_43 : decode cX8_add 43 = .ok (.return_, 1) := by decide +kernel
theorem dX8_allow_0 : decode cX8_allow 0 = .ok (.iload_n 1, 1) := by decide +kernel
theorem dX8_allow_1 : decode cX8_allow 1 = .ok (.aload_n 0, 1) := by decide +kernel
theorem dX8_allow_2 : decode cX8_allow 2 = .ok (.getfield 9, 3) := by decide +kernel
theorem dX8_allow_5 : decode cX8_allow 5 = .ok (.if_icmp .lt 15, 3) := by decide +kernel
theorem dX8_allow_8 : decode cX8_allow 8 = .ok (.iload_n 1, 1) := by decide +kernel
theorem dX8_allow_9 : decode cX8_allow 9 = .ok (.aload_n 0, 1) := by decide +kernel
theorem dX8_allow_10 : decode cX8_allow 10 = .ok (.getfield 15, 3) := by decide +kernel
theorem dX8_allow_13 : decode cX8_allow 13 = .ok (.if_icmp .gt 7, 3) := by decide +kernel
theorem dX8_allow_16 : decode cX8_allow 16 = .ok (.iconst 1, 1) := by decide +kernel
theorem dX8_allow_17 : decode cX8_allow 17 = .ok (.goto 4, 3) := by decide +kernel
theorem dX8_allow_20 : decode cX8_allow 20 = .ok (.iconst 0, 1) := by decide +kernel
theorem dX8_allow_21 : decode cX8_allow 21 = .ok (.ireturn, 1) := by decide +kernel
theorem dX9_read_0 : decode cX9_read 0 = .ok (.aload_n 0, 1) := by decide +kernel
theorem dX9_read_1 : decode cX9_read 1 = .ok (.iconst 0, 1) := by decide +kernel
theorem dX9_read_2 : decode cX9_read 2 = .ok (.putfield 15, 3) := by decide +kernel
theorem dX9_read_5 : decode cX9_read 5 = .ok (.aload_n 1, 1) := by decide +kernel
theorem dX9_read_6 : decode cX9_read 6 = .ok (.bipush 80, 2) := by decide +kernel
theorem dX9_read_8 : decode cX9_read 8 = .ok (.invokevirtual 21, 3) := by decide +kernel
theorem dX9_read_11 : decode cX9_read 11 = .ok (.iconst 0, 1) := by decide +kernel
theorem dX9_read_12 : decode cX9_read 12 = .ok (.istore_n 2, 1) := by decide +kernel
theorem dX9_read_13 : decode cX9_read 13 = .ok (.iload_n 2, 1) := by decide +kernel
theorem dX9_read_14 : decode cX9_read 14 = .ok (.iconst 4, 1) := by decide +kernel
theorem dX9_read_15 : decode cX9_read 15 = .ok (.if_icmp .ge 42, 3) := by decide +kernel
theorem dX9_read_18 : decode cX9_read 18 = .ok (.aload_n 1, 1) := by decide +kernel
theorem dX9_read_19 : decode cX9_read 19 = .ok (.iconst 1, 1) := by decide +kernel
theorem dX9_read_20 : decode cX9_read 20 = .ok (.bipush 9, 2) := by decide +kernel
theorem dX9_read_22 : decode cX9_read 22 = .ok (.invokevirtual 25, 3) := by decide +kernel
theorem dX9_read_25 : decode cX9_read 25 = .ok (.istore_n 3, 1) := by decide +kernel
theorem dX9_read_26 : decode cX9_read 26 = .ok (.iload_n 3, 1) := by decide +kernel
theorem dX9_read_27 : decode cX9_read 27 = .ok (.iconst (-1), 1) := by decide +kernel
theorem dX9_read_28 : decode cX9_read 28 = .ok (.if_icmp .ne 6, 3) := by decide +kernel
theorem dX9_read_31 : decode cX9_read 31 = .ok (.goto 26, 3) := by decide +kernel
theorem dX9_read_34 : decode cX9_read 34 = .ok (.aload_n 0, 1) := by decide +kernel
theorem dX9_read_35 : decode cX9_read 35 = .ok (.getfield 11, 3) := by decide +kernel
theorem dX9_read_38 : decode cX9_read 38 = .ok (.iload_n 2, 1) := by decide +kernel
theorem dX9_read_39 : decode cX9_read 39 = .ok (.iload_n 3, 1) := by decide +kernel
theorem dX9_read_40 : decode cX9_read 40 = .ok (.iastore, 1) := by decide +kernel
theorem dX9_read_41 : decode cX9_read 41 = .ok (.aload_n 0, 1) := by decide +kernel
theorem dX9_read_42 : decode cX9_read 42 = .ok (.dup, 1) := by decide +kernel
theorem dX9_read_43 : decode cX9_read 43 = .ok (.getfield 15, 3) := by decide +kernel
theorem dX9_read_46 : decode cX9_read 46 = .ok (.iconst 1, 1) := by decide +kernel
theorem dX9_read_47 : decode cX9_read 47 = .ok (.iadd, 1) := by decide +kernel
theorem dX9_read_48 : decode cX9_read 48 = .ok (.putfield 15, 3) := by decide +kernel
theorem dX9_read_51 : decode cX9_read 51 = .ok (.iinc 2 1, 3) := by decide +kernel
theorem dX9_read_54 : decode cX9_read 54 = .ok (.goto (-41), 3) := by decide +kernel
theorem dX9_read_57 : decode cX9_read 57 = .ok (.aload_n 0, 1) := by decide +kernel
theorem dX9_read_58 : decode cX9_read 58 = .ok (.getfield 15, 3) := by decide +kernel
theorem dX9_read_61 : decode cX9_read 61 = .ok (.ifCond .le 14, 3) := by decide +kernel
theorem dX9_read_64 : decode cX9_read 64 = .ok (.aload_n 1, 1) := by decide +kernel
theorem dX9_read_65 : decode cX9_read 65 = .ok (.invokevirtual 29, 3) := by decide +kernel
theorem dX9_read_68 : decode cX9_read 68 = .ok (.ifCond .eq 7, 3) := by decide +kernel
theorem dX9_read_71 : decode cX9_read 71 = .ok (.iconst 1, 1) := by decide +kernel
theorem dX9_read_72 : decode cX9_read 72 = .ok (.goto 4, 3) := by decide +kernel
theorem dX9_read_75 : decode cX9_read 75 = .ok (.iconst 0, 1) := by decide +kernel
theorem dX9_read_76 : decode cX9_read 76 = .ok (.ireturn, 1) := by decide +kernel
theorem dX9_man_0 : decode cX9_man 0 = .ok (.aload_n 0, 1) := by decide +kernel
theorem dX9_man_1 : decode cX9_man 1 = .ok (.iload_n 1, 1) := by decide +kernel
theorem dX9_man_2 : decode cX9_man 2 = .ok (.invokevirtual 33, 3) := by decide +kernel
theorem dX9_man_5 : decode cX9_man 5 = .ok (.istore_n 3, 1) := by decide +kernel
theorem dX9_man_6 : decode cX9_man 6 = .ok (.iload_n 1, 1) := by decide +kernel
theorem dX9_man_7 : decode cX9_man 7 = .ok (.istore 4, 2) := by decide +kernel
theorem dX9_man_9 : decode cX9_man 9 = .ok (.aload_n 2, 1) := by decide +kernel
theorem dX9_man_10 : decode cX9_man 10 = .ok (.invokevirtual 37, 3) := by decide +kernel
theorem dX9_man_13 : decode cX9_man 13 = .ok (.iconst 0, 1) := by decide +kernel
theorem dX9_man_14 : decode cX9_man 14 = .ok (.istore 5, 2) := by decide +kernel
theorem dX9_man_16 : decode cX9_man 16 = .ok (.iload 5, 2) := by decide +kernel
theorem dX9_man_18 : decode cX9_man 18 = .ok (.aload_n 0, 1) := by decide +kernel
theorem dX9_man_19 : decode cX9_man 19 = .ok (.getfield 15, 3) := by decide +kernel
theorem dX9_man_22 : decode cX9_man 22 = .ok (.if_icmp .ge 48, 3) := by decide +kernel
theorem dX9_man_25 : decode cX9_man 25 = .ok (.iload 5, 2) := by decide +kernel
theorem dX9_man_27 : decode cX9_man 27 = .ok (.aload_n 0, 1) := by decide +kernel
theorem dX9_man_28 : decode cX9_man 28 = .ok (.getfield 15, 3) := by decide +kernel
theorem dX9_man_31 : decode cX9_man 31 = .ok (.iconst 1, 1) := by decide +kernel
theorem dX9_man_32 : decode cX9_man 32 = .ok (.isub, 1) := by decide +kernel
theorem dX9_man_33 : decode cX9_man 33 = .ok (.if_icmp .ne 8, 3) := by decide +kernel
theorem dX9_man_36 : decode cX9_man 36 = .ok (.iload 4, 2) := by decide +kernel
theorem dX9_man_38 : decode cX9_man 38 = .ok (.goto 10, 3) := by decide +kernel
theorem dX9_man_41 : decode cX9_man 41 = .ok (.aload_n 0, 1) := by decide +kernel
theorem dX9_man_42 : decode cX9_man 42 = .ok (.iload 5, 2) := by decide +kernel
theorem dX9_man_44 : decode cX9_man 44 = .ok (.iload_n 3, 1) := by decide +kernel
theorem dX9_man_45 : decode cX9_man 45 = .ok (.invokevirtual 42, 3) := by decide +kernel
theorem dX9_man_48 : decode cX9_man 48 = .ok (.istore 6, 2) := by decide +kernel
theorem dX9_man_50 : decode cX9_man 50 = .ok (.aload_n 2, 1) := by decide +kernel
theorem dX9_man_51 : decode cX9_man 51 = .ok (.iload 6, 2) := by decide +kernel
theorem dX9_man_53 : decode cX9_man 53 = .ok (.i2l, 1) := by decide +kernel
theorem dX9_man_54 : decode cX9_man 54 = .ok (.invokevirtual 45, 3) := by decide +kernel
theorem dX9_man_57 : decode cX9_man 57 = .ok (.iload 4, 2) := by decide +kernel
theorem dX9_man_59 : decode cX9_man 59 = .ok (.iload 6, 2) := by decide +kernel
theorem dX9_man_61 : decode cX9_man 61 = .ok (.isub, 1) := by decide +kernel
theorem dX9_man_62 : decode cX9_man 62 = .ok (.istore 4, 2) := by decide +kernel
theorem dX9_man_64 : decode cX9_man 64 = .ok (.iinc 5 1, 3) := by decide +kernel
theorem dX9_man_67 : decode cX9_man 67 = .ok (.goto (-51), 3) := by decide +kernel
theorem dX9_man_70 : decode cX9_man 70 = .ok (.iload_n 3, 1) := by decide +kernel
theorem dX9_man_71 : decode cX9_man 71 = .ok (.ireturn, 1) := by decide +kernel
theorem dX9_bestShare_0 : decode cX9_bestShare 0 = .ok (.iconst 0, 1) := by decide +kernel
theorem dX9_bestShare_1 : decode cX9_bestShare 1 = .ok (.istore_n 2, 1) := by decide +kernel
theorem dX9_bestShare_2 : decode cX9_bestShare 2 = .ok (.iload_n 1, 1) := by decide +kernel
theorem dX9_bestShare_3 : decode cX9_bestShare 3 = .ok (.bipush 100, 2) := by decide +kernel
theorem dX9_bestShare_5 : decode cX9_bestShare 5 = .ok (.imul, 1) := by decide +kernel
theorem dX9_bestShare_6 : decode cX9_bestShare 6 = .ok (.istore_n 3, 1) := by decide +kernel
theorem dX9_bestShare_7 : decode cX9_bestShare 7 = .ok (.iconst 0, 1) := by decide +kernel
theorem dX9_bestShare_8 : decode cX9_bestShare 8 = .ok (.istore 4, 2) := by decide +kernel
theorem dX9_bestShare_10 : decode cX9_bestShare 10 = .ok (.iload 4, 2) := by decide +kernel
theorem dX9_bestShare_12 : decode cX9_bestShare 12 = .ok (.bipush 14, 2) := by decide +kernel
theorem dX9_bestShare_14 : decode cX9_bestShare 14 = .ok (.if_icmp .ge 44, 3) := by decide +kernel
theorem dX9_bestShare_17 : decode cX9_bestShare 17 = .ok (.iload_n 2, 1) := by decide +kernel
theorem dX9_bestShare_18 : decode cX9_bestShare 18 = .ok (.iload_n 3, 1) := by decide +kernel
theorem dX9_bestShare_19 : decode cX9_bestShare 19 = .ok (.if_icmp .ge 39, 3) := by decide +kernel
theorem dX9_bestShare_22 : decode cX9_bestShare 22 = .ok (.iload_n 2, 1) := by decide +kernel
theorem dX9_bestShare_23 : decode cX9_bestShare 23 = .ok (.iload_n 3, 1) := by decide +kernel
theorem dX9_bestShare_24 : decode cX9_bestShare 24 = .ok (.iadd, 1) := by decide +kernel
theorem dX9_bestShare_25 : decode cX9_bestShare 25 = .ok (.iconst 1, 1) := by decide +kernel
theorem dX9_bestShare_26 : decode cX9_bestShare 26 = .ok (.iadd, 1) := by decide +kernel
theorem dX9_bestShare_27 : decode cX9_bestShare 27 = .ok (.iconst 2, 1) := by decide +kernel
theorem dX9_bestShare_28 : decode cX9_bestShare 28 = .ok (.idiv, 1) := by decide +kernel
theorem dX9_bestShare_29 : decode cX9_bestShare 29 = .ok (.istore 5, 2) := by decide +kernel
theorem dX9_bestShare_31 : decode cX9_bestShare 31 = .ok (.aload_n 0, 1) := by decide +kernel
theorem dX9_bestShare_32 : decode cX9_bestShare 32 = .ok (.iload 5, 2) := by decide +kernel
theorem dX9_bestShare_34 : decode cX9_bestShare 34 = .ok (.invokevirtual 49, 3) := by decide +kernel
theorem dX9_bestShare_37 : decode cX9_bestShare 37 = .ok (.iload_n 1, 1) := by decide +kernel
theorem dX9_bestShare_38 : decode cX9_bestShare 38 = .ok (.if_icmp .gt 9, 3) := by decide +kernel
theorem dX9_bestShare_41 : decode cX9_bestShare 41 = .ok (.iload 5, 2) := by decide +kernel
theorem dX9_bestShare_43 : decode cX9_bestShare 43 = .ok (.istore_n 2, 1) := by decide +kernel
theorem dX9_bestShare_44 : decode cX9_bestShare 44 = .ok (.goto 8, 3) := by decide +kernel
theorem dX9_bestShare_47 : decode cX9_bestShare 47 = .ok (.iload 5, 2) := by decide +kernel
theorem dX9_bestShare_49 : decode cX9_bestShare 49 = .ok (.iconst 1, 1) := by decide +kernel
theorem dX9_bestShare_50 : decode cX9_bestShare 50 = .ok (.isub, 1) := by decide +kernel
theorem dX9_bestShare_51 : decode cX9_bestShare 51 = .ok (.istore_n 3, 1) := by decide +kernel
theorem dX9_bestShare_52 : decode cX9_bestShare 52 = .ok (.iinc 4 1, 3) := by decide +kernel
theorem dX9_bestShare_55 : decode cX9_bestShare 55 = .ok (.goto (-45), 3) := by decide +kernel
theorem dX9_bestShare_58 : decode cX9_bestShare 58 = .ok (.iload_n 2, 1) := by decide +kernel
theorem dX9_bestShare_59 : decode cX9_bestShare 59 = .ok (.ireturn, 1) := by decide +kernel
theorem dX9_menForAll_0 : decode cX9_menForAll 0 = .ok (.iconst 0, 1) := by decide +kernel
theorem dX9_menForAll_1 : decode cX9_menForAll 1 = .ok (.istore_n 2, 1) := by decide +kernel
theorem dX9_menForAll_2 : decode cX9_menForAll 2 = .ok (.iconst 0, 1) := by decide +kernel
theorem dX9_menForAll_3 : decode cX9_menForAll 3 = .ok (.istore_n 3, 1) := by decide +kernel
theorem dX9_menForAll_4 : decode cX9_menForAll 4 = .ok (.iload_n 3, 1) := by decide +kernel
theorem dX9_menForAll_5 : decode cX9_menForAll 5 = .ok (.aload_n 0, 1) := by decide +kernel
theorem dX9_menForAll_6 : decode cX9_menForAll 6 = .ok (.getfield 15, 3) := by decide +kernel
theorem dX9_menForAll_9 : decode cX9_menForAll 9 = .ok (.if_icmp .ge 18, 3) := by decide +kernel
theorem dX9_menForAll_12 : decode cX9_menForAll 12 = .ok (.iload_n 2, 1) := by decide +kernel
theorem dX9_menForAll_13 : decode cX9_menForAll 13 = .ok (.aload_n 0, 1) := by decide +kernel
theorem dX9_menForAll_14 : decode cX9_menForAll 14 = .ok (.iload_n 3, 1) := by decide +kernel
theorem dX9_menForAll_15 : decode cX9_menForAll 15 = .ok (.iload_n 1, 1) := by decide +kernel
theorem dX9_menForAll_16 : decode cX9_menForAll 16 = .ok (.invokevirtual 42, 3) := by decide +kernel
theorem dX9_menForAll_19 : decode cX9_menForAll 19 = .ok (.iadd, 1) := by decide +kernel
theorem dX9_menForAll_20 : decode cX9_menForAll 20 = .ok (.istore_n 2, 1) := by decide +kernel
theorem dX9_menForAll_21 : decode cX9_menForAll 21 = .ok (.iinc 3 1, 3) := by decide +kernel
theorem dX9_menForAll_24 : decode cX9_menForAll 24 = .ok (.goto (-20), 3) := by decide +kernel
theorem dX9_menForAll_27 : decode cX9_menForAll 27 = .ok (.iload_n 2, 1) := by decide +kernel
theorem dX9_menForAll_28 : decode cX9_menForAll 28 = .ok (.ireturn, 1) := by decide +kernel
theorem dX9_menFor_0 : decode cX9_menFor 0 = .ok (.iload_n 1, 1) := by decide +kernel
theorem dX9_menFor_1 : decode cX9_menFor 1 = .ok (.ifCond .lt 25, 3) := by decide +kernel
theorem dX9_menFor_4 : decode cX9_menFor 4 = .ok (.iload_n 1, 1) := by decide +kernel
theorem dX9_menFor_5 : decode cX9_menFor 5 = .ok (.iconst 4, 1) := by decide +kernel
theorem dX9_menFor_6 : decode cX9_menFor 6 = .ok (.if_icmp .ge 20, 3) := by decide +kernel
theorem dX9_menFor_9 : decode cX9_menFor 9 = .ok (.iload_n 2, 1) := by decide +kernel
theorem dX9_menFor_10 : decode cX9_menFor 10 = .ok (.aload_n 0, 1) := by decide +kernel
theorem dX9_menFor_11 : decode cX9_menFor 11 = .ok (.getfield 11, 3) := by decide +kernel
theorem dX9_menFor_14 : decode cX9_menFor 14 = .ok (.iload_n 1, 1) := by decide +kernel
theorem dX9_menFor_15 : decode cX9_menFor 15 = .ok (.iaload, 1) := by decide +kernel
theorem dX9_menFor_16 : decode cX9_menFor 16 = .ok (.imul, 1) := by decide +kernel
theorem dX9_menFor_17 : decode cX9_menFor 17 = .ok (.bipush 99, 2) := by decide +kernel
theorem dX9_menFor_19 : decode cX9_menFor 19 = .ok (.iadd, 1) := by decide +kernel
theorem dX9_menFor_20 : decode cX9_menFor 20 = .ok (.bipush 100, 2) := by decide +kernel
theorem dX9_menFor_22 : decode cX9_menFor 22 = .ok (.idiv, 1) := by decide +kernel
theorem dX9_menFor_23 : decode cX9_menFor 23 = .ok (.goto 4, 3) := by decide +kernel
theorem dX9_menFor_26 : decode cX9_menFor 26 = .ok (.iconst 0, 1) := by decide +kernel
theorem dX9_menFor_27 : decode cX9_menFor 27 = .ok (.ireturn, 1) := by decide +kernel
theorem dX10_start_0 : decode cX10_start 0 = .ok (.aload_n 0, 1) := by decide +kernel
theorem dX10_start_1 : decode cX10_start 1 = .ok (.aload_n 1, 1) := by decide +kernel
theorem dX10_start_2 : decode cX10_start 2 = .ok (.putfield 26, 3) := by decide +kernel
theorem dX10_start_5 : decode cX10_start 5 = .ok (.aload_n 0, 1) := by decide +kernel
theorem dX10_start_6 : decode cX10_start 6 = .ok (.iload_n 2, 1) := by decide +kernel
theorem dX10_start_7 : decode cX10_start 7 = .ok (.putfield 30, 3) := by decide +kernel
theorem dX10_start_10 : decode cX10_start 10 = .ok (.aload_n 0, 1) := by decide +kernel
theorem dX10_start_11 : decode cX10_start 11 = .ok (.lload_n 3, 1) := by decide +kernel
theorem dX10_start_12 : decode cX10_start 12 = .ok (.putfield 34, 3) := by decide +kernel
theorem dX10_start_15 : decode cX10_start 15 = .ok (.aload_n 0, 1) := by decide +kernel
theorem dX10_start_16 : decode cX10_start 16 = .ok (.getfield 12, 3) := by decide +kernel
theorem dX10_start_19 : decode cX10_start 19 = .ok (.invokevirtual 38, 3) := by decide +kernel
theorem dX10_start_22 : decode cX10_start 22 = .ok (.return_, 1) := by decide +kernel
theorem dX10_turnTo_0 : decode cX10_turnTo 0 = .ok (.aload_n 0, 1) := by decide +kernel
theorem dX10_turnTo_1 : decode cX10_turnTo 1 = .ok (.getfield 26, 3) := by decide +kernel
theorem dX10_turnTo_4 : decode cX10_turnTo 4 = .ok (.ifnull 20, 3) := by decide +kernel
theorem dX10_turnTo_7 : decode cX10_turnTo 7 = .ok (.aload_n 0, 1) := by decide +kernel
theorem dX10_turnTo_8 : decode cX10_turnTo 8 = .ok (.getfield 12, 3) := by decide +kernel
theorem dX10_turnTo_11 : decode cX10_turnTo 11 = .ok (.iload_n 1, 1) := by decide +kernel
theorem dX10_turnTo_12 : decode cX10_turnTo 12 = .ok (.iload_n 2, 1) := by decide +kernel
theorem dX10_turnTo_13 : decode cX10_turnTo 13 = .ok (.aload_n 0, 1) := by decide +kernel
theorem dX10_turnTo_14 : decode cX10_turnTo 14 = .ok (.getfield 26, 3) := by decide +kernel
theorem dX10_turnTo_17 : decode cX10_turnTo 17 = .ok (.aload_n 0, 1) := by decide +kernel
theorem dX10_turnTo_18 : decode cX10_turnTo 18 = .ok (.getfield 30, 3) := by decide +kernel
theorem dX10_turnTo_21 : decode cX10_turnTo 21 = .ok (.invokevirtual 41, 3) := by decide +kernel
theorem dX10_turnTo_24 : decode cX10_turnTo 24 = .ok (.return_, 1) := by decide +kernel
theorem dX10_pullTo_0 : decode cX10_pullTo 0 = .ok (.aload_n 0, 1) := by decide +kernel
theorem dX10_pullTo_1 : decode cX10_pullTo 1 = .ok (.getfield 12, 3) := by decide +kernel
theorem dX10_pullTo_4 : decode cX10_pullTo 4 = .ok (.aload_n 0, 1) := by decide +kernel
theorem dX10_pullTo_5 : decode cX10_pullTo 5 = .ok (.getfield 22, 3) := by decide +kernel
theorem dX10_pullTo_8 : decode cX10_pullTo 8 = .ok (.iload_n 2, 1) := by decide +kernel
theorem dX10_pullTo_9 : decode cX10_pullTo 9 = .ok (.invokevirtual 45, 3) := by decide +kernel
theorem dX10_pullTo_12 : decode cX10_pullTo 12 = .ok (.aload_n 0, 1) := by decide +kernel
theorem dX10_pullTo_13 : decode cX10_pullTo 13 = .ok (.getfield 22, 3) := by decide +kernel
theorem dX10_pullTo_16 : decode cX10_pullTo 16 = .ok (.iload_n 1, 1) := by decide +kernel
theorem dX10_pullTo_17 : decode cX10_pullTo 17 = .ok (.invokevirtual 45, 3) := by decide +kernel
theorem dX10_pullTo_20 : decode cX10_pullTo 20 = .ok (.isub, 1) := by decide +kernel
theorem dX10_pullTo_21 : decode cX10_pullTo 21 = .ok (.aload_n 0, 1) := by decide +kernel
theorem dX10_pullTo_22 : decode cX10_pullTo 22 = .ok (.getfield 34, 3) := by decide +kernel
theorem dX10_pullTo_25 : decode cX10_pullTo 25 = .ok (.iload_n 2, 1) := by decide +kernel
theorem dX10_pullTo_26 : decode cX10_pullTo 26 = .ok (.lushr, 1) := by decide +kernel
theorem dX10_pullTo_27 : decode cX10_pullTo 27 = .ok (.lconst 1, 1) := by decide +kernel
theorem dX10_pullTo_28 : decode cX10_pullTo 28 = .ok (.land, 1) := by decide +kernel
theorem dX10_pullTo_29 : decode cX10_pullTo 29 = .ok (.l2i, 1) := by decide +kernel
theorem dX10_pullTo_30 : decode cX10_pullTo 30 = .ok (.invokevirtual 51, 3) := by decide +kernel
theorem dX10_pullTo_33 : decode cX10_pullTo 33 = .ok (.ireturn, 1) := by decide +kernel
theorem dX10_oneDragFrom_0 : decode cX10_oneDragFrom 0 = .ok (.lconst 0, 1) := by decide +kernel
theorem dX10_oneDragFrom_1 : decode cX10_oneDragFrom 1 = .ok (.lstore 6, 2) := by decide +kernel
theorem dX10_oneDragFrom_3 : decode cX10_oneDragFrom 3 = .ok (.iconst 0, 1) := by decide +kernel
theorem dX10_oneDragFrom_4 : decode cX10_oneDragFrom 4 = .ok (.istore 8, 2) := by decide +kernel
theorem dX10_oneDragFrom_6 : decode cX10_oneDragFrom 6 = .ok (.iload 8, 2) := by decide +kernel
theorem dX10_oneDragFrom_8 : decode cX10_oneDragFrom 8 = .ok (.aload_n 0, 1) := by decide +kernel
theorem dX10_oneDragFrom_9 : decode cX10_oneDragFrom 9 = .ok (.getfield 22, 3) := by decide +kernel
theorem dX10_oneDragFrom_12 : decode cX10_oneDragFrom 12 = .ok (.getfield 55, 3) := by decide +kernel
theorem dX10_oneDragFrom_15 : decode cX10_oneDragFrom 15 = .ok (.if_icmp .ge 90, 3) := by decide +kernel
theorem dX10_oneDragFrom_18 : decode cX10_oneDragFrom 18 = .ok (.lload_n 1, 1) := by decide +kernel
theorem dX10_oneDragFrom_19 : decode cX10_oneDragFrom 19 = .ok (.iload 8, 2) := by decide +kernel
theorem dX10_oneDragFrom_21 : decode cX10_oneDragFrom 21 = .ok (.lushr, 1) := by decide +kernel
theorem dX10_oneDragFrom_22 : decode cX10_oneDragFrom 22 = .ok (.lconst 1, 1) := by decide +kernel
theorem dX10_oneDragFrom_23 : decode cX10_oneDragFrom 23 = .ok (.land, 1) := by decide +kernel
theorem dX10_oneDragFrom_24 : decode cX10_oneDragFrom 24 = .ok (.lconst 0, 1) := by decide +kernel
theorem dX10_oneDragFrom_25 : decode cX10_oneDragFrom 25 = .ok (.lcmp, 1) := by decide +kernel
theorem dX10_oneDragFrom_26 : decode cX10_oneDragFrom 26 = .ok (.ifCond .ne 6, 3) := by decide +kernel
theorem dX10_oneDragFrom_29 : decode cX10_oneDragFrom 29 = .ok (.goto 70, 3) := by decide +kernel
theorem dX10_oneDragFrom_32 : decode cX10_oneDragFrom 32 = .ok (.iconst 0, 1) := by decide +kernel
theorem dX10_oneDragFrom_33 : decode cX10_oneDragFrom 33 = .ok (.istore 9, 2) := by decide +kernel
theorem dX10_oneDragFrom_35 : decode cX10_oneDragFrom 35 = .ok (.iload 9, 2) := by decide +kernel
theorem dX10_oneDragFrom_37 : decode cX10_oneDragFrom 37 = .ok (.iconst 4, 1) := by decide +kernel
theorem dX10_oneDragFrom_38 : decode cX10_oneDragFrom 38 = .ok (.if_icmp .ge 61, 3) := by decide +kernel
theorem dX10_oneDragFrom_41 : decode cX10_oneDragFrom 41 = .ok (.aload_n 0, 1) := by decide +kernel
theorem dX10_oneDragFrom_42 : decode cX10_oneDragFrom 42 = .ok (.getfield 22, 3) := by decide +kernel
theorem dX10_oneDragFrom_45 : decode cX10_oneDragFrom 45 = .ok (.iload 8, 2) := by decide +kernel
theorem dX10_oneDragFrom_47 : decode cX10_oneDragFrom 47 = .ok (.iload 9, 2) := by decide +kernel
theorem dX10_oneDragFrom_49 : decode cX10_oneDragFrom 49 = .ok (.invokevirtual 58, 3) := by decide +kernel
theorem dX10_oneDragFrom_52 : decode cX10_oneDragFrom 52 = .ok (.istore 10, 2) := by decide +kernel
theorem dX10_oneDragFrom_54 : decode cX10_oneDragFrom 54 = .ok (.iload 10, 2) := by decide +kernel
theorem dX10_oneDragFrom_56 : decode cX10_oneDragFrom 56 = .ok (.iconst (-1), 1) := by decide +kernel
theorem dX10_oneDragFrom_57 : decode cX10_oneDragFrom 57 = .ok (.if_icmp .eq 36, 3) := by decide +kernel
theorem dX10_oneDragFrom_60 : decode cX10_oneDragFrom 60 = .ok (.lload_n 3, 1) := by decide +kernel
theorem dX10_oneDragFrom_61 : decode cX10_oneDragFrom 61 = .ok (.iload 10, 2) := by decide +kernel
theorem dX10_oneDragFrom_63 : decode cX10_oneDragFrom 63 = .ok (.lushr, 1) := by decide +kernel
theorem dX10_oneDragFrom_64 : decode cX10_oneDragFrom 64 = .ok (.lconst 1, 1) := by decide +kernel
theorem dX10_oneDragFrom_65 : decode cX10_oneDragFrom 65 = .ok (.land, 1) := by decide +kernel
theorem dX10_oneDragFrom_66 : decode cX10_oneDragFrom 66 = .ok (.lconst 0, 1) := by decide +kernel
theorem dX10_oneDragFrom_67 : decode cX10_oneDragFrom 67 = .ok (.lcmp, 1) := by decide +kernel
theorem dX10_oneDragFrom_68 : decode cX10_oneDragFrom 68 = .ok (.ifCond .ne 25, 3) := by decide +kernel
theorem dX10_oneDragFrom_71 : decode cX10_oneDragFrom 71 = .ok (.aload_n 0, 1) := by decide +kernel
theorem dX10_oneDragFrom_72 : decode cX10_oneDragFrom 72 = .ok (.iload 8, 2) := by decide +kernel
theorem dX10_oneDragFrom_74 : decode cX10_oneDragFrom 74 = .ok (.iload 10, 2) := by decide +kernel
theorem dX10_oneDragFrom_76 : decode cX10_oneDragFrom 76 = .ok (.invokevirtual 61, 3) := by decide +kernel
theorem dX10_oneDragFrom_79 : decode cX10_oneDragFrom 79 = .ok (.iload 5, 2) := by decide +kernel
theorem dX10_oneDragFrom_81 : decode cX10_oneDragFrom 81 = .ok (.if_icmp .gt 12, 3) := by decide +kernel
theorem dX10_oneDragFrom_84 : decode cX10_oneDragFrom 84 = .ok (.lload 6, 2) := by decide +kernel
theorem dX10_oneDragFrom_86 : decode cX10_oneDragFrom 86 = .ok (.lconst 1, 1) := by decide +kernel
theorem dX10_oneDragFrom_87 : decode cX10_oneDragFrom 87 = .ok (.iload 10, 2) := by decide +kernel
theorem dX10_oneDragFrom_89 : decode cX10_oneDragFrom 89 = .ok (.lshl, 1) := by decide +kernel
theorem dX10_oneDragFrom_90 : decode cX10_oneDragFrom 90 = .ok (.lor, 1) := by decide +kernel
theorem dX10_oneDragFrom_91 : decode cX10_oneDragFrom 91 = .ok (.lstore 6, 2) := by decide +kernel
theorem dX10_oneDragFrom_93 : decode cX10_oneDragFrom 93 = .ok (.iinc 9 1, 3) := by decide +kernel
theorem dX10_oneDragFrom_96 : decode cX10_oneDragFrom 96 = .ok (.goto (-61), 3) := by decide +kernel
theorem dX10_oneDragFrom_99 : decode cX10_oneDragFrom 99 = .ok (.iinc 8 1, 3) := by decide +kernel
theorem dX10_oneDragFrom_102 : decode cX10_oneDragFrom 102 = .ok (.goto (-96), 3) := by decide +kernel
theorem dX10_oneDragFrom_105 : decode cX10_oneDragFrom 105 = .ok (.lload 6, 2) := by decide +kernel
theorem dX10_oneDragFrom_107 : decode cX10_oneDragFrom 107 = .ok (.lreturn, 1) := by decide +kernel
theorem dX10_reached_0 : decode cX10_reached 0 = .ok (.lload_n 1, 1) := by decide +kernel
theorem dX10_reached_1 : decode cX10_reached 1 = .ok (.lstore 4, 2) := by decide +kernel
theorem dX10_reached_3 : decode cX10_reached 3 = .ok (.lload_n 1, 1) := by decide +kernel
theorem dX10_reached_4 : decode cX10_reached 4 = .ok (.lstore 6, 2) := by decide +kernel
theorem dX10_reached_6 : decode cX10_reached 6 = .ok (.iconst 0, 1) := by decide +kernel
theorem dX10_reached_7 : decode cX10_reached 7 = .ok (.istore 8, 2) := by decide +kernel
theorem dX10_reached_9 : decode cX10_reached 9 = .ok (.iload 8, 2) := by decide +kernel
theorem dX10_reached_11 : decode cX10_reached 11 = .ok (.bipush 36, 2) := by decide +kernel
theorem dX10_reached_13 : decode cX10_reached 13 = .ok (.if_icmp .ge 34, 3) := by decide +kernel
theorem dX10_reached_16 : decode cX10_reached 16 = .ok (.lload 6, 2) := by decide +kernel
theorem dX10_reached_18 : decode cX10_reached 18 = .ok (.lconst 0, 1) := by decide +kernel
theorem dX10_reached_19 : decode cX10_reached 19 = .ok (.lcmp, 1) := by decide +kernel
theorem dX10_reached_20 : decode cX10_reached 20 = .ok (.ifCond .eq 27, 3) := by decide +kernel
theorem dX10_reached_23 : decode cX10_reached 23 = .ok (.aload_n 0, 1) := by decide +kernel
theorem dX10_reached_24 : decode cX10_reached 24 = .ok (.lload 6, 2) := by decide +kernel
theorem dX10_reached_26 : decode cX10_reached 26 = .ok (.lload 4, 2) := by decide +kernel
theorem dX10_reached_28 : decode cX10_reached 28 = .ok (.iload_n 3, 1) := by decide +kernel
theorem dX10_reached_29 : decode cX10_reached 29 = .ok (.invokevirtual 64, 3) := by decide +kernel
theorem dX10_reached_32 : decode cX10_reached 32 = .ok (.lstore 6, 2) := by decide +kernel
theorem dX10_reached_34 : decode cX10_reached 34 = .ok (.lload 4, 2) := by decide +kernel
theorem dX10_reached_36 : decode cX10_reached 36 = .ok (.lload 6, 2) := by decide +kernel
theorem dX10_reached_38 : decode cX10_reached 38 = .ok (.lor, 1) := by decide +kernel
theorem dX10_reached_39 : decode cX10_reached 39 = .ok (.lstore 4, 2) := by decide +kernel
theorem dX10_reached_41 : decode cX10_reached 41 = .ok (.iinc 8 1, 3) := by decide +kernel
theorem dX10_reached_44 : decode cX10_reached 44 = .ok (.goto (-35), 3) := by decide +kernel
theorem dX10_reached_47 : decode cX10_reached 47 = .ok (.lload 4, 2) := by decide +kernel
theorem dX10_reached_49 : decode cX10_reached 49 = .ok (.lreturn, 1) := by decide +kernel
theorem dX10_leastMost_0 : decode cX10_leastMost 0 = .ok (.aload_n 0, 1) := by decide +kernel
theorem dX10_leastMost_1 : decode cX10_leastMost 1 = .ok (.lload_n 1, 1) := by decide +kernel
theorem dX10_leastMost_2 : decode cX10_leastMost 2 = .ok (.sipush 1498, 3) := by decide +kernel
theorem dX10_leastMost_5 : decode cX10_leastMost 5 = .ok (.invokevirtual 68, 3) := by decide +kernel
theorem dX10_leastMost_8 : decode cX10_leastMost 8 = .ok (.lload_n 3, 1) := by decide +kernel
theorem dX10_leastMost_9 : decode cX10_leastMost 9 = .ok (.land, 1) := by decide +kernel
theorem dX10_leastMost_10 : decode cX10_leastMost 10 = .ok (.lconst 0, 1) := by decide +kernel
theorem dX10_leastMost_11 : decode cX10_leastMost 11 = .ok (.lcmp, 1) := by decide +kernel
theorem dX10_leastMost_12 : decode cX10_leastMost 12 = .ok (.ifCond .ne 5, 3) := by decide +kernel
theorem dX10_leastMost_15 : decode cX10_leastMost 15 = .ok (.iconst (-1), 1) := by decide +kernel
theorem dX10_leastMost_16 : decode cX10_leastMost 16 = .ok (.ireturn, 1) := by decide +kernel
theorem dX10_leastMost_17 : decode cX10_leastMost 17 = .ok (.iconst 0, 1) := by decide +kernel
theorem dX10_leastMost_18 : decode cX10_leastMost 18 = .ok (.istore 5, 2) := by decide +kernel
theorem dX10_leastMost_20 : decode cX10_leastMost 20 = .ok (.sipush 1498, 3) := by decide +kernel
theorem dX10_leastMost_23 : decode cX10_leastMost 23 = .ok (.istore 6, 2) := by decide +kernel
theorem dX10_leastMost_25 : decode cX10_leastMost 25 = .ok (.iconst 0, 1) := by decide +kernel
theorem dX10_leastMost_26 : decode cX10_leastMost 26 = .ok (.istore 7, 2) := by decide +kernel
theorem dX10_leastMost_28 : decode cX10_leastMost 28 = .ok (.iload 7, 2) := by decide +kernel
theorem dX10_leastMost_30 : decode cX10_leastMost 30 = .ok (.bipush 12, 2) := by decide +kernel
theorem dX10_leastMost_32 : decode cX10_leastMost 32 = .ok (.if_icmp .ge 52, 3) := by decide +kernel
theorem dX10_leastMost_35 : decode cX10_leastMost 35 = .ok (.iload 5, 2) := by decide +kernel
theorem dX10_leastMost_37 : decode cX10_leastMost 37 = .ok (.iload 6, 2) := by decide +kernel
theorem dX10_leastMost_39 : decode cX10_leastMost 39 = .ok (.if_icmp .ge 45, 3) := by decide +kernel
theorem dX10_leastMost_42 : decode cX10_leastMost 42 = .ok (.iload 5, 2) := by decide +kernel
theorem dX10_leastMost_44 : decode cX10_leastMost 44 = .ok (.iload 6, 2) := by decide +kernel
theorem dX10_leastMost_46 : decode cX10_leastMost 46 = .ok (.iadd, 1) := by decide +kernel
theorem dX10_leastMost_47 : decode cX10_leastMost 47 = .ok (.iconst 2, 1) := by decide +kernel
theorem dX10_leastMost_48 : decode cX10_leastMost 48 = .ok (.idiv, 1) := by decide +kernel
theorem dX10_leastMost_49 : decode cX10_leastMost 49 = .ok (.istore 8, 2) := by decide +kernel
theorem dX10_leastMost_51 : decode cX10_leastMost 51 = .ok (.aload_n 0, 1) := by decide +kernel
theorem dX10_leastMost_52 : decode cX10_leastMost 52 = .ok (.lload_n 1, 1) := by decide +kernel
theorem dX10_leastMost_53 : decode cX10_leastMost 53 = .ok (.iload 8, 2) := by decide +kernel
theorem dX10_leastMost_55 : decode cX10_leastMost 55 = .ok (.invokevirtual 68, 3) := by decide +kernel
theorem dX10_leastMost_58 : decode cX10_leastMost 58 = .ok (.lload_n 3, 1) := by decide +kernel
theorem dX10_leastMost_59 : decode cX10_leastMost 59 = .ok (.land, 1) := by decide +kernel
theorem dX10_leastMost_60 : decode cX10_leastMost 60 = .ok (.lconst 0, 1) := by decide +kernel
theorem dX10_leastMost_61 : decode cX10_leastMost 61 = .ok (.lcmp, 1) := by decide +kernel
theorem dX10_leastMost_62 : decode cX10_leastMost 62 = .ok (.ifCond .ne 12, 3) := by decide +kernel
theorem dX10_leastMost_65 : decode cX10_leastMost 65 = .ok (.iload 8, 2) := by decide +kernel
theorem dX10_leastMost_67 : decode cX10_leastMost 67 = .ok (.iconst 1, 1) := by decide +kernel
theorem dX10_leastMost_68 : decode cX10_leastMost 68 = .ok (.iadd, 1) := by decide +kernel
theorem dX10_leastMost_69 : decode cX10_leastMost 69 = .ok (.istore 5, 2) := by decide +kernel
theorem dX10_leastMost_71 : decode cX10_leastMost 71 = .ok (.goto 7, 3) := by decide +kernel
theorem dX10_leastMost_74 : decode cX10_leastMost 74 = .ok (.iload 8, 2) := by decide +kernel
theorem dX10_leastMost_76 : decode cX10_leastMost 76 = .ok (.istore 6, 2) := by decide +kernel
theorem dX10_leastMost_78 : decode cX10_leastMost 78 = .ok (.iinc 7 1, 3) := by decide +kernel
theorem dX10_leastMost_81 : decode cX10_leastMost 81 = .ok (.goto (-53), 3) := by decide +kernel
theorem dX10_leastMost_84 : decode cX10_leastMost 84 = .ok (.iload 6, 2) := by decide +kernel
theorem dX10_leastMost_86 : decode cX10_leastMost 86 = .ok (.ireturn, 1) := by decide +kernel
theorem dX10_crosses_0 : decode cX10_crosses 0 = .ok (.aload_n 0, 1) := by decide +kernel
theorem dX10_crosses_1 : decode cX10_crosses 1 = .ok (.aload_n 0, 1) := by decide +kernel
theorem dX10_crosses_2 : decode cX10_crosses 2 = .ok (.getfield 22, 3) := by decide +kernel
theorem dX10_crosses_5 : decode cX10_crosses 5 = .ok (.getfield 72, 3) := by decide +kernel
theorem dX10_crosses_8 : decode cX10_crosses 8 = .ok (.iload_n 1, 1) := by decide +kernel
theorem dX10_crosses_9 : decode cX10_crosses 9 = .ok (.invokevirtual 68, 3) := by decide +kernel
theorem dX10_crosses_12 : decode cX10_crosses 12 = .ok (.aload_n 0, 1) := by decide +kernel
theorem dX10_crosses_13 : decode cX10_crosses 13 = .ok (.getfield 22, 3) := by decide +kernel
theorem dX10_crosses_16 : decode cX10_crosses 16 = .ok (.getfield 75, 3) := by decide +kernel
theorem dX10_crosses_19 : decode cX10_crosses 19 = .ok (.land, 1) := by decide +kernel
theorem dX10_crosses_20 : decode cX10_crosses 20 = .ok (.lconst 0, 1) := by decide +kernel
theorem dX10_crosses_21 : decode cX10_crosses 21 = .ok (.lcmp, 1) := by decide +kernel
theorem dX10_crosses_22 : decode cX10_crosses 22 = .ok (.ifCond .eq 7, 3) := by decide +kernel
theorem dX10_crosses_25 : decode cX10_crosses 25 = .ok (.iconst 1, 1) := by decide +kernel
theorem dX10_crosses_26 : decode cX10_crosses 26 = .ok (.goto 4, 3) := by decide +kernel
theorem dX10_crosses_29 : decode cX10_crosses 29 = .ok (.iconst 0, 1) := by decide +kernel
theorem dX10_crosses_30 : decode cX10_crosses 30 = .ok (.ireturn, 1) := by decide +kernel
theorem dX10_startLaying_0 : decode cX10_startLaying 0 = .ok (.aload_n 0, 1) := by decide +kernel
theorem dX10_startLaying_1 : decode cX10_startLaying 1 = .ok (.sipush 1499, 3) := by decide +kernel
theorem dX10_startLaying_4 : decode cX10_startLaying 4 = .ok (.putfield 78, 3) := by decide +kernel
theorem dX10_startLaying_7 : decode cX10_startLaying 7 = .ok (.aload_n 0, 1) := by decide +kernel
theorem dX10_startLaying_8 : decode cX10_startLaying 8 = .ok (.lconst 0, 1) := by decide +kernel
theorem dX10_startLaying_9 : decode cX10_startLaying 9 = .ok (.putfield 81, 3) := by decide +kernel
theorem dX10_startLaying_12 : decode cX10_startLaying 12 = .ok (.return_, 1) := by decide +kernel
theorem dX10_tryPlanks_0 : decode cX10_tryPlanks 0 = .ok (.aload_n 0, 1) := by decide +kernel
theorem dX10_tryPlanks_1 : decode cX10_tryPlanks 1 = .ok (.lload_n 1, 1) := by decide +kernel
theorem dX10_tryPlanks_2 : decode cX10_tryPlanks 2 = .ok (.lload_n 3, 1) := by decide +kernel
theorem dX10_tryPlanks_3 : decode cX10_tryPlanks 3 = .ok (.lor, 1) := by decide +kernel
theorem dX10_tryPlanks_4 : decode cX10_tryPlanks 4 = .ok (.putfield 34, 3) := by decide +kernel
theorem dX10_tryPlanks_7 : decode cX10_tryPlanks 7 = .ok (.aload_n 0, 1) := by decide +kernel
theorem dX10_tryPlanks_8 : decode cX10_tryPlanks 8 = .ok (.aload_n 0, 1) := by decide +kernel
theorem dX10_tryPlanks_9 : decode cX10_tryPlanks 9 = .ok (.getfield 78, 3) := by decide +kernel
theorem dX10_tryPlanks_12 : decode cX10_tryPlanks 12 = .ok (.iconst 1, 1) := by decide +kernel
theorem dX10_tryPlanks_13 : decode cX10_tryPlanks 13 = .ok (.isub, 1) := by decide +kernel
theorem dX10_tryPlanks_14 : decode cX10_tryPlanks 14 = .ok (.invokevirtual 84, 3) := by decide +kernel
theorem dX10_tryPlanks_17 : decode cX10_tryPlanks 17 = .ok (.ifCond .eq 30, 3) := by decide +kernel
theorem dX10_tryPlanks_20 : decode cX10_tryPlanks 20 = .ok (.aload_n 0, 1) := by decide +kernel
theorem dX10_tryPlanks_21 : decode cX10_tryPlanks 21 = .ok (.aload_n 0, 1) := by decide +kernel
theorem dX10_tryPlanks_22 : decode cX10_tryPlanks 22 = .ok (.aload_n 0, 1) := by decide +kernel
theorem dX10_tryPlanks_23 : decode cX10_tryPlanks 23 = .ok (.getfield 22, 3) := by decide +kernel
theorem dX10_tryPlanks_26 : decode cX10_tryPlanks 26 = .ok (.getfield 72, 3) := by decide +kernel
theorem dX10_tryPlanks_29 : decode cX10_tryPlanks 29 = .ok (.aload_n 0, 1) := by decide +kernel
theorem dX10_tryPlanks_30 : decode cX10_tryPlanks 30 = .ok (.getfield 22, 3) := by decide +kernel
theorem dX10_tryPlanks_33 : decode cX10_tryPlanks 33 = .ok (.getfield 75, 3) := by decide +kernel
theorem dX10_tryPlanks_36 : decode cX10_tryPlanks 36 = .ok (.invokevirtual 88, 3) := by decide +kernel
theorem dX10_tryPlanks_39 : decode cX10_tryPlanks 39 = .ok (.putfield 78, 3) := by decide +kernel
theorem dX10_tryPlanks_42 : decode cX10_tryPlanks 42 = .ok (.aload_n 0, 1) := by decide +kernel
theorem dX10_tryPlanks_43 : decode cX10_tryPlanks 43 = .ok (.lload_n 3, 1) := by decide +kernel
theorem dX10_tryPlanks_44 : decode cX10_tryPlanks 44 = .ok (.putfield 81, 3) := by decide +kernel
theorem dX10_tryPlanks_47 : decode cX10_tryPlanks 47 = .ok (.return_, 1) := by decide +kernel
theorem dX10_measure_0 : decode cX10_measure 0 = .ok (.aload_n 0, 1) := by decide +kernel
theorem dX10_measure_1 : decode cX10_measure 1 = .ok (.getfield 18, 3) := by decide +kernel
theorem dX10_measure_4 : decode cX10_measure 4 = .ok (.ldc 92, 2) := by decide +kernel
theorem dX10_measure_6 : decode cX10_measure 6 = .ok (.invokestatic 93, 3) := by decide +kernel
theorem dX10_measure_9 : decode cX10_measure 9 = .ok (.aload_n 0, 1) := by decide +kernel
theorem dX10_measure_10 : decode cX10_measure 10 = .ok (.getfield 22, 3) := by decide +kernel
theorem dX10_measure_13 : decode cX10_measure 13 = .ok (.iload_n 1, 1) := by decide +kernel
theorem dX10_measure_14 : decode cX10_measure 14 = .ok (.invokevirtual 99, 3) := by decide +kernel
theorem dX10_measure_17 : decode cX10_measure 17 = .ok (.ifCond .ne 4, 3) := by decide +kernel
theorem dX10_measure_20 : decode cX10_measure 20 = .ok (.return_, 1) := by decide +kernel
theorem dX10_measure_21 : decode cX10_measure 21 = .ok (.aload_n 0, 1) := by decide +kernel
theorem dX10_measure_22 : decode cX10_measure 22 = .ok (.getfield 18, 3) := by decide +kernel
theorem dX10_measure_25 : decode cX10_measure 25 = .ok (.iload_n 1, 1) := by decide +kernel
theorem dX10_measure_26 : decode cX10_measure 26 = .ok (.iconst 0, 1) := by decide +kernel
theorem dX10_measure_27 : decode cX10_measure 27 = .ok (.iastore, 1) := by decide +kernel
theorem dX10_measure_28 : decode cX10_measure 28 = .ok (.ldc2_w 102, 3) := by decide +kernel
theorem dX10_measure_31 : decode cX10_measure 31 = .ok (.lstore 4, 2) := by decide +kernel
theorem dX10_measure_33 : decode cX10_measure 33 = .ok (.iconst 0, 1) := by decide +kernel
theorem dX10_measure_34 : decode cX10_measure 34 = .ok (.istore 6, 2) := by decide +kernel
theorem dX10_measure_36 : decode cX10_measure 36 = .ok (.iload 6, 2) := by decide +kernel
theorem dX10_measure_38 : decode cX10_measure 38 = .ok (.bipush 36, 2) := by decide +kernel
theorem dX10_measure_40 : decode cX10_measure 40 = .ok (.if_icmp .ge 45, 3) := by decide +kernel
theorem dX10_measure_43 : decode cX10_measure 43 = .ok (.aload_n 0, 1) := by decide +kernel
theorem dX10_measure_44 : decode cX10_measure 44 = .ok (.lload 4, 2) := by decide +kernel
theorem dX10_measure_46 : decode cX10_measure 46 = .ok (.invokevirtual 104, 3) := by decide +kernel
theorem dX10_measure_49 : decode cX10_measure 49 = .ok (.istore 7, 2) := by decide +kernel
theorem dX10_measure_51 : decode cX10_measure 51 = .ok (.iload 7, 2) := by decide +kernel
theorem dX10_measure_53 : decode cX10_measure 53 = .ok (.iconst (-1), 1) := by decide +kernel
theorem dX10_measure_54 : decode cX10_measure 54 = .ok (.if_icmp .ne 4, 3) := by decide +kernel
theorem dX10_measure_57 : decode cX10_measure 57 = .ok (.return_, 1) := by decide +kernel
theorem dX10_measure_58 : decode cX10_measure 58 = .ok (.lload 4, 2) := by decide +kernel
theorem dX10_measure_60 : decode cX10_measure 60 = .ok (.lconst 1, 1) := by decide +kernel
theorem dX10_measure_61 : decode cX10_measure 61 = .ok (.iload 7, 2) := by decide +kernel
theorem dX10_measure_63 : decode cX10_measure 63 = .ok (.lshl, 1) := by decide +kernel
theorem dX10_measure_64 : decode cX10_measure 64 = .ok (.ldc2_w 102, 3) := by decide +kernel
theorem dX10_measure_67 : decode cX10_measure 67 = .ok (.lxor, 1) := by decide +kernel
theorem dX10_measure_68 : decode cX10_measure 68 = .ok (.land, 1) := by decide +kernel
theorem dX10_measure_69 : decode cX10_measure 69 = .ok (.lstore 4, 2) := by decide +kernel
theorem dX10_measure_71 : decode cX10_measure 71 = .ok (.aload_n 0, 1) := by decide +kernel
theorem dX10_measure_72 : decode cX10_measure 72 = .ok (.iload 7, 2) := by decide +kernel
theorem dX10_measure_74 : decode cX10_measure 74 = .ok (.iload_n 2, 1) := by decide +kernel
theorem dX10_measure_75 : decode cX10_measure 75 = .ok (.iload_n 3, 1) := by decide +kernel
theorem dX10_measure_76 : decode cX10_measure 76 = .ok (.invokevirtual 108, 3) := by decide +kernel
theorem dX10_measure_79 : decode cX10_measure 79 = .ok (.iinc 6 1, 3) := by decide +kernel
theorem dX10_measure_82 : decode cX10_measure 82 = .ok (.goto (-46), 3) := by decide +kernel
theorem dX10_measure_85 : decode cX10_measure 85 = .ok (.return_, 1) := by decide +kernel
theorem dX10_nearest_0 : decode cX10_nearest 0 = .ok (.iconst (-1), 1) := by decide +kernel
theorem dX10_nearest_1 : decode cX10_nearest 1 = .ok (.istore_n 3, 1) := by decide +kernel
theorem dX10_nearest_2 : decode cX10_nearest 2 = .ok (.ldc 92, 2) := by decide +kernel
theorem dX10_nearest_4 : decode cX10_nearest 4 = .ok (.istore 4, 2) := by decide +kernel
theorem dX10_nearest_6 : decode cX10_nearest 6 = .ok (.iconst 0, 1) := by decide +kernel
theorem dX10_nearest_7 : decode cX10_nearest 7 = .ok (.istore 5, 2) := by decide +kernel
theorem dX10_nearest_9 : decode cX10_nearest 9 = .ok (.iload 5, 2) := by decide +kernel
theorem dX10_nearest_11 : decode cX10_nearest 11 = .ok (.aload_n 0, 1) := by decide +kernel
theorem dX10_nearest_12 : decode cX10_nearest 12 = .ok (.getfield 22, 3) := by decide +kernel
theorem dX10_nearest_15 : decode cX10_nearest 15 = .ok (.getfield 55, 3) := by decide +kernel
theorem dX10_nearest_18 : decode cX10_nearest 18 = .ok (.if_icmp .ge 44, 3) := by decide +kernel
theorem dX10_nearest_21 : decode cX10_nearest 21 = .ok (.lload_n 1, 1) := by decide +kernel
theorem dX10_nearest_22 : decode cX10_nearest 22 = .ok (.iload 5, 2) := by decide +kernel
theorem dX10_nearest_24 : decode cX10_nearest 24 = .ok (.lushr, 1) := by decide +kernel
theorem dX10_nearest_25 : decode cX10_nearest 25 = .ok (.lconst 1, 1) := by decide +kernel
theorem dX10_nearest_26 : decode cX10_nearest 26 = .ok (.land, 1) := by decide +kernel
theorem dX10_nearest_27 : decode cX10_nearest 27 = .ok (.lconst 0, 1) := by decide +kernel
theorem dX10_nearest_28 : decode cX10_nearest 28 = .ok (.lcmp, 1) := by decide +kernel
theorem dX10_nearest_29 : decode cX10_nearest 29 = .ok (.ifCond .eq 27, 3) := by decide +kernel
theorem dX10_nearest_32 : decode cX10_nearest 32 = .ok (.aload_n 0, 1) := by decide +kernel
theorem dX10_nearest_33 : decode cX10_nearest 33 = .ok (.getfield 18, 3) := by decide +kernel
theorem dX10_nearest_36 : decode cX10_nearest 36 = .ok (.iload 5, 2) := by decide +kernel
theorem dX10_nearest_38 : decode cX10_nearest 38 = .ok (.iaload, 1) := by decide +kernel
theorem dX10_nearest_39 : decode cX10_nearest 39 = .ok (.iload 4, 2) := by decide +kernel
theorem dX10_nearest_41 : decode cX10_nearest 41 = .ok (.if_icmp .ge 15, 3) := by decide +kernel
theorem dX10_nearest_44 : decode cX10_nearest 44 = .ok (.iload 5, 2) := by decide +kernel
theorem dX10_nearest_46 : decode cX10_nearest 46 = .ok (.istore_n 3, 1) := by decide +kernel
theorem dX10_nearest_47 : decode cX10_nearest 47 = .ok (.aload_n 0, 1) := by decide +kernel
theorem dX10_nearest_48 : decode cX10_nearest 48 = .ok (.getfield 18, 3) := by decide +kernel
theorem dX10_nearest_51 : decode cX10_nearest 51 = .ok (.iload 5, 2) := by decide +kernel
theorem dX10_nearest_53 : decode cX10_nearest 53 = .ok (.iaload, 1) := by decide +kernel
theorem dX10_nearest_54 : decode cX10_nearest 54 = .ok (.istore 4, 2) := by decide +kernel
theorem dX10_nearest_56 : decode cX10_nearest 56 = .ok (.iinc 5 1, 3) := by decide +kernel
theorem dX10_nearest_59 : decode cX10_nearest 59 = .ok (.goto (-50), 3) := by decide +kernel
theorem dX10_nearest_62 : decode cX10_nearest 62 = .ok (.iload_n 3, 1) := by decide +kernel
theorem dX10_nearest_63 : decode cX10_nearest 63 = .ok (.ireturn, 1) := by decide +kernel
theorem dX10_measureAround_0 : decode cX10_measureAround 0 = .ok (.iconst 0, 1) := by decide +kernel
theorem dX10_measureAround_1 : decode cX10_measureAround 1 = .ok (.istore 4, 2) := by decide +kernel
theorem dX10_measureAround_3 : decode cX10_measureAround 3 = .ok (.iload 4, 2) := by decide +kernel
theorem dX10_measureAround_5 : decode cX10_measureAround 5 = .ok (.iconst 4, 1) := by decide +kernel
theorem dX10_measureAround_6 : decode cX10_measureAround 6 = .ok (.if_icmp .ge 81, 3) := by decide +kernel
theorem dX10_measureAround_9 : decode cX10_measureAround 9 = .ok (.aload_n 0, 1) := by decide +kernel
theorem dX10_measureAround_10 : decode cX10_measureAround 10 = .ok (.getfield 22, 3) := by decide +kernel
theorem dX10_measureAround_13 : decode cX10_measureAround 13 = .ok (.iload_n 1, 1) := by decide +kernel
theorem dX10_measureAround_14 : decode cX10_measureAround 14 = .ok (.iload 4, 2) := by decide +kernel
theorem dX10_measureAround_16 : decode cX10_measureAround 16 = .ok (.invokevirtual 58, 3) := by decide +kernel
theorem dX10_measureAround_19 : decode cX10_measureAround 19 = .ok (.istore 5, 2) := by decide +kernel
theorem dX10_measureAround_21 : decode cX10_measureAround 21 = .ok (.iload 5, 2) := by decide +kernel
theorem dX10_measureAround_23 : decode cX10_measureAround 23 = .ok (.iconst (-1), 1) := by decide +kernel
theorem dX10_measureAround_24 : decode cX10_measureAround 24 = .ok (.if_icmp .ne 6, 3) := by decide +kernel
theorem dX10_measureAround_27 : decode cX10_measureAround 27 = .ok (.goto 54, 3) := by decide +kernel
theorem dX10_measureAround_30 : decode cX10_measureAround 30 = .ok (.aload_n 0, 1) := by decide +kernel
theorem dX10_measureAround_31 : decode cX10_measureAround 31 = .ok (.iload 5, 2) := by decide +kernel
theorem dX10_measureAround_33 : decode cX10_measureAround 33 = .ok (.iload_n 1, 1) := by decide +kernel
theorem dX10_measureAround_34 : decode cX10_measureAround 34 = .ok (.invokevirtual 61, 3) := by decide +kernel
theorem dX10_measureAround_37 : decode cX10_measureAround 37 = .ok (.istore 6, 2) := by decide +kernel
theorem dX10_measureAround_39 : decode cX10_measureAround 39 = .ok (.aload_n 0, 1) := by decide +kernel
theorem dX10_measureAround_40 : decode cX10_measureAround 40 = .ok (.getfield 18, 3) := by decide +kernel
theorem dX10_measureAround_43 : decode cX10_measureAround 43 = .ok (.iload_n 1, 1) := by decide +kernel
theorem dX10_measureAround_44 : decode cX10_measureAround 44 = .ok (.iaload, 1) := by decide +kernel
theorem dX10_measureAround_45 : decode cX10_measureAround 45 = .ok (.iload 6, 2) := by decide +kernel
theorem dX10_measureAround_47 : decode cX10_measureAround 47 = .ok (.iload_n 3, 1) := by decide +kernel
theorem dX10_measureAround_48 : decode cX10_measureAround 48 = .ok (.imul, 1) := by decide +kernel
theorem dX10_measureAround_49 : decode cX10_measureAround 49 = .ok (.iadd, 1) := by decide +kernel
theorem dX10_measureAround_50 : decode cX10_measureAround 50 = .ok (.iconst 1, 1) := by decide +kernel
theorem dX10_measureAround_51 : decode cX10_measureAround 51 = .ok (.iadd, 1) := by decide +kernel
theorem dX10_measureAround_52 : decode cX10_measureAround 52 = .ok (.istore 7, 2) := by decide +kernel
theorem dX10_measureAround_54 : decode cX10_measureAround 54 = .ok (.iload 6, 2) := by decide +kernel
theorem dX10_measureAround_56 : decode cX10_measureAround 56 = .ok (.iload_n 2, 1) := by decide +kernel
theorem dX10_measureAround_57 : decode cX10_measureAround 57 = .ok (.if_icmp .gt 24, 3) := by decide +kernel
theorem dX10_measureAround_60 : decode cX10_measureAround 60 = .ok (.iload 7, 2) := by decide +kernel
theorem dX10_measureAround_62 : decode cX10_measureAround 62 = .ok (.aload_n 0, 1) := by decide +kernel
theorem dX10_measureAround_63 : decode cX10_measureAround 63 = .ok (.getfield 18, 3) := by decide +kernel
theorem dX10_measureAround_66 : decode cX10_measureAround 66 = .ok (.iload 5, 2) := by decide +kernel
theorem dX10_measureAround_68 : decode cX10_measureAround 68 = .ok (.iaload, 1) := by decide +kernel
theorem dX10_measureAround_69 : decode cX10_measureAround 69 = .ok (.if_icmp .ge 12, 3) := by decide +kernel
theorem dX10_measureAround_72 : decode cX10_measureAround 72 = .ok (.aload_n 0, 1) := by decide +kernel
theorem dX10_measureAround_73 : decode cX10_measureAround 73 = .ok (.getfield 18, 3) := by decide +kernel
theorem dX10_measureAround_76 : decode cX10_measureAround 76 = .ok (.iload 5, 2) := by decide +kernel
theorem dX10_measureAround_78 : decode cX10_measureAround 78 = .ok (.iload 7, 2) := by decide +kernel
theorem dX10_measureAround_80 : decode cX10_measureAround 80 = .ok (.iastore, 1) := by decide +kernel
theorem dX10_measureAround_81 : decode cX10_measureAround 81 = .ok (.iinc 4 1, 3) := by decide +kernel
theorem dX10_measureAround_84 : decode cX10_measureAround 84 = .ok (.goto (-81), 3) := by decide +kernel
theorem dX10_measureAround_87 : decode cX10_measureAround 87 = .ok (.return_, 1) := by decide +kernel
theorem dX10_costFrom_0 : decode cX10_costFrom 0 = .ok (.aload_n 0, 1) := by decide +kernel
theorem dX10_costFrom_1 : decode cX10_costFrom 1 = .ok (.getfield 22, 3) := by decide +kernel
theorem dX10_costFrom_4 : decode cX10_costFrom 4 = .ok (.iload_n 1, 1) := by decide +kernel
theorem dX10_costFrom_5 : decode cX10_costFrom 5 = .ok (.invokevirtual 99, 3) := by decide +kernel
theorem dX10_costFrom_8 : decode cX10_costFrom 8 = .ok (.ifCond .eq 12, 3) := by decide +kernel
theorem dX10_costFrom_11 : decode cX10_costFrom 11 = .ok (.aload_n 0, 1) := by decide +kernel
theorem dX10_costFrom_12 : decode cX10_costFrom 12 = .ok (.getfield 18, 3) := by decide +kernel
theorem dX10_costFrom_15 : decode cX10_costFrom 15 = .ok (.iload_n 1, 1) := by decide +kernel
theorem dX10_costFrom_16 : decode cX10_costFrom 16 = .ok (.iaload, 1) := by decide +kernel
theorem dX10_costFrom_17 : decode cX10_costFrom 17 = .ok (.goto 5, 3) := by decide +kernel
theorem dX10_costFrom_20 : decode cX10_costFrom 20 = .ok (.ldc 92, 2) := by decide +kernel
theorem dX10_costFrom_22 : decode cX10_costFrom 22 = .ok (.ireturn, 1) := by decide +kernel
theorem dX10_tell_0 : decode cX10_tell 0 = .ok (.aload 4, 2) := by decide +kernel
theorem dX10_tell_2 : decode cX10_tell 2 = .ok (.iload_n 1, 1) := by decide +kernel
theorem dX10_tell_3 : decode cX10_tell 3 = .ok (.i2l, 1) := by decide +kernel
theorem dX10_tell_4 : decode cX10_tell 4 = .ok (.invokevirtual 112, 3) := by decide +kernel
theorem dX10_tell_7 : decode cX10_tell 7 = .ok (.aload_n 0, 1) := by decide +kernel
theorem dX10_tell_8 : decode cX10_tell 8 = .ok (.iload_n 1, 1) := by decide +kernel
theorem dX10_tell_9 : decode cX10_tell 9 = .ok (.iload_n 2, 1) := by decide +kernel
theorem dX10_tell_10 : decode cX10_tell 10 = .ok (.iload_n 3, 1) := by decide +kernel
theorem dX10_tell_11 : decode cX10_tell 11 = .ok (.invokevirtual 118, 3) := by decide +kernel
theorem dX10_tell_14 : decode cX10_tell 14 = .ok (.istore 5, 2) := by decide +kernel
theorem dX10_tell_16 : decode cX10_tell 16 = .ok (.iconst 0, 1) := by decide +kernel
theorem dX10_tell_17 : decode cX10_tell 17 = .ok (.istore 6, 2) := by decide +kernel
theorem dX10_tell_19 : decode cX10_tell 19 = .ok (.iload 6, 2) := by decide +kernel
theorem dX10_tell_21 : decode cX10_tell 21 = .ok (.bipush 36, 2) := by decide +kernel
theorem dX10_tell_23 : decode cX10_tell 23 = .ok (.if_icmp .ge 33, 3) := by decide +kernel
theorem dX10_tell_26 : decode cX10_tell 26 = .ok (.iload 5, 2) := by decide +kernel
theorem dX10_tell_28 : decode cX10_tell 28 = .ok (.iconst (-1), 1) := by decide +kernel
theorem dX10_tell_29 : decode cX10_tell 29 = .ok (.if_icmp .eq 27, 3) := by decide +kernel
theorem dX10_tell_32 : decode cX10_tell 32 = .ok (.aload 4, 2) := by decide +kernel
theorem dX10_tell_34 : decode cX10_tell 34 = .ok (.iload 5, 2) := by decide +kernel
theorem dX10_tell_36 : decode cX10_tell 36 = .ok (.i2l, 1) := by decide +kernel
theorem dX10_tell_37 : decode cX10_tell 37 = .ok (.invokevirtual 122, 3) := by decide +kernel
theorem dX10_tell_40 : decode cX10_tell 40 = .ok (.aload_n 0, 1) := by decide +kernel
theorem dX10_tell_41 : decode cX10_tell 41 = .ok (.iload 5, 2) := by decide +kernel
theorem dX10_tell_43 : decode cX10_tell 43 = .ok (.iload_n 2, 1) := by decide +kernel
theorem dX10_tell_44 : decode cX10_tell 44 = .ok (.iload_n 3, 1) := by decide +kernel
theorem dX10_tell_45 : decode cX10_tell 45 = .ok (.invokevirtual 118, 3) := by decide +kernel
theorem dX10_tell_48 : decode cX10_tell 48 = .ok (.istore 5, 2) := by decide +kernel
theorem dX10_tell_50 : decode cX10_tell 50 = .ok (.iinc 6 1, 3) := by decide +kernel
theorem dX10_tell_53 : decode cX10_tell 53 = .ok (.goto (-34), 3) := by decide +kernel
theorem dX10_tell_56 : decode cX10_tell 56 = .ok (.return_, 1) := by decide +kernel
theorem dX10_noiseFrom_0 : decode cX10_noiseFrom 0 = .ok (.iconst 0, 1) := by decide +kernel
theorem dX10_noiseFrom_1 : decode cX10_noiseFrom 1 = .ok (.istore_n 3, 1) := by decide +kernel
theorem dX10_noiseFrom_2 : decode cX10_noiseFrom 2 = .ok (.iload_n 1, 1) := by decide +kernel
theorem dX10_noiseFrom_3 : decode cX10_noiseFrom 3 = .ok (.istore 4, 2) := by decide +kernel
theorem dX10_noiseFrom_5 : decode cX10_noiseFrom 5 = .ok (.iconst 0, 1) := by decide +kernel
theorem dX10_noiseFrom_6 : decode cX10_noiseFrom 6 = .ok (.istore 5, 2) := by decide +kernel
theorem dX10_noiseFrom_8 : decode cX10_noiseFrom 8 = .ok (.iload 5, 2) := by decide +kernel
theorem dX10_noiseFrom_10 : decode cX10_noiseFrom 10 = .ok (.bipush 36, 2) := by decide +kernel
theorem dX10_noiseFrom_12 : decode cX10_noiseFrom 12 = .ok (.if_icmp .ge 49, 3) := by decide +kernel
theorem dX10_noiseFrom_15 : decode cX10_noiseFrom 15 = .ok (.aload_n 0, 1) := by decide +kernel
theorem dX10_noiseFrom_16 : decode cX10_noiseFrom 16 = .ok (.iload 4, 2) := by decide +kernel
theorem dX10_noiseFrom_18 : decode cX10_noiseFrom 18 = .ok (.sipush 1498, 3) := by decide +kernel
theorem dX10_noiseFrom_21 : decode cX10_noiseFrom 21 = .ok (.bipush 64, 2) := by decide +kernel
theorem dX10_noiseFrom_23 : decode cX10_noiseFrom 23 = .ok (.invokevirtual 118, 3) := by decide +kernel
theorem dX10_noiseFrom_26 : decode cX10_noiseFrom 26 = .ok (.istore 6, 2) := by decide +kernel
theorem dX10_noiseFrom_28 : decode cX10_noiseFrom 28 = .ok (.iload 6, 2) := by decide +kernel
theorem dX10_noiseFrom_30 : decode cX10_noiseFrom 30 = .ok (.iconst (-1), 1) := by decide +kernel
theorem dX10_noiseFrom_31 : decode cX10_noiseFrom 31 = .ok (.if_icmp .ne 5, 3) := by decide +kernel
theorem dX10_noiseFrom_34 : decode cX10_noiseFrom 34 = .ok (.iload_n 3, 1) := by decide +kernel
theorem dX10_noiseFrom_35 : decode cX10_noiseFrom 35 = .ok (.ireturn, 1) := by decide +kernel
theorem dX10_noiseFrom_36 : decode cX10_noiseFrom 36 = .ok (.iload_n 3, 1) := by decide +kernel
theorem dX10_noiseFrom_37 : decode cX10_noiseFrom 37 = .ok (.aload_n 0, 1) := by decide +kernel
theorem dX10_noiseFrom_38 : decode cX10_noiseFrom 38 = .ok (.iload 4, 2) := by decide +kernel
theorem dX10_noiseFrom_40 : decode cX10_noiseFrom 40 = .ok (.iload 6, 2) := by decide +kernel
theorem dX10_noiseFrom_42 : decode cX10_noiseFrom 42 = .ok (.invokevirtual 61, 3) := by decide +kernel
theorem dX10_noiseFrom_45 : decode cX10_noiseFrom 45 = .ok (.iload_n 2, 1) := by decide +kernel
theorem dX10_noiseFrom_46 : decode cX10_noiseFrom 46 = .ok (.invokestatic 125, 3) := by decide +kernel
theorem dX10_noiseFrom_49 : decode cX10_noiseFrom 49 = .ok (.iadd, 1) := by decide +kernel
theorem dX10_noiseFrom_50 : decode cX10_noiseFrom 50 = .ok (.istore_n 3, 1) := by decide +kernel
theorem dX10_noiseFrom_51 : decode cX10_noiseFrom 51 = .ok (.iload 6, 2) := by decide +kernel
theorem dX10_noiseFrom_53 : decode cX10_noiseFrom 53 = .ok (.istore 4, 2) := by decide +kernel
theorem dX10_noiseFrom_55 : decode cX10_noiseFrom 55 = .ok (.iinc 5 1, 3) := by decide +kernel
theorem dX10_noiseFrom_58 : decode cX10_noiseFrom 58 = .ok (.goto (-50), 3) := by decide +kernel
theorem dX10_noiseFrom_61 : decode cX10_noiseFrom 61 = .ok (.iload_n 3, 1) := by decide +kernel
theorem dX10_noiseFrom_62 : decode cX10_noiseFrom 62 = .ok (.ireturn, 1) := by decide +kernel
theorem dX10_nextOn_0 : decode cX10_nextOn 0 = .ok (.aload_n 0, 1) := by decide +kernel
theorem dX10_nextOn_1 : decode cX10_nextOn 1 = .ok (.iload_n 1, 1) := by decide +kernel
theorem dX10_nextOn_2 : decode cX10_nextOn 2 = .ok (.invokevirtual 128, 3) := by decide +kernel
theorem dX10_nextOn_5 : decode cX10_nextOn 5 = .ok (.istore 4, 2) := by decide +kernel
theorem dX10_nextOn_7 : decode cX10_nextOn 7 = .ok (.iconst (-1), 1) := by decide +kernel
theorem dX10_nextOn_8 : decode cX10_nextOn 8 = .ok (.istore 5, 2) := by decide +kernel
theorem dX10_nextOn_10 : decode cX10_nextOn 10 = .ok (.iconst 0, 1) := by decide +kernel
theorem dX10_nextOn_11 : decode cX10_nextOn 11 = .ok (.istore 6, 2) := by decide +kernel
theorem dX10_nextOn_13 : decode cX10_nextOn 13 = .ok (.iload 6, 2) := by decide +kernel
theorem dX10_nextOn_15 : decode cX10_nextOn 15 = .ok (.iconst 4, 1) := by decide +kernel
theorem dX10_nextOn_16 : decode cX10_nextOn 16 = .ok (.if_icmp .ge 105, 3) := by decide +kernel
theorem dX10_nextOn_19 : decode cX10_nextOn 19 = .ok (.aload_n 0, 1) := by decide +kernel
theorem dX10_nextOn_20 : decode cX10_nextOn 20 = .ok (.getfield 22, 3) := by decide +kernel
theorem dX10_nextOn_23 : decode cX10_nextOn 23 = .ok (.iload_n 1, 1) := by decide +kernel
theorem dX10_nextOn_24 : decode cX10_nextOn 24 = .ok (.iload 6, 2) := by decide +kernel
theorem dX10_nextOn_26 : decode cX10_nextOn 26 = .ok (.invokevirtual 58, 3) := by decide +kernel
theorem dX10_nextOn_29 : decode cX10_nextOn 29 = .ok (.istore 7, 2) := by decide +kernel
theorem dX10_nextOn_31 : decode cX10_nextOn 31 = .ok (.iload 7, 2) := by decide +kernel
theorem dX10_nextOn_33 : decode cX10_nextOn 33 = .ok (.iconst (-1), 1) := by decide +kernel
theorem dX10_nextOn_34 : decode cX10_nextOn 34 = .ok (.if_icmp .eq 81, 3) := by decide +kernel
theorem dX10_nextOn_37 : decode cX10_nextOn 37 = .ok (.aload_n 0, 1) := by decide +kernel
theorem dX10_nextOn_38 : decode cX10_nextOn 38 = .ok (.getfield 18, 3) := by decide +kernel
theorem dX10_nextOn_41 : decode cX10_nextOn 41 = .ok (.iload 7, 2) := by decide +kernel
theorem dX10_nextOn_43 : decode cX10_nextOn 43 = .ok (.iaload, 1) := by decide +kernel
theorem dX10_nextOn_44 : decode cX10_nextOn 44 = .ok (.ldc 92, 2) := by decide +kernel
theorem dX10_nextOn_46 : decode cX10_nextOn 46 = .ok (.if_icmp .ne 6, 3) := by decide +kernel
theorem dX10_nextOn_49 : decode cX10_nextOn 49 = .ok (.goto 66, 3) := by decide +kernel
theorem dX10_nextOn_52 : decode cX10_nextOn 52 = .ok (.aload_n 0, 1) := by decide +kernel
theorem dX10_nextOn_53 : decode cX10_nextOn 53 = .ok (.iload_n 1, 1) := by decide +kernel
theorem dX10_nextOn_54 : decode cX10_nextOn 54 = .ok (.iload 7, 2) := by decide +kernel
theorem dX10_nextOn_56 : decode cX10_nextOn 56 = .ok (.invokevirtual 61, 3) := by decide +kernel
theorem dX10_nextOn_59 : decode cX10_nextOn 59 = .ok (.istore 8, 2) := by decide +kernel
theorem dX10_nextOn_61 : decode cX10_nextOn 61 = .ok (.iload 8, 2) := by decide +kernel
theorem dX10_nextOn_63 : decode cX10_nextOn 63 = .ok (.iload_n 2, 1) := by decide +kernel
theorem dX10_nextOn_64 : decode cX10_nextOn 64 = .ok (.if_icmp .gt 26, 3) := by decide +kernel
theorem dX10_nextOn_67 : decode cX10_nextOn 67 = .ok (.aload_n 0, 1) := by decide +kernel
theorem dX10_nextOn_68 : decode cX10_nextOn 68 = .ok (.getfield 18, 3) := by decide +kernel
theorem dX10_nextOn_71 : decode cX10_nextOn 71 = .ok (.iload 7, 2) := by decide +kernel
theorem dX10_nextOn_73 : decode cX10_nextOn 73 = .ok (.iaload, 1) := by decide +kernel
theorem dX10_nextOn_74 : decode cX10_nextOn 74 = .ok (.iload 8, 2) := by decide +kernel
theorem dX10_nextOn_76 : decode cX10_nextOn 76 = .ok (.iload_n 3, 1) := by decide +kernel
theorem dX10_nextOn_77 : decode cX10_nextOn 77 = .ok (.imul, 1) := by decide +kernel
theorem dX10_nextOn_78 : decode cX10_nextOn 78 = .ok (.iadd, 1) := by decide +kernel
theorem dX10_nextOn_79 : decode cX10_nextOn 79 = .ok (.iconst 1, 1) := by decide +kernel
theorem dX10_nextOn_80 : decode cX10_nextOn 80 = .ok (.iadd, 1) := by decide +kernel
theorem dX10_nextOn_81 : decode cX10_nextOn 81 = .ok (.iload 4, 2) := by decide +kernel
theorem dX10_nextOn_83 : decode cX10_nextOn 83 = .ok (.if_icmp .ne 7, 3) := by decide +kernel
theorem dX10_nextOn_86 : decode cX10_nextOn 86 = .ok (.iconst 1, 1) := by decide +kernel
theorem dX10_nextOn_87 : decode cX10_nextOn 87 = .ok (.goto 4, 3) := by decide +kernel
theorem dX10_nextOn_90 : decode cX10_nextOn 90 = .ok (.iconst 0, 1) := by decide +kernel
theorem dX10_nextOn_91 : decode cX10_nextOn 91 = .ok (.istore 9, 2) := by decide +kernel
theorem dX10_nextOn_93 : decode cX10_nextOn 93 = .ok (.iload 9, 2) := by decide +kernel
theorem dX10_nextOn_95 : decode cX10_nextOn 95 = .ok (.ifCond .eq 20, 3) := by decide +kernel
theorem dX10_nextOn_98 : decode cX10_nextOn 98 = .ok (.iload 5, 2) := by decide +kernel
theorem dX10_nextOn_100 : decode cX10_nextOn 100 = .ok (.iconst (-1), 1) := by decide +kernel
theorem dX10_nextOn_101 : decode cX10_nextOn 101 = .ok (.if_icmp .eq 10, 3) := by decide +kernel
theorem dX10_nextOn_104 : decode cX10_nextOn 104 = .ok (.iload 7, 2) := by decide +kernel
theorem dX10_nextOn_106 : decode cX10_nextOn 106 = .ok (.iload 5, 2) := by decide +kernel
theorem dX10_nextOn_108 : decode cX10_nextOn 108 = .ok (.if_icmp .ge 7, 3) := by decide +kernel
theorem dX10_nextOn_111 : decode cX10_nextOn 111 = .ok (.iload 7, 2) := by decide +kernel
theorem dX10_nextOn_113 : decode cX10_nextOn 113 = .ok (.istore 5, 2) := by decide +kernel
theorem dX10_nextOn_115 : decode cX10_nextOn 115 = .ok (.iinc 6 1, 3) := by decide +kernel
theorem dX10_nextOn_118 : decode cX10_nextOn 118 = .ok (.goto (-105), 3) := by decide +kernel
theorem dX10_nextOn_121 : decode cX10_nextOn 121 = .ok (.iload 5, 2) := by decide +kernel
theorem dX10_nextOn_123 : decode cX10_nextOn 123 = .ok (.ireturn, 1) := by decide +kernel
theorem dX11_sign_0 : decode cX11_sign 0 = .ok (.aload_n 0, 1) := by decide +kernel
theorem dX11_sign_1 : decode cX11_sign 1 = .ok (.getfield 10, 3) := by decide +kernel
theorem dX11_sign_4 : decode cX11_sign 4 = .ok (.iload_n 1, 1) := by decide +kernel
theorem dX11_sign_5 : decode cX11_sign 5 = .ok (.invokevirtual 105, 3) := by decide +kernel
theorem dX11_sign_8 : decode cX11_sign 8 = .ok (.ifCond .eq 13, 3) := by decide +kernel
theorem dX11_sign_11 : decode cX11_sign 11 = .ok (.aload_n 0, 1) := by decide +kernel
theorem dX11_sign_12 : decode cX11_sign 12 = .ok (.getfield 10, 3) := by decide +kernel
theorem dX11_sign_15 : decode cX11_sign 15 = .ok (.getfield 109, 3) := by decide +kernel
theorem dX11_sign_18 : decode cX11_sign 18 = .ok (.goto 4, 3) := by decide +kernel
theorem dX11_sign_21 : decode cX11_sign 21 = .ok (.iconst (-1), 1) := by decide +kernel
theorem dX11_sign_22 : decode cX11_sign 22 = .ok (.ireturn, 1) := by decide +kernel
theorem dX11_end_0 : decode cX11_end 0 = .ok (.aload_n 0, 1) := by decide +kernel
theorem dX11_end_1 : decode cX11_end 1 = .ok (.getfield 10, 3) := by decide +kernel
theorem dX11_end_4 : decode cX11_end 4 = .ok (.iload_n 1, 1) := by decide +kernel
theorem dX11_end_5 : decode cX11_end 5 = .ok (.invokevirtual 112, 3) := by decide +kernel
theorem dX11_end_8 : decode cX11_end 8 = .ok (.ireturn, 1) := by decide +kernel
theorem dX11_land_0 : decode cX11_land 0 = .ok (.aload_n 0, 1) := by decide +kernel
theorem dX11_land_1 : decode cX11_land 1 = .ok (.getfield 10, 3) := by decide +kernel
theorem dX11_land_4 : decode cX11_land 4 = .ok (.bipush 80, 2) := by decide +kernel
theorem dX11_land_6 : decode cX11_land 6 = .ok (.invokevirtual 115, 3) := by decide +kernel
theorem dX11_land_9 : decode cX11_land 9 = .ok (.aload_n 0, 1) := by decide +kernel
theorem dX11_land_10 : decode cX11_land 10 = .ok (.getfield 85, 3) := by decide +kernel
theorem dX11_land_13 : decode cX11_land 13 = .ok (.aload_n 0, 1) := by decide +kernel
theorem dX11_land_14 : decode cX11_land 14 = .ok (.getfield 10, 3) := by decide +kernel
theorem dX11_land_17 : decode cX11_land 17 = .ok (.invokevirtual 119, 3) := by decide +kernel
theorem dX11_land_20 : decode cX11_land 20 = .ok (.istore_n 1, 1) := by decide +kernel
theorem dX11_land_21 : decode cX11_land 21 = .ok (.iconst (-1), 1) := by decide +kernel
theorem dX11_land_22 : decode cX11_land 22 = .ok (.aload_n 0, 1) := by decide +kernel
theorem dX11_land_23 : decode cX11_land 23 = .ok (.getfield 10, 3) := by decide +kernel
theorem dX11_land_26 : decode cX11_land 26 = .ok (.getfield 123, 3) := by decide +kernel
theorem dX11_land_29 : decode cX11_land 29 = .ok (.isub, 1) := by decide +kernel
theorem dX11_land_30 : decode cX11_land 30 = .ok (.istore_n 2, 1) := by decide +kernel
theorem dX11_land_31 : decode cX11_land 31 = .ok (.iload_n 1, 1) := by decide +kernel
theorem dX11_land_32 : decode cX11_land 32 = .ok (.ifCond .eq 26, 3) := by decide +kernel
theorem dX11_land_35 : decode cX11_land 35 = .ok (.aload_n 0, 1) := by decide +kernel
theorem dX11_land_36 : decode cX11_land 36 = .ok (.getfield 85, 3) := by decide +kernel
theorem dX11_land_39 : decode cX11_land 39 = .ok (.aload_n 0, 1) := by decide +kernel
theorem dX11_land_40 : decode cX11_land 40 = .ok (.getfield 10, 3) := by decide +kernel
theorem dX11_land_43 : decode cX11_land 43 = .ok (.invokevirtual 126, 3) := by decide +kernel
theorem dX11_land_46 : decode cX11_land 46 = .ok (.aload_n 0, 1) := by decide +kernel
theorem dX11_land_47 : decode cX11_land 47 = .ok (.invokevirtual 130, 3) := by decide +kernel
theorem dX11_land_50 : decode cX11_land 50 = .ok (.aload_n 0, 1) := by decide +kernel
theorem dX11_land_51 : decode cX11_land 51 = .ok (.getfield 85, 3) := by decide +kernel
theorem dX11_land_54 : decode cX11_land 54 = .ok (.getfield 133, 3) := by decide +kernel
theorem dX11_land_57 : decode cX11_land 57 = .ok (.istore_n 2, 1) := by decide +kernel
theorem dX11_land_58 : decode cX11_land 58 = .ok (.aload_n 0, 1) := by decide +kernel
theorem dX11_land_59 : decode cX11_land 59 = .ok (.getfield 10, 3) := by decide +kernel
theorem dX11_land_62 : decode cX11_land 62 = .ok (.invokevirtual 136, 3) := by decide +kernel
theorem dX11_land_65 : decode cX11_land 65 = .ok (.iload_n 2, 1) := by decide +kernel
theorem dX11_land_66 : decode cX11_land 66 = .ok (.ireturn, 1) := by decide +kernel
theorem dX11_startAnew_0 : decode cX11_startAnew 0 = .ok (.aload_n 0, 1) := by decide +kernel
theorem dX11_startAnew_1 : decode cX11_startAnew 1 = .ok (.getfield 26, 3) := by decide +kernel
theorem dX11_startAnew_4 : decode cX11_startAnew 4 = .ok (.invokevirtual 139, 3) := by decide +kernel
theorem dX11_startAnew_7 : decode cX11_startAnew 7 = .ok (.aload_n 0, 1) := by decide +kernel
theorem dX11_startAnew_8 : decode cX11_startAnew 8 = .ok (.getfield 36, 3) := by decide +kernel
theorem dX11_startAnew_11 : decode cX11_startAnew 11 = .ok (.invokevirtual 142, 3) := by decide +kernel
theorem dX11_startAnew_14 : decode cX11_startAnew 14 = .ok (.aload_n 0, 1) := by decide +kernel
theorem dX11_startAnew_15 : decode cX11_startAnew 15 = .ok (.getfield 64, 3) := by decide +kernel
theorem dX11_startAnew_18 : decode cX11_startAnew 18 = .ok (.invokevirtual 143, 3) := by decide +kernel
theorem dX11_startAnew_21 : decode cX11_startAnew 21 = .ok (.iconst 0, 1) := by decide +kernel
theorem dX11_startAnew_22 : decode cX11_startAnew 22 = .ok (.istore_n 1, 1) := by decide +kernel
theorem dX11_startAnew_23 : decode cX11_startAnew 23 = .ok (.iload_n 1, 1) := by decide +kernel
theorem dX11_startAnew_24 : decode cX11_startAnew 24 = .ok (.aload_n 0, 1) := by decide +kernel
theorem dX11_startAnew_25 : decode cX11_startAnew 25 = .ok (.getfield 98, 3) := by decide +kernel
theorem dX11_startAnew_28 : decode cX11_startAnew 28 = .ok (.arraylength, 1) := by decide +kernel
theorem dX11_startAnew_29 : decode cX11_startAnew 29 = .ok (.if_icmp .ge 19, 3) := by decide +kernel
theorem dX11_startAnew_32 : decode cX11_startAnew 32 = .ok (.aload_n 0, 1) := by decide +kernel
theorem dX11_startAnew_33 : decode cX11_startAnew 33 = .ok (.getfield 98, 3) := by decide +kernel
theorem dX11_startAnew_36 : decode cX11_startAnew 36 = .ok (.iload_n 1, 1) := by decide +kernel
theorem dX11_startAnew_37 : decode cX11_startAnew 37 = .ok (.aaload, 1) := by decide +kernel
theorem dX11_startAnew_38 : decode cX11_startAnew 38 = .ok (.iconst (-1), 1) := by decide +kernel
theorem dX11_startAnew_39 : decode cX11_startAnew 39 = .ok (.putfield 102, 3) := by decide +kernel
theorem dX11_startAnew_42 : decode cX11_startAnew 42 = .ok (.iinc 1 1, 3) := by decide +kernel
theorem dX11_startAnew_45 : decode cX11_startAnew 45 = .ok (.goto (-22), 3) := by decide +kernel
theorem dX11_startAnew_48 : decode cX11_startAnew 48 = .ok (.return_, 1) := by decide +kernel
theorem dX11_ships_0 : decode cX11_ships 0 = .ok (.aload_n 0, 1) := by decide +kernel
theorem dX11_ships_1 : decode cX11_ships 1 = .ok (.getfield 10, 3) := by decide +kernel
theorem dX11_ships_4 : decode cX11_ships 4 = .ok (.bipush 55, 2) := by decide +kernel
theorem dX11_ships_6 : decode cX11_ships 6 = .ok (.invokevirtual 115, 3) := by decide +kernel
theorem dX11_ships_9 : decode cX11_ships 9 = .ok (.aload_n 0, 1) := by decide +kernel
theorem dX11_ships_10 : decode cX11_ships 10 = .ok (.getfield 10, 3) := by decide +kernel
theorem dX11_ships_13 : decode cX11_ships 13 = .ok (.invokevirtual 144, 3) := by decide +kernel
theorem dX11_ships_16 : decode cX11_ships 16 = .ok (.ifCond .eq 7, 3) := by decide +kernel
theorem dX11_ships_19 : decode cX11_ships 19 = .ok (.iconst 0, 1) := by decide +kernel
theorem dX11_ships_20 : decode cX11_ships 20 = .ok (.goto 7, 3) := by decide +kernel
theorem dX11_ships_23 : decode cX11_ships 23 = .ok (.aload_n 0, 1) := by decide +kernel
theorem dX11_ships_24 : decode cX11_ships 24 = .ok (.invokevirtual 148, 3) := by decide +kernel
theorem dX11_ships_27 : decode cX11_ships 27 = .ok (.istore_n 1, 1) := by decide +kernel
theorem dX11_ships_28 : decode cX11_ships 28 = .ok (.iload_n 1, 1) := by decide +kernel
theorem dX11_ships_29 : decode cX11_ships 29 = .ok (.iconst (-1), 1) := by decide +kernel
theorem dX11_ships_30 : decode cX11_ships 30 = .ok (.if_icmp .ne 15, 3) := by decide +kernel
theorem dX11_ships_33 : decode cX11_ships 33 = .ok (.iconst (-1), 1) := by decide +kernel
theorem dX11_ships_34 : decode cX11_ships 34 = .ok (.aload_n 0, 1) := by decide +kernel
theorem dX11_ships_35 : decode cX11_ships 35 = .ok (.getfield 10, 3) := by decide +kernel
theorem dX11_ships_38 : decode cX11_ships 38 = .ok (.getfield 123, 3) := by decide +kernel
theorem dX11_ships_41 : decode cX11_ships 41 = .ok (.isub, 1) := by decide +kernel
theorem dX11_ships_42 : decode cX11_ships 42 = .ok (.goto 4, 3) := by decide +kernel
theorem dX11_ships_45 : decode cX11_ships 45 = .ok (.iload_n 1, 1) := by decide +kernel
theorem dX11_ships_46 : decode cX11_ships 46 = .ok (.istore_n 2, 1) := by decide +kernel
theorem dX11_ships_47 : decode cX11_ships 47 = .ok (.iload_n 1, 1) := by decide +kernel
theorem dX11_ships_48 : decode cX11_ships 48 = .ok (.ifCond .le 23, 3) := by decide +kernel
theorem dX11_ships_51 : decode cX11_ships 51 = .ok (.aload_n 0, 1) := by decide +kernel
theorem dX11_ships_52 : decode cX11_ships 52 = .ok (.getfield 26, 3) := by decide +kernel
theorem dX11_ships_55 : decode cX11_ships 55 = .ok (.dup, 1) := by decide +kernel
theorem dX11_ships_56 : decode cX11_ships 56 = .ok (.getfield 102, 3) := by decide +kernel
theorem dX11_ships_59 : decode cX11_ships 59 = .ok (.iload_n 1, 1) := by decide +kernel
theorem dX11_ships_60 : decode cX11_ships 60 = .ok (.iadd, 1) := by decide +kernel
theorem dX11_ships_61 : decode cX11_ships 61 = .ok (.putfield 102, 3) := by decide +kernel
theorem dX11_ships_64 : decode cX11_ships 64 = .ok (.aload_n 0, 1) := by decide +kernel
theorem dX11_ships_65 : decode cX11_ships 65 = .ok (.getfield 36, 3) := by decide +kernel
theorem dX11_ships_68 : decode cX11_ships 68 = .ok (.invokevirtual 142, 3) := by decide +kernel
theorem dX11_ships_71 : decode cX11_ships 71 = .ok (.aload_n 0, 1) := by decide +kernel
theorem dX11_ships_72 : decode cX11_ships 72 = .ok (.getfield 10, 3) := by decide +kernel
theorem dX11_ships_75 : decode cX11_ships 75 = .ok (.invokevirtual 136, 3) := by decide +kernel
theorem dX11_ships_78 : decode cX11_ships 78 = .ok (.iload_n 2, 1) := by decide +kernel
theorem dX11_ships_79 : decode cX11_ships 79 = .ok (.ireturn, 1) := by decide +kernel
theorem dX11_readLines_0 : decode cX11_readLines 0 = .ok (.aload_n 0, 1) := by decide +kernel
theorem dX11_readLines_1 : decode cX11_readLines 1 = .ok (.getfield 26, 3) := by decide +kernel
theorem dX11_readLines_4 : decode cX11_readLines 4 = .ok (.getfield 102, 3) := by decide +kernel
theorem dX11_readLines_7 : decode cX11_readLines 7 = .ok (.istore_n 1, 1) := by decide +kernel
theorem dX11_readLines_8 : decode cX11_readLines 8 = .ok (.iload_n 1, 1) := by decide +kernel
theorem dX11_readLines_9 : decode cX11_readLines 9 = .ok (.bipush 8, 2) := by decide +kernel
theorem dX11_readLines_11 : decode cX11_readLines 11 = .ok (.if_icmp .ge 55, 3) := by decide +kernel
theorem dX11_readLines_14 : decode cX11_readLines 14 = .ok (.aload_n 0, 1) := by decide +kernel
theorem dX11_readLines_15 : decode cX11_readLines 15 = .ok (.iload_n 1, 1) := by decide +kernel
theorem dX11_readLines_16 : decode cX11_readLines 16 = .ok (.invokevirtual 152, 3) := by decide +kernel
theorem dX11_readLines_19 : decode cX11_readLines 19 = .ok (.ifCond .ne 5, 3) := by decide +kernel
theorem dX11_readLines_22 : decode cX11_readLines 22 = .ok (.iconst (-1), 1) := by decide +kernel
theorem dX11_readLines_23 : decode cX11_readLines 23 = .ok (.ireturn, 1) := by decide +kernel
theorem dX11_readLines_24 : decode cX11_readLines 24 = .ok (.aload_n 0, 1) := by decide +kernel
theorem dX11_readLines_25 : decode cX11_readLines 25 = .ok (.getfield 10, 3) := by decide +kernel
theorem dX11_readLines_28 : decode cX11_readLines 28 = .ok (.invokevirtual 144, 3) := by decide +kernel
theorem dX11_readLines_31 : decode cX11_readLines 31 = .ok (.ifCond .eq 15, 3) := by decide +kernel
theorem dX11_readLines_34 : decode cX11_readLines 34 = .ok (.iload_n 1, 1) := by decide +kernel
theorem dX11_readLines_35 : decode cX11_readLines 35 = .ok (.iconst 1, 1) := by decide +kernel
theorem dX11_readLines_36 : decode cX11_readLines 36 = .ok (.iadd, 1) := by decide +kernel
theorem dX11_readLines_37 : decode cX11_readLines 37 = .ok (.aload_n 0, 1) := by decide +kernel
theorem dX11_readLines_38 : decode cX11_readLines 38 = .ok (.getfield 26, 3) := by decide +kernel
theorem dX11_readLines_41 : decode cX11_readLines 41 = .ok (.getfield 102, 3) := by decide +kernel
theorem dX11_readLines_44 : decode cX11_readLines 44 = .ok (.isub, 1) := by decide +kernel
theorem dX11_readLines_45 : decode cX11_readLines 45 = .ok (.ireturn, 1) := by decide +kernel
theorem dX11_readLines_46 : decode cX11_readLines 46 = .ok (.aload_n 0, 1) := by decide +kernel
theorem dX11_readLines_47 : decode cX11_readLines 47 = .ok (.getfield 10, 3) := by decide +kernel
theorem dX11_readLines_50 : decode cX11_readLines 50 = .ok (.bipush 59, 2) := by decide +kernel
theorem dX11_readLines_52 : decode cX11_readLines 52 = .ok (.invokevirtual 155, 3) := by decide +kernel
theorem dX11_readLines_55 : decode cX11_readLines 55 = .ok (.ifCond .ne 5, 3) := by decide +kernel
theorem dX11_readLines_58 : decode cX11_readLines 58 = .ok (.iconst (-1), 1) := by decide +kernel
theorem dX11_readLines_59 : decode cX11_readLines 59 = .ok (.ireturn, 1) := by decide +kernel
theorem dX11_readLines_60 : decode cX11_readLines 60 = .ok (.iinc 1 1, 3) := by decide +kernel
theorem dX11_readLines_63 : decode cX11_readLines 63 = .ok (.goto (-55), 3) := by decide +kernel
theorem dX11_readLines_66 : decode cX11_readLines 66 = .ok (.iconst (-1), 1) := by decide +kernel
theorem dX11_readLines_67 : decode cX11_readLines 67 = .ok (.ireturn, 1) := by decide +kernel
theorem dX11_readLine_0 : decode cX11_readLine 0 = .ok (.aload_n 0, 1) := by decide +kernel
theorem dX11_readLine_1 : decode cX11_readLine 1 = .ok (.getfield 10, 3) := by decide +kernel
theorem dX11_readLine_4 : decode cX11_readLine 4 = .ok (.iconst 2, 1) := by decide +kernel
theorem dX11_readLine_5 : decode cX11_readLine 5 = .ok (.invokevirtual 159, 3) := by decide +kernel
theorem dX11_readLine_8 : decode cX11_readLine 8 = .ok (.istore_n 2, 1) := by decide +kernel
theorem dX11_readLine_9 : decode cX11_readLine 9 = .ok (.iload_n 2, 1) := by decide +kernel
theorem dX11_readLine_10 : decode cX11_readLine 10 = .ok (.iconst (-1), 1) := by decide +kernel
theorem dX11_readLine_11 : decode cX11_readLine 11 = .ok (.if_icmp .ne 5, 3) := by decide +kernel
theorem dX11_readLine_14 : decode cX11_readLine 14 = .ok (.iconst 0, 1) := by decide +kernel
theorem dX11_readLine_15 : decode cX11_readLine 15 = .ok (.ireturn, 1) := by decide +kernel
theorem dX11_readLine_16 : decode cX11_readLine 16 = .ok (.iload_n 2, 1) := by decide +kernel
theorem dX11_readLine_17 : decode cX11_readLine 17 = .ok (.ifCond .ne 12, 3) := by decide +kernel
theorem dX11_readLine_20 : decode cX11_readLine 20 = .ok (.aload_n 0, 1) := by decide +kernel
theorem dX11_readLine_21 : decode cX11_readLine 21 = .ok (.getfield 10, 3) := by decide +kernel
theorem dX11_readLine_24 : decode cX11_readLine 24 = .ok (.invokevirtual 163, 3) := by decide +kernel
theorem dX11_readLine_27 : decode cX11_readLine 27 = .ok (.iconst 0, 1) := by decide +kernel
theorem dX11_readLine_28 : decode cX11_readLine 28 = .ok (.ireturn, 1) := by decide +kernel
theorem dX11_readLine_29 : decode cX11_readLine 29 = .ok (.aload_n 0, 1) := by decide +kernel
theorem dX11_readLine_30 : decode cX11_readLine 30 = .ok (.getfield 10, 3) := by decide +kernel
theorem dX11_readLine_33 : decode cX11_readLine 33 = .ok (.bipush 44, 2) := by decide +kernel
theorem dX11_readLine_35 : decode cX11_readLine 35 = .ok (.invokevirtual 155, 3) := by decide +kernel
theorem dX11_readLine_38 : decode cX11_readLine 38 = .ok (.ifCond .ne 5, 3) := by decide +kernel
theorem dX11_readLine_41 : decode cX11_readLine 41 = .ok (.iconst 0, 1) := by decide +kernel
theorem dX11_readLine_42 : decode cX11_readLine 42 = .ok (.ireturn, 1) := by decide +kernel
theorem dX11_readLine_43 : decode cX11_readLine 43 = .ok (.aload_n 0, 1) := by decide +kernel
theorem dX11_readLine_44 : decode cX11_readLine 44 = .ok (.getfield 10, 3) := by decide +kernel
