/-! instructions, decoded -/
theorem dX12_beside_96 : decode cX12_beside 96 = .ok (.goto 4, 3) := by decide +kernel
theorem dX12_beside_99 : decode cX12_beside 99 = .ok (.iconst (-1), 1) := by decide +kernel
theorem dX12_beside_100 : decode cX12_beside 100 = .ok (.ireturn, 1) := by decide +kernel
theorem dX12_shipsAt_0 : decode cX12_shipsAt 0 = .ok (.iconst 0, 1) := by decide +kernel
theorem dX12_shipsAt_1 : decode cX12_shipsAt 1 = .ok (.istore_n 3, 1) := by decide +kernel
theorem dX12_shipsAt_2 : decode cX12_shipsAt 2 = .ok (.iconst 0, 1) := by decide +kernel
theorem dX12_shipsAt_3 : decode cX12_shipsAt 3 = .ok (.istore 4, 2) := by decide +kernel
theorem dX12_shipsAt_5 : decode cX12_shipsAt 5 = .ok (.iload 4, 2) := by decide +kernel
theorem dX12_shipsAt_7 : decode cX12_shipsAt 7 = .ok (.aload_n 0, 1) := by decide +kernel
theorem dX12_shipsAt_8 : decode cX12_shipsAt 8 = .ok (.getfield 130, 3) := by decide +kernel
theorem dX12_shipsAt_11 : decode cX12_shipsAt 11 = .ok (.if_icmp .ge 31, 3) := by decide +kernel
theorem dX12_shipsAt_14 : decode cX12_shipsAt 14 = .ok (.iload_n 3, 1) := by decide +kernel
theorem dX12_shipsAt_15 : decode cX12_shipsAt 15 = .ok (.aload_n 1, 1) := by decide +kernel
theorem dX12_shipsAt_16 : decode cX12_shipsAt 16 = .ok (.bipush 36, 2) := by decide +kernel
theorem dX12_shipsAt_18 : decode cX12_shipsAt 18 = .ok (.iload 4, 2) := by decide +kernel
theorem dX12_shipsAt_20 : decode cX12_shipsAt 20 = .ok (.iadd, 1) := by decide +kernel
theorem dX12_shipsAt_21 : decode cX12_shipsAt 21 = .ok (.iaload, 1) := by decide +kernel
theorem dX12_shipsAt_22 : decode cX12_shipsAt 22 = .ok (.iload_n 2, 1) := by decide +kernel
theorem dX12_shipsAt_23 : decode cX12_shipsAt 23 = .ok (.if_icmp .ne 10, 3) := by decide +kernel
theorem dX12_shipsAt_26 : decode cX12_shipsAt 26 = .ok (.iconst 1, 1) := by decide +kernel
theorem dX12_shipsAt_27 : decode cX12_shipsAt 27 = .ok (.iload 4, 2) := by decide +kernel
theorem dX12_shipsAt_29 : decode cX12_shipsAt 29 = .ok (.ishl, 1) := by decide +kernel
theorem dX12_shipsAt_30 : decode cX12_shipsAt 30 = .ok (.goto 4, 3) := by decide +kernel
theorem dX12_shipsAt_33 : decode cX12_shipsAt 33 = .ok (.iconst 0, 1) := by decide +kernel
theorem dX12_shipsAt_34 : decode cX12_shipsAt 34 = .ok (.ior, 1) := by decide +kernel
theorem dX12_shipsAt_35 : decode cX12_shipsAt 35 = .ok (.istore_n 3, 1) := by decide +kernel
theorem dX12_shipsAt_36 : decode cX12_shipsAt 36 = .ok (.iinc 4 1, 3) := by decide +kernel
theorem dX12_shipsAt_39 : decode cX12_shipsAt 39 = .ok (.goto (-34), 3) := by decide +kernel
theorem dX12_shipsAt_42 : decode cX12_shipsAt 42 = .ok (.iload_n 3, 1) := by decide +kernel
theorem dX12_shipsAt_43 : decode cX12_shipsAt 43 = .ok (.ireturn, 1) := by decide +kernel
theorem dX12_inHarbour_0 : decode cX12_inHarbour 0 = .ok (.iconst 0, 1) := by decide +kernel
theorem dX12_inHarbour_1 : decode cX12_inHarbour 1 = .ok (.istore_n 2, 1) := by decide +kernel
theorem dX12_inHarbour_2 : decode cX12_inHarbour 2 = .ok (.iconst 0, 1) := by decide +kernel
theorem dX12_inHarbour_3 : decode cX12_inHarbour 3 = .ok (.istore_n 3, 1) := by decide +kernel
theorem dX12_inHarbour_4 : decode cX12_inHarbour 4 = .ok (.iload_n 3, 1) := by decide +kernel
theorem dX12_inHarbour_5 : decode cX12_inHarbour 5 = .ok (.aload_n 0, 1) := by decide +kernel
theorem dX12_inHarbour_6 : decode cX12_inHarbour 6 = .ok (.getfield 130, 3) := by decide +kernel
theorem dX12_inHarbour_9 : decode cX12_inHarbour 9 = .ok (.if_icmp .ge 34, 3) := by decide +kernel
theorem dX12_inHarbour_12 : decode cX12_inHarbour 12 = .ok (.iload_n 2, 1) := by decide +kernel
theorem dX12_inHarbour_13 : decode cX12_inHarbour 13 = .ok (.aload_n 0, 1) := by decide +kernel
theorem dX12_inHarbour_14 : decode cX12_inHarbour 14 = .ok (.getfield 30, 3) := by decide +kernel
theorem dX12_inHarbour_17 : decode cX12_inHarbour 17 = .ok (.aload_n 1, 1) := by decide +kernel
theorem dX12_inHarbour_18 : decode cX12_inHarbour 18 = .ok (.bipush 36, 2) := by decide +kernel
theorem dX12_inHarbour_20 : decode cX12_inHarbour 20 = .ok (.iload_n 3, 1) := by decide +kernel
theorem dX12_inHarbour_21 : decode cX12_inHarbour 21 = .ok (.iadd, 1) := by decide +kernel
theorem dX12_inHarbour_22 : decode cX12_inHarbour 22 = .ok (.iaload, 1) := by decide +kernel
theorem dX12_inHarbour_23 : decode cX12_inHarbour 23 = .ok (.iaload, 1) := by decide +kernel
theorem dX12_inHarbour_24 : decode cX12_inHarbour 24 = .ok (.iconst 2, 1) := by decide +kernel
theorem dX12_inHarbour_25 : decode cX12_inHarbour 25 = .ok (.if_icmp .ne 9, 3) := by decide +kernel
theorem dX12_inHarbour_28 : decode cX12_inHarbour 28 = .ok (.iconst 1, 1) := by decide +kernel
theorem dX12_inHarbour_29 : decode cX12_inHarbour 29 = .ok (.iload_n 3, 1) := by decide +kernel
theorem dX12_inHarbour_30 : decode cX12_inHarbour 30 = .ok (.ishl, 1) := by decide +kernel
theorem dX12_inHarbour_31 : decode cX12_inHarbour 31 = .ok (.goto 4, 3) := by decide +kernel
theorem dX12_inHarbour_34 : decode cX12_inHarbour 34 = .ok (.iconst 0, 1) := by decide +kernel
theorem dX12_inHarbour_35 : decode cX12_inHarbour 35 = .ok (.ior, 1) := by decide +kernel
theorem dX12_inHarbour_36 : decode cX12_inHarbour 36 = .ok (.istore_n 2, 1) := by decide +kernel
theorem dX12_inHarbour_37 : decode cX12_inHarbour 37 = .ok (.iinc 3 1, 3) := by decide +kernel
theorem dX12_inHarbour_40 : decode cX12_inHarbour 40 = .ok (.goto (-36), 3) := by decide +kernel
theorem dX12_inHarbour_43 : decode cX12_inHarbour 43 = .ok (.iload_n 2, 1) := by decide +kernel
theorem dX12_inHarbour_44 : decode cX12_inHarbour 44 = .ok (.ireturn, 1) := by decide +kernel
theorem dX12_plankMany_0 : decode cX12_plankMany 0 = .ok (.iconst 0, 1) := by decide +kernel
theorem dX12_plankMany_1 : decode cX12_plankMany 1 = .ok (.istore_n 2, 1) := by decide +kernel
theorem dX12_plankMany_2 : decode cX12_plankMany 2 = .ok (.iconst 0, 1) := by decide +kernel
theorem dX12_plankMany_3 : decode cX12_plankMany 3 = .ok (.istore_n 3, 1) := by decide +kernel
theorem dX12_plankMany_4 : decode cX12_plankMany 4 = .ok (.iload_n 3, 1) := by decide +kernel
theorem dX12_plankMany_5 : decode cX12_plankMany 5 = .ok (.bipush 36, 2) := by decide +kernel
theorem dX12_plankMany_7 : decode cX12_plankMany 7 = .ok (.if_icmp .ge 15, 3) := by decide +kernel
theorem dX12_plankMany_10 : decode cX12_plankMany 10 = .ok (.iload_n 2, 1) := by decide +kernel
theorem dX12_plankMany_11 : decode cX12_plankMany 11 = .ok (.aload_n 1, 1) := by decide +kernel
theorem dX12_plankMany_12 : decode cX12_plankMany 12 = .ok (.iload_n 3, 1) := by decide +kernel
theorem dX12_plankMany_13 : decode cX12_plankMany 13 = .ok (.iaload, 1) := by decide +kernel
theorem dX12_plankMany_14 : decode cX12_plankMany 14 = .ok (.iadd, 1) := by decide +kernel
theorem dX12_plankMany_15 : decode cX12_plankMany 15 = .ok (.istore_n 2, 1) := by decide +kernel
theorem dX12_plankMany_16 : decode cX12_plankMany 16 = .ok (.iinc 3 1, 3) := by decide +kernel
theorem dX12_plankMany_19 : decode cX12_plankMany 19 = .ok (.goto (-15), 3) := by decide +kernel
theorem dX12_plankMany_22 : decode cX12_plankMany 22 = .ok (.iload_n 2, 1) := by decide +kernel
theorem dX12_plankMany_23 : decode cX12_plankMany 23 = .ok (.ireturn, 1) := by decide +kernel
theorem dX12_sign_0 : decode cX12_sign 0 = .ok (.aload_n 0, 1) := by decide +kernel
theorem dX12_sign_1 : decode cX12_sign 1 = .ok (.iconst 0, 1) := by decide +kernel
theorem dX12_sign_2 : decode cX12_sign 2 = .ok (.putfield 3, 3) := by decide +kernel
theorem dX12_sign_5 : decode cX12_sign 5 = .ok (.aload_n 0, 1) := by decide +kernel
theorem dX12_sign_6 : decode cX12_sign 6 = .ok (.getfield 133, 3) := by decide +kernel
theorem dX12_sign_9 : decode cX12_sign 9 = .ok (.bipush 76, 2) := by decide +kernel
theorem dX12_sign_11 : decode cX12_sign 11 = .ok (.if_icmp .le 5, 3) := by decide +kernel
theorem dX12_sign_14 : decode cX12_sign 14 = .ok (.iconst (-1), 1) := by decide +kernel
theorem dX12_sign_15 : decode cX12_sign 15 = .ok (.ireturn, 1) := by decide +kernel
theorem dX12_sign_16 : decode cX12_sign 16 = .ok (.iconst 0, 1) := by decide +kernel
theorem dX12_sign_17 : decode cX12_sign 17 = .ok (.istore_n 2, 1) := by decide +kernel
theorem dX12_sign_18 : decode cX12_sign 18 = .ok (.iload_n 2, 1) := by decide +kernel
theorem dX12_sign_19 : decode cX12_sign 19 = .ok (.iconst 4, 1) := by decide +kernel
theorem dX12_sign_20 : decode cX12_sign 20 = .ok (.if_icmp .ge 33, 3) := by decide +kernel
theorem dX12_sign_23 : decode cX12_sign 23 = .ok (.aload_n 0, 1) := by decide +kernel
theorem dX12_sign_24 : decode cX12_sign 24 = .ok (.getfield 49, 3) := by decide +kernel
theorem dX12_sign_27 : decode cX12_sign 27 = .ok (.aload_n 0, 1) := by decide +kernel
theorem dX12_sign_28 : decode cX12_sign 28 = .ok (.getfield 133, 3) := by decide +kernel
theorem dX12_sign_31 : decode cX12_sign 31 = .ok (.iload_n 2, 1) := by decide +kernel
theorem dX12_sign_32 : decode cX12_sign 32 = .ok (.iadd, 1) := by decide +kernel
theorem dX12_sign_33 : decode cX12_sign 33 = .ok (.iload_n 1, 1) := by decide +kernel
theorem dX12_sign_34 : decode cX12_sign 34 = .ok (.bipush 24, 2) := by decide +kernel
theorem dX12_sign_36 : decode cX12_sign 36 = .ok (.bipush 8, 2) := by decide +kernel
theorem dX12_sign_38 : decode cX12_sign 38 = .ok (.iload_n 2, 1) := by decide +kernel
theorem dX12_sign_39 : decode cX12_sign 39 = .ok (.imul, 1) := by decide +kernel
theorem dX12_sign_40 : decode cX12_sign 40 = .ok (.isub, 1) := by decide +kernel
theorem dX12_sign_41 : decode cX12_sign 41 = .ok (.ishr, 1) := by decide +kernel
theorem dX12_sign_42 : decode cX12_sign 42 = .ok (.sipush 255, 3) := by decide +kernel
theorem dX12_sign_45 : decode cX12_sign 45 = .ok (.iand, 1) := by decide +kernel
theorem dX12_sign_46 : decode cX12_sign 46 = .ok (.iastore, 1) := by decide +kernel
theorem dX12_sign_47 : decode cX12_sign 47 = .ok (.iinc 2 1, 3) := by decide +kernel
theorem dX12_sign_50 : decode cX12_sign 50 = .ok (.goto (-32), 3) := by decide +kernel
theorem dX12_sign_53 : decode cX12_sign 53 = .ok (.aload_n 0, 1) := by decide +kernel
theorem dX12_sign_54 : decode cX12_sign 54 = .ok (.dup, 1) := by decide +kernel
theorem dX12_sign_55 : decode cX12_sign 55 = .ok (.getfield 133, 3) := by decide +kernel
theorem dX12_sign_58 : decode cX12_sign 58 = .ok (.iconst 4, 1) := by decide +kernel
theorem dX12_sign_59 : decode cX12_sign 59 = .ok (.iadd, 1) := by decide +kernel
theorem dX12_sign_60 : decode cX12_sign 60 = .ok (.putfield 133, 3) := by decide +kernel
theorem dX12_sign_63 : decode cX12_sign 63 = .ok (.aload_n 0, 1) := by decide +kernel
theorem dX12_sign_64 : decode cX12_sign 64 = .ok (.getfield 133, 3) := by decide +kernel
theorem dX12_sign_67 : decode cX12_sign 67 = .ok (.ireturn, 1) := by decide +kernel
theorem dX12_end_0 : decode cX12_end 0 = .ok (.aload_n 0, 1) := by decide +kernel
theorem dX12_end_1 : decode cX12_end 1 = .ok (.iconst 0, 1) := by decide +kernel
theorem dX12_end_2 : decode cX12_end 2 = .ok (.putfield 3, 3) := by decide +kernel
theorem dX12_end_5 : decode cX12_end 5 = .ok (.iload_n 1, 1) := by decide +kernel
theorem dX12_end_6 : decode cX12_end 6 = .ok (.i2l, 1) := by decide +kernel
theorem dX12_end_7 : decode cX12_end 7 = .ok (.lconst 0, 1) := by decide +kernel
theorem dX12_end_8 : decode cX12_end 8 = .ok (.aload_n 0, 1) := by decide +kernel
theorem dX12_end_9 : decode cX12_end 9 = .ok (.getfield 133, 3) := by decide +kernel
theorem dX12_end_12 : decode cX12_end 12 = .ok (.i2l, 1) := by decide +kernel
theorem dX12_end_13 : decode cX12_end 13 = .ok (.invokestatic 126, 3) := by decide +kernel
theorem dX12_end_16 : decode cX12_end 16 = .ok (.ifCond .ne 5, 3) := by decide +kernel
theorem dX12_end_19 : decode cX12_end 19 = .ok (.iconst 0, 1) := by decide +kernel
theorem dX12_end_20 : decode cX12_end 20 = .ok (.ireturn, 1) := by decide +kernel
theorem dX12_end_21 : decode cX12_end 21 = .ok (.aload_n 0, 1) := by decide +kernel
theorem dX12_end_22 : decode cX12_end 22 = .ok (.iload_n 1, 1) := by decide +kernel
theorem dX12_end_23 : decode cX12_end 23 = .ok (.putfield 133, 3) := by decide +kernel
theorem dX12_end_26 : decode cX12_end 26 = .ok (.iconst 1, 1) := by decide +kernel
theorem dX12_end_27 : decode cX12_end 27 = .ok (.ireturn, 1) := by decide +kernel
theorem dX12_begins_0 : decode cX12_begins 0 = .ok (.aload_n 0, 1) := by decide +kernel
theorem dX12_begins_1 : decode cX12_begins 1 = .ok (.getfield 133, 3) := by decide +kernel
theorem dX12_begins_4 : decode cX12_begins 4 = .ok (.istore_n 2, 1) := by decide +kernel
theorem dX12_begins_5 : decode cX12_begins 5 = .ok (.aload_n 0, 1) := by decide +kernel
theorem dX12_begins_6 : decode cX12_begins 6 = .ok (.iconst 0, 1) := by decide +kernel
theorem dX12_begins_7 : decode cX12_begins 7 = .ok (.putfield 133, 3) := by decide +kernel
theorem dX12_begins_10 : decode cX12_begins 10 = .ok (.aload_n 0, 1) := by decide +kernel
theorem dX12_begins_11 : decode cX12_begins 11 = .ok (.iconst 0, 1) := by decide +kernel
theorem dX12_begins_12 : decode cX12_begins 12 = .ok (.putfield 136, 3) := by decide +kernel
theorem dX12_begins_15 : decode cX12_begins 15 = .ok (.aload_n 0, 1) := by decide +kernel
theorem dX12_begins_16 : decode cX12_begins 16 = .ok (.iconst 0, 1) := by decide +kernel
theorem dX12_begins_17 : decode cX12_begins 17 = .ok (.putfield 139, 3) := by decide +kernel
theorem dX12_begins_20 : decode cX12_begins 20 = .ok (.aload_n 0, 1) := by decide +kernel
theorem dX12_begins_21 : decode cX12_begins 21 = .ok (.iload_n 2, 1) := by decide +kernel
theorem dX12_begins_22 : decode cX12_begins 22 = .ok (.iload_n 1, 1) := by decide +kernel
theorem dX12_begins_23 : decode cX12_begins 23 = .ok (.invokestatic 142, 3) := by decide +kernel
theorem dX12_begins_26 : decode cX12_begins 26 = .ok (.putfield 148, 3) := by decide +kernel
theorem dX12_begins_29 : decode cX12_begins 29 = .ok (.iload_n 2, 1) := by decide +kernel
theorem dX12_begins_30 : decode cX12_begins 30 = .ok (.ireturn, 1) := by decide +kernel
theorem dX12_takes_0 : decode cX12_takes 0 = .ok (.aload_n 0, 1) := by decide +kernel
theorem dX12_takes_1 : decode cX12_takes 1 = .ok (.getfield 136, 3) := by decide +kernel
theorem dX12_takes_4 : decode cX12_takes 4 = .ok (.aload_n 0, 1) := by decide +kernel
theorem dX12_takes_5 : decode cX12_takes 5 = .ok (.getfield 148, 3) := by decide +kernel
theorem dX12_takes_8 : decode cX12_takes 8 = .ok (.if_icmp .ge 20, 3) := by decide +kernel
theorem dX12_takes_11 : decode cX12_takes 11 = .ok (.aload_n 0, 1) := by decide +kernel
theorem dX12_takes_12 : decode cX12_takes 12 = .ok (.getfield 49, 3) := by decide +kernel
theorem dX12_takes_15 : decode cX12_takes 15 = .ok (.aload_n 0, 1) := by decide +kernel
theorem dX12_takes_16 : decode cX12_takes 16 = .ok (.getfield 136, 3) := by decide +kernel
theorem dX12_takes_19 : decode cX12_takes 19 = .ok (.iaload, 1) := by decide +kernel
theorem dX12_takes_20 : decode cX12_takes 20 = .ok (.iload_n 1, 1) := by decide +kernel
theorem dX12_takes_21 : decode cX12_takes 21 = .ok (.if_icmp .ne 7, 3) := by decide +kernel
theorem dX12_takes_24 : decode cX12_takes 24 = .ok (.iconst 1, 1) := by decide +kernel
theorem dX12_takes_25 : decode cX12_takes 25 = .ok (.goto 4, 3) := by decide +kernel
theorem dX12_takes_28 : decode cX12_takes 28 = .ok (.iconst 0, 1) := by decide +kernel
theorem dX12_takes_29 : decode cX12_takes 29 = .ok (.istore_n 2, 1) := by decide +kernel
theorem dX12_takes_30 : decode cX12_takes 30 = .ok (.aload_n 0, 1) := by decide +kernel
theorem dX12_takes_31 : decode cX12_takes 31 = .ok (.dup, 1) := by decide +kernel
theorem dX12_takes_32 : decode cX12_takes 32 = .ok (.getfield 136, 3) := by decide +kernel
theorem dX12_takes_35 : decode cX12_takes 35 = .ok (.iload_n 2, 1) := by decide +kernel
theorem dX12_takes_36 : decode cX12_takes 36 = .ok (.invokestatic 151, 3) := by decide +kernel
theorem dX12_takes_39 : decode cX12_takes 39 = .ok (.iadd, 1) := by decide +kernel
theorem dX12_takes_40 : decode cX12_takes 40 = .ok (.putfield 136, 3) := by decide +kernel
theorem dX12_takes_43 : decode cX12_takes 43 = .ok (.iload_n 2, 1) := by decide +kernel
theorem dX12_takes_44 : decode cX12_takes 44 = .ok (.ireturn, 1) := by decide +kernel
theorem dX12_isDigit_0 : decode cX12_isDigit 0 = .ok (.aload_n 0, 1) := by decide +kernel
theorem dX12_isDigit_1 : decode cX12_isDigit 1 = .ok (.getfield 136, 3) := by decide +kernel
theorem dX12_isDigit_4 : decode cX12_isDigit 4 = .ok (.aload_n 0, 1) := by decide +kernel
theorem dX12_isDigit_5 : decode cX12_isDigit 5 = .ok (.getfield 148, 3) := by decide +kernel
theorem dX12_isDigit_8 : decode cX12_isDigit 8 = .ok (.if_icmp .ge 29, 3) := by decide +kernel
theorem dX12_isDigit_11 : decode cX12_isDigit 11 = .ok (.aload_n 0, 1) := by decide +kernel
theorem dX12_isDigit_12 : decode cX12_isDigit 12 = .ok (.getfield 49, 3) := by decide +kernel
theorem dX12_isDigit_15 : decode cX12_isDigit 15 = .ok (.aload_n 0, 1) := by decide +kernel
theorem dX12_isDigit_16 : decode cX12_isDigit 16 = .ok (.getfield 136, 3) := by decide +kernel
theorem dX12_isDigit_19 : decode cX12_isDigit 19 = .ok (.iaload, 1) := by decide +kernel
theorem dX12_isDigit_20 : decode cX12_isDigit 20 = .ok (.i2l, 1) := by decide +kernel
theorem dX12_isDigit_21 : decode cX12_isDigit 21 = .ok (.ldc2_w 155, 3) := by decide +kernel
theorem dX12_isDigit_24 : decode cX12_isDigit 24 = .ok (.ldc2_w 157, 3) := by decide +kernel
theorem dX12_isDigit_27 : decode cX12_isDigit 27 = .ok (.invokestatic 126, 3) := by decide +kernel
theorem dX12_isDigit_30 : decode cX12_isDigit 30 = .ok (.ifCond .eq 7, 3) := by decide +kernel
theorem dX12_isDigit_33 : decode cX12_isDigit 33 = .ok (.iconst 1, 1) := by decide +kernel
theorem dX12_isDigit_34 : decode cX12_isDigit 34 = .ok (.goto 4, 3) := by decide +kernel
theorem dX12_isDigit_37 : decode cX12_isDigit 37 = .ok (.iconst 0, 1) := by decide +kernel
theorem dX12_isDigit_38 : decode cX12_isDigit 38 = .ok (.ireturn, 1) := by decide +kernel
theorem dX12_among_0 : decode cX12_among 0 = .ok (.iconst 0, 1) := by decide +kernel
theorem dX12_among_1 : decode cX12_among 1 = .ok (.istore_n 2, 1) := by decide +kernel
theorem dX12_among_2 : decode cX12_among 2 = .ok (.iload_n 2, 1) := by decide +kernel
theorem dX12_among_3 : decode cX12_among 3 = .ok (.aload_n 1, 1) := by decide +kernel
theorem dX12_among_4 : decode cX12_among 4 = .ok (.invokevirtual 159, 3) := by decide +kernel
theorem dX12_among_7 : decode cX12_among 7 = .ok (.if_icmp .ge 39, 3) := by decide +kernel
theorem dX12_among_10 : decode cX12_among 10 = .ok (.aload_n 0, 1) := by decide +kernel
theorem dX12_among_11 : decode cX12_among 11 = .ok (.getfield 136, 3) := by decide +kernel
theorem dX12_among_14 : decode cX12_among 14 = .ok (.aload_n 0, 1) := by decide +kernel
theorem dX12_among_15 : decode cX12_among 15 = .ok (.getfield 148, 3) := by decide +kernel
theorem dX12_among_18 : decode cX12_among 18 = .ok (.if_icmp .ge 28, 3) := by decide +kernel
theorem dX12_among_21 : decode cX12_among 21 = .ok (.aload_n 1, 1) := by decide +kernel
theorem dX12_among_22 : decode cX12_among 22 = .ok (.iload_n 2, 1) := by decide +kernel
theorem dX12_among_23 : decode cX12_among 23 = .ok (.invokevirtual 164, 3) := by decide +kernel
theorem dX12_among_26 : decode cX12_among 26 = .ok (.aload_n 0, 1) := by decide +kernel
theorem dX12_among_27 : decode cX12_among 27 = .ok (.getfield 49, 3) := by decide +kernel
theorem dX12_among_30 : decode cX12_among 30 = .ok (.aload_n 0, 1) := by decide +kernel
theorem dX12_among_31 : decode cX12_among 31 = .ok (.getfield 136, 3) := by decide +kernel
theorem dX12_among_34 : decode cX12_among 34 = .ok (.iaload, 1) := by decide +kernel
theorem dX12_among_35 : decode cX12_among 35 = .ok (.if_icmp .ne 5, 3) := by decide +kernel
theorem dX12_among_38 : decode cX12_among 38 = .ok (.iload_n 2, 1) := by decide +kernel
theorem dX12_among_39 : decode cX12_among 39 = .ok (.ireturn, 1) := by decide +kernel
theorem dX12_among_40 : decode cX12_among 40 = .ok (.iinc 2 1, 3) := by decide +kernel
theorem dX12_among_43 : decode cX12_among 43 = .ok (.goto (-41), 3) := by decide +kernel
theorem dX12_among_46 : decode cX12_among 46 = .ok (.iconst (-1), 1) := by decide +kernel
theorem dX12_among_47 : decode cX12_among 47 = .ok (.ireturn, 1) := by decide +kernel
theorem dX12_takesOf_0 : decode cX12_takesOf 0 = .ok (.aload_n 0, 1) := by decide +kernel
theorem dX12_takesOf_1 : decode cX12_takesOf 1 = .ok (.aload_n 1, 1) := by decide +kernel
theorem dX12_takesOf_2 : decode cX12_takesOf 2 = .ok (.invokevirtual 168, 3) := by decide +kernel
theorem dX12_takesOf_5 : decode cX12_takesOf 5 = .ok (.istore_n 2, 1) := by decide +kernel
theorem dX12_takesOf_6 : decode cX12_takesOf 6 = .ok (.aload_n 0, 1) := by decide +kernel
theorem dX12_takesOf_7 : decode cX12_takesOf 7 = .ok (.dup, 1) := by decide +kernel
theorem dX12_takesOf_8 : decode cX12_takesOf 8 = .ok (.getfield 136, 3) := by decide +kernel
theorem dX12_takesOf_11 : decode cX12_takesOf 11 = .ok (.iload_n 2, 1) := by decide +kernel
theorem dX12_takesOf_12 : decode cX12_takesOf 12 = .ok (.ifCond .lt 7, 3) := by decide +kernel
theorem dX12_takesOf_15 : decode cX12_takesOf 15 = .ok (.iconst 1, 1) := by decide +kernel
theorem dX12_takesOf_16 : decode cX12_takesOf 16 = .ok (.goto 4, 3) := by decide +kernel
theorem dX12_takesOf_19 : decode cX12_takesOf 19 = .ok (.iconst 0, 1) := by decide +kernel
theorem dX12_takesOf_20 : decode cX12_takesOf 20 = .ok (.invokestatic 151, 3) := by decide +kernel
theorem dX12_takesOf_23 : decode cX12_takesOf 23 = .ok (.iadd, 1) := by decide +kernel
theorem dX12_takesOf_24 : decode cX12_takesOf 24 = .ok (.putfield 136, 3) := by decide +kernel
theorem dX12_takesOf_27 : decode cX12_takesOf 27 = .ok (.iload_n 2, 1) := by decide +kernel
theorem dX12_takesOf_28 : decode cX12_takesOf 28 = .ok (.ireturn, 1) := by decide +kernel
theorem dX12_number_0 : decode cX12_number 0 = .ok (.aload_n 0, 1) := by decide +kernel
theorem dX12_number_1 : decode cX12_number 1 = .ok (.invokevirtual 172, 3) := by decide +kernel
theorem dX12_number_4 : decode cX12_number 4 = .ok (.ifCond .ne 5, 3) := by decide +kernel
theorem dX12_number_7 : decode cX12_number 7 = .ok (.iconst (-1), 1) := by decide +kernel
theorem dX12_number_8 : decode cX12_number 8 = .ok (.ireturn, 1) := by decide +kernel
theorem dX12_number_9 : decode cX12_number 9 = .ok (.iconst 0, 1) := by decide +kernel
theorem dX12_number_10 : decode cX12_number 10 = .ok (.istore_n 2, 1) := by decide +kernel
theorem dX12_number_11 : decode cX12_number 11 = .ok (.iconst 0, 1) := by decide +kernel
theorem dX12_number_12 : decode cX12_number 12 = .ok (.istore_n 3, 1) := by decide +kernel
theorem dX12_number_13 : decode cX12_number 13 = .ok (.iload_n 3, 1) := by decide +kernel
theorem dX12_number_14 : decode cX12_number 14 = .ok (.iload_n 1, 1) := by decide +kernel
theorem dX12_number_15 : decode cX12_number 15 = .ok (.if_icmp .ge 44, 3) := by decide +kernel
theorem dX12_number_18 : decode cX12_number 18 = .ok (.aload_n 0, 1) := by decide +kernel
theorem dX12_number_19 : decode cX12_number 19 = .ok (.invokevirtual 172, 3) := by decide +kernel
theorem dX12_number_22 : decode cX12_number 22 = .ok (.ifCond .eq 37, 3) := by decide +kernel
theorem dX12_number_25 : decode cX12_number 25 = .ok (.bipush 10, 2) := by decide +kernel
theorem dX12_number_27 : decode cX12_number 27 = .ok (.iload_n 2, 1) := by decide +kernel
theorem dX12_number_28 : decode cX12_number 28 = .ok (.imul, 1) := by decide +kernel
theorem dX12_number_29 : decode cX12_number 29 = .ok (.aload_n 0, 1) := by decide +kernel
theorem dX12_number_30 : decode cX12_number 30 = .ok (.getfield 49, 3) := by decide +kernel
theorem dX12_number_33 : decode cX12_number 33 = .ok (.aload_n 0, 1) := by decide +kernel
theorem dX12_number_34 : decode cX12_number 34 = .ok (.getfield 136, 3) := by decide +kernel
theorem dX12_number_37 : decode cX12_number 37 = .ok (.iaload, 1) := by decide +kernel
theorem dX12_number_38 : decode cX12_number 38 = .ok (.iadd, 1) := by decide +kernel
theorem dX12_number_39 : decode cX12_number 39 = .ok (.bipush 48, 2) := by decide +kernel
theorem dX12_number_41 : decode cX12_number 41 = .ok (.isub, 1) := by decide +kernel
theorem dX12_number_42 : decode cX12_number 42 = .ok (.istore_n 2, 1) := by decide +kernel
theorem dX12_number_43 : decode cX12_number 43 = .ok (.aload_n 0, 1) := by decide +kernel
theorem dX12_number_44 : decode cX12_number 44 = .ok (.dup, 1) := by decide +kernel
theorem dX12_number_45 : decode cX12_number 45 = .ok (.getfield 136, 3) := by decide +kernel
theorem dX12_number_48 : decode cX12_number 48 = .ok (.iconst 1, 1) := by decide +kernel
theorem dX12_number_49 : decode cX12_number 49 = .ok (.iadd, 1) := by decide +kernel
theorem dX12_number_50 : decode cX12_number 50 = .ok (.putfield 136, 3) := by decide +kernel
theorem dX12_number_53 : decode cX12_number 53 = .ok (.iinc 3 1, 3) := by decide +kernel
theorem dX12_number_56 : decode cX12_number 56 = .ok (.goto (-43), 3) := by decide +kernel
theorem dX12_number_59 : decode cX12_number 59 = .ok (.iload_n 2, 1) := by decide +kernel
theorem dX12_number_60 : decode cX12_number 60 = .ok (.ireturn, 1) := by decide +kernel
theorem dX12_signIn_0 : decode cX12_signIn 0 = .ok (.aload_n 0, 1) := by decide +kernel
theorem dX12_signIn_1 : decode cX12_signIn 1 = .ok (.getfield 136, 3) := by decide +kernel
theorem dX12_signIn_4 : decode cX12_signIn 4 = .ok (.aload_n 0, 1) := by decide +kernel
theorem dX12_signIn_5 : decode cX12_signIn 5 = .ok (.getfield 148, 3) := by decide +kernel
theorem dX12_signIn_8 : decode cX12_signIn 8 = .ok (.if_icmp .ge 25, 3) := by decide +kernel
theorem dX12_signIn_11 : decode cX12_signIn 11 = .ok (.aload_n 0, 1) := by decide +kernel
theorem dX12_signIn_12 : decode cX12_signIn 12 = .ok (.getfield 49, 3) := by decide +kernel
theorem dX12_signIn_15 : decode cX12_signIn 15 = .ok (.aload_n 0, 1) := by decide +kernel
theorem dX12_signIn_16 : decode cX12_signIn 16 = .ok (.getfield 136, 3) := by decide +kernel
theorem dX12_signIn_19 : decode cX12_signIn 19 = .ok (.iaload, 1) := by decide +kernel
theorem dX12_signIn_20 : decode cX12_signIn 20 = .ok (.iload_n 1, 1) := by decide +kernel
theorem dX12_signIn_21 : decode cX12_signIn 21 = .ok (.isub, 1) := by decide +kernel
theorem dX12_signIn_22 : decode cX12_signIn 22 = .ok (.i2l, 1) := by decide +kernel
theorem dX12_signIn_23 : decode cX12_signIn 23 = .ok (.iload_n 2, 1) := by decide +kernel
theorem dX12_signIn_24 : decode cX12_signIn 24 = .ok (.i2l, 1) := by decide +kernel
theorem dX12_signIn_25 : decode cX12_signIn 25 = .ok (.iload_n 3, 1) := by decide +kernel
theorem dX12_signIn_26 : decode cX12_signIn 26 = .ok (.i2l, 1) := by decide +kernel
theorem dX12_signIn_27 : decode cX12_signIn 27 = .ok (.invokestatic 126, 3) := by decide +kernel
theorem dX12_signIn_30 : decode cX12_signIn 30 = .ok (.ifCond .ne 5, 3) := by decide +kernel
theorem dX12_signIn_33 : decode cX12_signIn 33 = .ok (.iconst (-1), 1) := by decide +kernel
theorem dX12_signIn_34 : decode cX12_signIn 34 = .ok (.ireturn, 1) := by decide +kernel
theorem dX12_signIn_35 : decode cX12_signIn 35 = .ok (.aload_n 0, 1) := by decide +kernel
theorem dX12_signIn_36 : decode cX12_signIn 36 = .ok (.dup, 1) := by decide +kernel
theorem dX12_signIn_37 : decode cX12_signIn 37 = .ok (.getfield 136, 3) := by decide +kernel
theorem dX12_signIn_40 : decode cX12_signIn 40 = .ok (.iconst 1, 1) := by decide +kernel
theorem dX12_signIn_41 : decode cX12_signIn 41 = .ok (.iadd, 1) := by decide +kernel
theorem dX12_signIn_42 : decode cX12_signIn 42 = .ok (.putfield 136, 3) := by decide +kernel
theorem dX12_signIn_45 : decode cX12_signIn 45 = .ok (.aload_n 0, 1) := by decide +kernel
theorem dX12_signIn_46 : decode cX12_signIn 46 = .ok (.getfield 49, 3) := by decide +kernel
theorem dX12_signIn_49 : decode cX12_signIn 49 = .ok (.aload_n 0, 1) := by decide +kernel
theorem dX12_signIn_50 : decode cX12_signIn 50 = .ok (.getfield 136, 3) := by decide +kernel
theorem dX12_signIn_53 : decode cX12_signIn 53 = .ok (.iconst 1, 1) := by decide +kernel
theorem dX12_signIn_54 : decode cX12_signIn 54 = .ok (.isub, 1) := by decide +kernel
theorem dX12_signIn_55 : decode cX12_signIn 55 = .ok (.iaload, 1) := by decide +kernel
theorem dX12_signIn_56 : decode cX12_signIn 56 = .ok (.iload_n 1, 1) := by decide +kernel
theorem dX12_signIn_57 : decode cX12_signIn 57 = .ok (.isub, 1) := by decide +kernel
theorem dX12_signIn_58 : decode cX12_signIn 58 = .ok (.ireturn, 1) := by decide +kernel
theorem dX12_twoDigits_0 : decode cX12_twoDigits 0 = .ok (.aload_n 0, 1) := by decide +kernel
theorem dX12_twoDigits_1 : decode cX12_twoDigits 1 = .ok (.iconst 1, 1) := by decide +kernel
theorem dX12_twoDigits_2 : decode cX12_twoDigits 2 = .ok (.invokevirtual 176, 3) := by decide +kernel
theorem dX12_twoDigits_5 : decode cX12_twoDigits 5 = .ok (.istore_n 1, 1) := by decide +kernel
theorem dX12_twoDigits_6 : decode cX12_twoDigits 6 = .ok (.iload_n 1, 1) := by decide +kernel
theorem dX12_twoDigits_7 : decode cX12_twoDigits 7 = .ok (.ifCond .ge 7, 3) := by decide +kernel
theorem dX12_twoDigits_10 : decode cX12_twoDigits 10 = .ok (.iconst (-1), 1) := by decide +kernel
theorem dX12_twoDigits_11 : decode cX12_twoDigits 11 = .ok (.goto 8, 3) := by decide +kernel
theorem dX12_twoDigits_14 : decode cX12_twoDigits 14 = .ok (.aload_n 0, 1) := by decide +kernel
theorem dX12_twoDigits_15 : decode cX12_twoDigits 15 = .ok (.iconst 1, 1) := by decide +kernel
theorem dX12_twoDigits_16 : decode cX12_twoDigits 16 = .ok (.invokevirtual 176, 3) := by decide +kernel
theorem dX12_twoDigits_19 : decode cX12_twoDigits 19 = .ok (.istore_n 2, 1) := by decide +kernel
theorem dX12_twoDigits_20 : decode cX12_twoDigits 20 = .ok (.iload_n 2, 1) := by decide +kernel
theorem dX12_twoDigits_21 : decode cX12_twoDigits 21 = .ok (.ifCond .ge 7, 3) := by decide +kernel
theorem dX12_twoDigits_24 : decode cX12_twoDigits 24 = .ok (.iconst (-1), 1) := by decide +kernel
theorem dX12_twoDigits_25 : decode cX12_twoDigits 25 = .ok (.goto 9, 3) := by decide +kernel
theorem dX12_twoDigits_28 : decode cX12_twoDigits 28 = .ok (.bipush 10, 2) := by decide +kernel
theorem dX12_twoDigits_30 : decode cX12_twoDigits 30 = .ok (.iload_n 1, 1) := by decide +kernel
theorem dX12_twoDigits_31 : decode cX12_twoDigits 31 = .ok (.imul, 1) := by decide +kernel
theorem dX12_twoDigits_32 : decode cX12_twoDigits 32 = .ok (.iload_n 2, 1) := by decide +kernel
theorem dX12_twoDigits_33 : decode cX12_twoDigits 33 = .ok (.iadd, 1) := by decide +kernel
theorem dX12_twoDigits_34 : decode cX12_twoDigits 34 = .ok (.ireturn, 1) := by decide +kernel
theorem dX12_faultOf_0 : decode cX12_faultOf 0 = .ok (.iload_n 3, 1) := by decide +kernel
theorem dX12_faultOf_1 : decode cX12_faultOf 1 = .ok (.ifCond .eq 18, 3) := by decide +kernel
theorem dX12_faultOf_4 : decode cX12_faultOf 4 = .ok (.aload_n 0, 1) := by decide +kernel
theorem dX12_faultOf_5 : decode cX12_faultOf 5 = .ok (.getfield 136, 3) := by decide +kernel
theorem dX12_faultOf_8 : decode cX12_faultOf 8 = .ok (.aload_n 0, 1) := by decide +kernel
theorem dX12_faultOf_9 : decode cX12_faultOf 9 = .ok (.getfield 148, 3) := by decide +kernel
theorem dX12_faultOf_12 : decode cX12_faultOf 12 = .ok (.if_icmp .ne 7, 3) := by decide +kernel
theorem dX12_faultOf_15 : decode cX12_faultOf 15 = .ok (.iconst 1, 1) := by decide +kernel
theorem dX12_faultOf_16 : decode cX12_faultOf 16 = .ok (.goto 4, 3) := by decide +kernel
theorem dX12_faultOf_19 : decode cX12_faultOf 19 = .ok (.iconst 0, 1) := by decide +kernel
theorem dX12_faultOf_20 : decode cX12_faultOf 20 = .ok (.istore 4, 2) := by decide +kernel
theorem dX12_faultOf_22 : decode cX12_faultOf 22 = .ok (.iload_n 1, 1) := by decide +kernel
theorem dX12_faultOf_23 : decode cX12_faultOf 23 = .ok (.iload_n 2, 1) := by decide +kernel
theorem dX12_faultOf_24 : decode cX12_faultOf 24 = .ok (.if_icmp .le 20, 3) := by decide +kernel
theorem dX12_faultOf_27 : decode cX12_faultOf 27 = .ok (.iload 4, 2) := by decide +kernel
theorem dX12_faultOf_29 : decode cX12_faultOf 29 = .ok (.ifCond .ne 11, 3) := by decide +kernel
theorem dX12_faultOf_32 : decode cX12_faultOf 32 = .ok (.aload_n 0, 1) := by decide +kernel
theorem dX12_faultOf_33 : decode cX12_faultOf 33 = .ok (.getfield 136, 3) := by decide +kernel
theorem dX12_faultOf_36 : decode cX12_faultOf 36 = .ok (.iload_n 2, 1) := by decide +kernel
theorem dX12_faultOf_37 : decode cX12_faultOf 37 = .ok (.if_icmp .lt 7, 3) := by decide +kernel
theorem dX12_faultOf_40 : decode cX12_faultOf 40 = .ok (.iconst (-1), 1) := by decide +kernel
theorem dX12_faultOf_41 : decode cX12_faultOf 41 = .ok (.iload_n 2, 1) := by decide +kernel
theorem dX12_faultOf_42 : decode cX12_faultOf 42 = .ok (.isub, 1) := by decide +kernel
theorem dX12_faultOf_43 : decode cX12_faultOf 43 = .ok (.ireturn, 1) := by decide +kernel
theorem dX12_faultOf_44 : decode cX12_faultOf 44 = .ok (.iload 4, 2) := by decide +kernel
theorem dX12_faultOf_46 : decode cX12_faultOf 46 = .ok (.ifCond .eq 7, 3) := by decide +kernel
theorem dX12_faultOf_49 : decode cX12_faultOf 49 = .ok (.iconst 0, 1) := by decide +kernel
theorem dX12_faultOf_50 : decode cX12_faultOf 50 = .ok (.goto 9, 3) := by decide +kernel
theorem dX12_faultOf_53 : decode cX12_faultOf 53 = .ok (.iconst (-1), 1) := by decide +kernel
theorem dX12_faultOf_54 : decode cX12_faultOf 54 = .ok (.aload_n 0, 1) := by decide +kernel
theorem dX12_faultOf_55 : decode cX12_faultOf 55 = .ok (.getfield 136, 3) := by decide +kernel
theorem dX12_faultOf_58 : decode cX12_faultOf 58 = .ok (.isub, 1) := by decide +kernel
theorem dX12_faultOf_59 : decode cX12_faultOf 59 = .ok (.ireturn, 1) := by decide +kernel
theorem dX12_readsRow_0 : decode cX12_readsRow 0 = .ok (.iload_n 1, 1) := by decide +kernel
theorem dX12_readsRow_1 : decode cX12_readsRow 1 = .ok (.ifCond .ne 8, 3) := by decide +kernel
theorem dX12_readsRow_4 : decode cX12_readsRow 4 = .ok (.bipush 6, 2) := by decide +kernel
theorem dX12_readsRow_6 : decode cX12_readsRow 6 = .ok (.goto 7, 3) := by decide +kernel
theorem dX12_readsRow_9 : decode cX12_readsRow 9 = .ok (.aload_n 0, 1) := by decide +kernel
theorem dX12_readsRow_10 : decode cX12_readsRow 10 = .ok (.getfield 180, 3) := by decide +kernel
theorem dX12_readsRow_13 : decode cX12_readsRow 13 = .ok (.istore_n 2, 1) := by decide +kernel
theorem dX12_readsRow_14 : decode cX12_readsRow 14 = .ok (.iconst 0, 1) := by decide +kernel
theorem dX12_readsRow_15 : decode cX12_readsRow 15 = .ok (.istore_n 3, 1) := by decide +kernel
theorem dX12_readsRow_16 : decode cX12_readsRow 16 = .ok (.aload_n 0, 1) := by decide +kernel
theorem dX12_readsRow_17 : decode cX12_readsRow 17 = .ok (.ldc 183, 2) := by decide +kernel
theorem dX12_readsRow_19 : decode cX12_readsRow 19 = .ok (.invokevirtual 168, 3) := by decide +kernel
theorem dX12_readsRow_22 : decode cX12_readsRow 22 = .ok (.istore 4, 2) := by decide +kernel
theorem dX12_readsRow_24 : decode cX12_readsRow 24 = .ok (.iload_n 3, 1) := by decide +kernel
theorem dX12_readsRow_25 : decode cX12_readsRow 25 = .ok (.iload_n 2, 1) := by decide +kernel
theorem dX12_readsRow_26 : decode cX12_readsRow 26 = .ok (.if_icmp .ge 47, 3) := by decide +kernel
theorem dX12_readsRow_29 : decode cX12_readsRow 29 = .ok (.iload 4, 2) := by decide +kernel
theorem dX12_readsRow_31 : decode cX12_readsRow 31 = .ok (.ifCond .lt 42, 3) := by decide +kernel
theorem dX12_readsRow_34 : decode cX12_readsRow 34 = .ok (.aload_n 0, 1) := by decide +kernel
theorem dX12_readsRow_35 : decode cX12_readsRow 35 = .ok (.dup, 1) := by decide +kernel
theorem dX12_readsRow_36 : decode cX12_readsRow 36 = .ok (.getfield 136, 3) := by decide +kernel
theorem dX12_readsRow_39 : decode cX12_readsRow 39 = .ok (.iconst 1, 1) := by decide +kernel
theorem dX12_readsRow_40 : decode cX12_readsRow 40 = .ok (.iadd, 1) := by decide +kernel
theorem dX12_readsRow_41 : decode cX12_readsRow 41 = .ok (.putfield 136, 3) := by decide +kernel
theorem dX12_readsRow_44 : decode cX12_readsRow 44 = .ok (.aload_n 0, 1) := by decide +kernel
theorem dX12_readsRow_45 : decode cX12_readsRow 45 = .ok (.getfield 52, 3) := by decide +kernel
theorem dX12_readsRow_48 : decode cX12_readsRow 48 = .ok (.aload_n 0, 1) := by decide +kernel
theorem dX12_readsRow_49 : decode cX12_readsRow 49 = .ok (.getfield 180, 3) := by decide +kernel
theorem dX12_readsRow_52 : decode cX12_readsRow 52 = .ok (.iload_n 1, 1) := by decide +kernel
theorem dX12_readsRow_53 : decode cX12_readsRow 53 = .ok (.imul, 1) := by decide +kernel
theorem dX12_readsRow_54 : decode cX12_readsRow 54 = .ok (.iload_n 3, 1) := by decide +kernel
theorem dX12_readsRow_55 : decode cX12_readsRow 55 = .ok (.iadd, 1) := by decide +kernel
theorem dX12_readsRow_56 : decode cX12_readsRow 56 = .ok (.iload 4, 2) := by decide +kernel
theorem dX12_readsRow_58 : decode cX12_readsRow 58 = .ok (.iastore, 1) := by decide +kernel
theorem dX12_readsRow_59 : decode cX12_readsRow 59 = .ok (.iinc 3 1, 3) := by decide +kernel
theorem dX12_readsRow_62 : decode cX12_readsRow 62 = .ok (.aload_n 0, 1) := by decide +kernel
theorem dX12_readsRow_63 : decode cX12_readsRow 63 = .ok (.ldc 183, 2) := by decide +kernel
theorem dX12_readsRow_65 : decode cX12_readsRow 65 = .ok (.invokevirtual 168, 3) := by decide +kernel
theorem dX12_readsRow_68 : decode cX12_readsRow 68 = .ok (.istore 4, 2) := by decide +kernel
theorem dX12_readsRow_70 : decode cX12_readsRow 70 = .ok (.goto (-46), 3) := by decide +kernel
theorem dX12_readsRow_73 : decode cX12_readsRow 73 = .ok (.aload_n 0, 1) := by decide +kernel
theorem dX12_readsRow_74 : decode cX12_readsRow 74 = .ok (.iload_n 1, 1) := by decide +kernel
theorem dX12_readsRow_75 : decode cX12_readsRow 75 = .ok (.ifCond .ne 7, 3) := by decide +kernel
theorem dX12_readsRow_78 : decode cX12_readsRow 78 = .ok (.iload_n 3, 1) := by decide +kernel
theorem dX12_readsRow_79 : decode cX12_readsRow 79 = .ok (.goto 7, 3) := by decide +kernel
theorem dX12_readsRow_82 : decode cX12_readsRow 82 = .ok (.aload_n 0, 1) := by decide +kernel
theorem dX12_readsRow_83 : decode cX12_readsRow 83 = .ok (.getfield 180, 3) := by decide +kernel
theorem dX12_readsRow_86 : decode cX12_readsRow 86 = .ok (.putfield 180, 3) := by decide +kernel
theorem dX12_readsRow_89 : decode cX12_readsRow 89 = .ok (.iload_n 3, 1) := by decide +kernel
theorem dX12_readsRow_90 : decode cX12_readsRow 90 = .ok (.ifCond .le 15, 3) := by decide +kernel
theorem dX12_readsRow_93 : decode cX12_readsRow 93 = .ok (.iload_n 3, 1) := by decide +kernel
theorem dX12_readsRow_94 : decode cX12_readsRow 94 = .ok (.aload_n 0, 1) := by decide +kernel
theorem dX12_readsRow_95 : decode cX12_readsRow 95 = .ok (.getfield 180, 3) := by decide +kernel
theorem dX12_readsRow_98 : decode cX12_readsRow 98 = .ok (.if_icmp .ne 7, 3) := by decide +kernel
theorem dX12_readsRow_101 : decode cX12_readsRow 101 = .ok (.iconst 1, 1) := by decide +kernel
theorem dX12_readsRow_102 : decode cX12_readsRow 102 = .ok (.goto 4, 3) := by decide +kernel
theorem dX12_readsRow_105 : decode cX12_readsRow 105 = .ok (.iconst 0, 1) := by decide +kernel
theorem dX12_readsRow_106 : decode cX12_readsRow 106 = .ok (.ireturn, 1) := by decide +kernel
theorem dX12_land_0 : decode cX12_land 0 = .ok (.aload_n 0, 1) := by decide +kernel
theorem dX12_land_1 : decode cX12_land 1 = .ok (.iconst 0, 1) := by decide +kernel
theorem dX12_land_2 : decode cX12_land 2 = .ok (.putfield 3, 3) := by decide +kernel
theorem dX12_land_5 : decode cX12_land 5 = .ok (.aload_n 0, 1) := by decide +kernel
theorem dX12_land_6 : decode cX12_land 6 = .ok (.bipush 80, 2) := by decide +kernel
theorem dX12_land_8 : decode cX12_land 8 = .ok (.invokevirtual 185, 3) := by decide +kernel
theorem dX12_land_11 : decode cX12_land 11 = .ok (.pop, 1) := by decide +kernel
theorem dX12_land_12 : decode cX12_land 12 = .ok (.aload_n 0, 1) := by decide +kernel
theorem dX12_land_13 : decode cX12_land 13 = .ok (.iconst 0, 1) := by decide +kernel
theorem dX12_land_14 : decode cX12_land 14 = .ok (.putfield 180, 3) := by decide +kernel
theorem dX12_land_17 : decode cX12_land 17 = .ok (.aload_n 0, 1) := by decide +kernel
theorem dX12_land_18 : decode cX12_land 18 = .ok (.iconst 0, 1) := by decide +kernel
theorem dX12_land_19 : decode cX12_land 19 = .ok (.invokevirtual 188, 3) := by decide +kernel
theorem dX12_land_22 : decode cX12_land 22 = .ok (.istore_n 1, 1) := by decide +kernel
theorem dX12_land_23 : decode cX12_land 23 = .ok (.iconst 1, 1) := by decide +kernel
theorem dX12_land_24 : decode cX12_land 24 = .ok (.istore_n 2, 1) := by decide +kernel
theorem dX12_land_25 : decode cX12_land 25 = .ok (.iload_n 1, 1) := by decide +kernel
theorem dX12_land_26 : decode cX12_land 26 = .ok (.ifCond .eq 30, 3) := by decide +kernel
theorem dX12_land_29 : decode cX12_land 29 = .ok (.iload_n 2, 1) := by decide +kernel
theorem dX12_land_30 : decode cX12_land 30 = .ok (.bipush 6, 2) := by decide +kernel
theorem dX12_land_32 : decode cX12_land 32 = .ok (.if_icmp .ge 24, 3) := by decide +kernel
theorem dX12_land_35 : decode cX12_land 35 = .ok (.aload_n 0, 1) := by decide +kernel
theorem dX12_land_36 : decode cX12_land 36 = .ok (.bipush 47, 2) := by decide +kernel
theorem dX12_land_38 : decode cX12_land 38 = .ok (.invokevirtual 192, 3) := by decide +kernel
theorem dX12_land_41 : decode cX12_land 41 = .ok (.ifCond .eq 15, 3) := by decide +kernel
theorem dX12_land_44 : decode cX12_land 44 = .ok (.aload_n 0, 1) := by decide +kernel
theorem dX12_land_45 : decode cX12_land 45 = .ok (.iload_n 2, 1) := by decide +kernel
theorem dX12_land_46 : decode cX12_land 46 = .ok (.invokevirtual 188, 3) := by decide +kernel
theorem dX12_land_49 : decode cX12_land 49 = .ok (.istore_n 1, 1) := by decide +kernel
theorem dX12_land_50 : decode cX12_land 50 = .ok (.iinc 2 1, 3) := by decide +kernel
theorem dX12_land_53 : decode cX12_land 53 = .ok (.goto (-28), 3) := by decide +kernel
theorem dX12_land_56 : decode cX12_land 56 = .ok (.iload_n 1, 1) := by decide +kernel
theorem dX12_land_57 : decode cX12_land 57 = .ok (.ifCond .eq 14, 3) := by decide +kernel
theorem dX12_land_60 : decode cX12_land 60 = .ok (.aload_n 0, 1) := by decide +kernel
theorem dX12_land_61 : decode cX12_land 61 = .ok (.getfield 136, 3) := by decide +kernel
theorem dX12_land_64 : decode cX12_land 64 = .ok (.aload_n 0, 1) := by decide +kernel
theorem dX12_land_65 : decode cX12_land 65 = .ok (.getfield 148, 3) := by decide +kernel
theorem dX12_land_68 : decode cX12_land 68 = .ok (.if_icmp .ge 10, 3) := by decide +kernel
theorem dX12_land_71 : decode cX12_land 71 = .ok (.iconst (-1), 1) := by decide +kernel
theorem dX12_land_72 : decode cX12_land 72 = .ok (.aload_n 0, 1) := by decide +kernel
theorem dX12_land_73 : decode cX12_land 73 = .ok (.getfield 136, 3) := by decide +kernel
theorem dX12_land_76 : decode cX12_land 76 = .ok (.isub, 1) := by decide +kernel
theorem dX12_land_77 : decode cX12_land 77 = .ok (.ireturn, 1) := by decide +kernel
theorem dX12_land_78 : decode cX12_land 78 = .ok (.aload_n 0, 1) := by decide +kernel
theorem dX12_land_79 : decode cX12_land 79 = .ok (.iload_n 2, 1) := by decide +kernel
theorem dX12_land_80 : decode cX12_land 80 = .ok (.putfield 24, 3) := by decide +kernel
theorem dX12_land_83 : decode cX12_land 83 = .ok (.aload_n 0, 1) := by decide +kernel
theorem dX12_land_84 : decode cX12_land 84 = .ok (.aload_n 0, 1) := by decide +kernel
theorem dX12_land_85 : decode cX12_land 85 = .ok (.getfield 180, 3) := by decide +kernel
theorem dX12_land_88 : decode cX12_land 88 = .ok (.putfield 27, 3) := by decide +kernel
theorem dX12_land_91 : decode cX12_land 91 = .ok (.iconst 0, 1) := by decide +kernel
theorem dX12_land_92 : decode cX12_land 92 = .ok (.istore_n 3, 1) := by decide +kernel
theorem dX12_land_93 : decode cX12_land 93 = .ok (.iload_n 3, 1) := by decide +kernel
theorem dX12_land_94 : decode cX12_land 94 = .ok (.bipush 36, 2) := by decide +kernel
theorem dX12_land_96 : decode cX12_land 96 = .ok (.if_icmp .ge 71, 3) := by decide +kernel
theorem dX12_land_99 : decode cX12_land 99 = .ok (.iload_n 3, 1) := by decide +kernel
theorem dX12_land_100 : decode cX12_land 100 = .ok (.aload_n 0, 1) := by decide +kernel
theorem dX12_land_101 : decode cX12_land 101 = .ok (.invokevirtual 122, 3) := by decide +kernel
theorem dX12_land_104 : decode cX12_land 104 = .ok (.if_icmp .ge 12, 3) := by decide +kernel
theorem dX12_land_107 : decode cX12_land 107 = .ok (.aload_n 0, 1) := by decide +kernel
theorem dX12_land_108 : decode cX12_land 108 = .ok (.getfield 52, 3) := by decide +kernel
theorem dX12_land_111 : decode cX12_land 111 = .ok (.iload_n 3, 1) := by decide +kernel
theorem dX12_land_112 : decode cX12_land 112 = .ok (.iaload, 1) := by decide +kernel
theorem dX12_land_113 : decode cX12_land 113 = .ok (.goto 5, 3) := by decide +kernel
theorem dX12_land_116 : decode cX12_land 116 = .ok (.bipush 12, 2) := by decide +kernel
theorem dX12_land_118 : decode cX12_land 118 = .ok (.istore 4, 2) := by decide +kernel
theorem dX12_land_120 : decode cX12_land 120 = .ok (.aload_n 0, 1) := by decide +kernel
theorem dX12_land_121 : decode cX12_land 121 = .ok (.getfield 30, 3) := by decide +kernel
theorem dX12_land_124 : decode cX12_land 124 = .ok (.iload_n 3, 1) := by decide +kernel
theorem dX12_land_125 : decode cX12_land 125 = .ok (.iload 4, 2) := by decide +kernel
theorem dX12_land_127 : decode cX12_land 127 = .ok (.bipush 10, 2) := by decide +kernel
theorem dX12_land_129 : decode cX12_land 129 = .ok (.if_icmp .ge 7, 3) := by decide +kernel
theorem dX12_land_132 : decode cX12_land 132 = .ok (.iconst 0, 1) := by decide +kernel
theorem dX12_land_133 : decode cX12_land 133 = .ok (.goto 8, 3) := by decide +kernel
theorem dX12_land_136 : decode cX12_land 136 = .ok (.iload 4, 2) := by decide +kernel
theorem dX12_land_138 : decode cX12_land 138 = .ok (.bipush 9, 2) := by decide +kernel
theorem dX12_land_140 : decode cX12_land 140 = .ok (.isub, 1) := by decide +kernel
theorem dX12_land_141 : decode cX12_land 141 = .ok (.iastore, 1) := by decide +kernel
theorem dX12_land_142 : decode cX12_land 142 = .ok (.aload_n 0, 1) := by decide +kernel
theorem dX12_land_143 : decode cX12_land 143 = .ok (.getfield 34, 3) := by decide +kernel
theorem dX12_land_146 : decode cX12_land 146 = .ok (.iload_n 3, 1) := by decide +kernel
theorem dX12_land_147 : decode cX12_land 147 = .ok (.iload 4, 2) := by decide +kernel
theorem dX12_land_149 : decode cX12_land 149 = .ok (.bipush 10, 2) := by decide +kernel
theorem dX12_land_151 : decode cX12_land 151 = .ok (.if_icmp .ge 8, 3) := by decide +kernel
theorem dX12_land_154 : decode cX12_land 154 = .ok (.iload 4, 2) := by decide +kernel
theorem dX12_land_156 : decode cX12_land 156 = .ok (.goto 4, 3) := by decide +kernel
theorem dX12_land_159 : decode cX12_land 159 = .ok (.iconst 0, 1) := by decide +kernel
theorem dX12_land_160 : decode cX12_land 160 = .ok (.iastore, 1) := by decide +kernel
theorem dX12_land_161 : decode cX12_land 161 = .ok (.iinc 3 1, 3) := by decide +kernel
theorem dX12_land_164 : decode cX12_land 164 = .ok (.goto (-71), 3) := by decide +kernel
theorem dX12_land_167 : decode cX12_land 167 = .ok (.iconst 0, 1) := by decide +kernel
theorem dX12_land_168 : decode cX12_land 168 = .ok (.istore_n 3, 1) := by decide +kernel
theorem dX12_land_169 : decode cX12_land 169 = .ok (.iload_n 3, 1) := by decide +kernel
theorem dX12_land_170 : decode cX12_land 170 = .ok (.bipush 50, 2) := by decide +kernel
theorem dX12_land_172 : decode cX12_land 172 = .ok (.if_icmp .ge 16, 3) := by decide +kernel
theorem dX12_land_175 : decode cX12_land 175 = .ok (.aload_n 0, 1) := by decide +kernel
theorem dX12_land_176 : decode cX12_land 176 = .ok (.getfield 43, 3) := by decide +kernel
theorem dX12_land_179 : decode cX12_land 179 = .ok (.iload_n 3, 1) := by decide +kernel
theorem dX12_land_180 : decode cX12_land 180 = .ok (.iconst 0, 1) := by decide +kernel
theorem dX12_land_181 : decode cX12_land 181 = .ok (.iastore, 1) := by decide +kernel
theorem dX12_land_182 : decode cX12_land 182 = .ok (.iinc 3 1, 3) := by decide +kernel
theorem dX12_land_185 : decode cX12_land 185 = .ok (.goto (-16), 3) := by decide +kernel
theorem dX12_land_188 : decode cX12_land 188 = .ok (.aload_n 0, 1) := by decide +kernel
theorem dX12_land_189 : decode cX12_land 189 = .ok (.iconst 0, 1) := by decide +kernel
theorem dX12_land_190 : decode cX12_land 190 = .ok (.putfield 130, 3) := by decide +kernel
theorem dX12_land_193 : decode cX12_land 193 = .ok (.aload_n 0, 1) := by decide +kernel
theorem dX12_land_194 : decode cX12_land 194 = .ok (.iconst 0, 1) := by decide +kernel
theorem dX12_land_195 : decode cX12_land 195 = .ok (.putfield 195, 3) := by decide +kernel
theorem dX12_land_198 : decode cX12_land 198 = .ok (.aload_n 0, 1) := by decide +kernel
theorem dX12_land_199 : decode cX12_land 199 = .ok (.iconst 0, 1) := by decide +kernel
theorem dX12_land_200 : decode cX12_land 200 = .ok (.putfield 198, 3) := by decide +kernel
theorem dX12_land_203 : decode cX12_land 203 = .ok (.aload_n 0, 1) := by decide +kernel
theorem dX12_land_204 : decode cX12_land 204 = .ok (.dup, 1) := by decide +kernel
theorem dX12_land_205 : decode cX12_land 205 = .ok (.getfield 201, 3) := by decide +kernel
theorem dX12_land_208 : decode cX12_land 208 = .ok (.iconst 1, 1) := by decide +kernel
theorem dX12_land_209 : decode cX12_land 209 = .ok (.iadd, 1) := by decide +kernel
theorem dX12_land_210 : decode cX12_land 210 = .ok (.putfield 201, 3) := by decide +kernel
theorem dX12_land_213 : decode cX12_land 213 = .ok (.aload_n 0, 1) := by decide +kernel
theorem dX12_land_214 : decode cX12_land 214 = .ok (.invokevirtual 122, 3) := by decide +kernel
theorem dX12_land_217 : decode cX12_land 217 = .ok (.ireturn, 1) := by decide +kernel
theorem dX12_readsShip_0 : decode cX12_readsShip 0 = .ok (.aload_n 0, 1) := by decide +kernel
theorem dX12_readsShip_1 : decode cX12_readsShip 1 = .ok (.getfield 130, 3) := by decide +kernel
theorem dX12_readsShip_4 : decode cX12_readsShip 4 = .ok (.aload_n 0, 1) := by decide +kernel
theorem dX12_readsShip_5 : decode cX12_readsShip 5 = .ok (.getfield 204, 3) := by decide +kernel
theorem dX12_readsShip_8 : decode cX12_readsShip 8 = .ok (.iadd, 1) := by decide +kernel
theorem dX12_readsShip_9 : decode cX12_readsShip 9 = .ok (.bipush 8, 2) := by decide +kernel
theorem dX12_readsShip_11 : decode cX12_readsShip 11 = .ok (.if_icmp .ne 5, 3) := by decide +kernel
theorem dX12_readsShip_14 : decode cX12_readsShip 14 = .ok (.iconst 0, 1) := by decide +kernel
theorem dX12_readsShip_15 : decode cX12_readsShip 15 = .ok (.ireturn, 1) := by decide +kernel
theorem dX12_readsShip_16 : decode cX12_readsShip 16 = .ok (.iconst 2, 1) := by decide +kernel
theorem dX12_readsShip_17 : decode cX12_readsShip 17 = .ok (.aload_n 0, 1) := by decide +kernel
theorem dX12_readsShip_18 : decode cX12_readsShip 18 = .ok (.getfield 204, 3) := by decide +kernel
theorem dX12_readsShip_21 : decode cX12_readsShip 21 = .ok (.imul, 1) := by decide +kernel
theorem dX12_readsShip_22 : decode cX12_readsShip 22 = .ok (.istore_n 1, 1) := by decide +kernel
theorem dX12_readsShip_23 : decode cX12_readsShip 23 = .ok (.aload_n 0, 1) := by decide +kernel
theorem dX12_readsShip_24 : decode cX12_readsShip 24 = .ok (.getfield 55, 3) := by decide +kernel
theorem dX12_readsShip_27 : decode cX12_readsShip 27 = .ok (.iload_n 1, 1) := by decide +kernel
theorem dX12_readsShip_28 : decode cX12_readsShip 28 = .ok (.aload_n 0, 1) := by decide +kernel
theorem dX12_readsShip_29 : decode cX12_readsShip 29 = .ok (.iconst 2, 1) := by decide +kernel
theorem dX12_readsShip_30 : decode cX12_readsShip 30 = .ok (.invokevirtual 176, 3) := by decide +kernel
theorem dX12_readsShip_33 : decode cX12_readsShip 33 = .ok (.iastore, 1) := by decide +kernel
theorem dX12_readsShip_34 : decode cX12_readsShip 34 = .ok (.aload_n 0, 1) := by decide +kernel
theorem dX12_readsShip_35 : decode cX12_readsShip 35 = .ok (.getfield 55, 3) := by decide +kernel
theorem dX12_readsShip_38 : decode cX12_readsShip 38 = .ok (.iload_n 1, 1) := by decide +kernel
theorem dX12_readsShip_39 : decode cX12_readsShip 39 = .ok (.iaload, 1) := by decide +kernel
theorem dX12_readsShip_40 : decode cX12_readsShip 40 = .ok (.ifCond .ne 15, 3) := by decide +kernel
theorem dX12_readsShip_43 : decode cX12_readsShip 43 = .ok (.aload_n 0, 1) := by decide +kernel
theorem dX12_readsShip_44 : decode cX12_readsShip 44 = .ok (.dup, 1) := by decide +kernel
theorem dX12_readsShip_45 : decode cX12_readsShip 45 = .ok (.getfield 136, 3) := by decide +kernel
theorem dX12_readsShip_48 : decode cX12_readsShip 48 = .ok (.iconst 1, 1) := by decide +kernel
theorem dX12_readsShip_49 : decode cX12_readsShip 49 = .ok (.isub, 1) := by decide +kernel
theorem dX12_readsShip_50 : decode cX12_readsShip 50 = .ok (.putfield 136, 3) := by decide +kernel
theorem dX12_readsShip_53 : decode cX12_readsShip 53 = .ok (.iconst 0, 1) := by decide +kernel
theorem dX12_readsShip_54 : decode cX12_readsShip 54 = .ok (.ireturn, 1) := by decide +kernel
theorem dX12_readsShip_55 : decode cX12_readsShip 55 = .ok (.aload_n 0, 1) := by decide +kernel
theorem dX12_readsShip_56 : decode cX12_readsShip 56 = .ok (.getfield 55, 3) := by decide +kernel
theorem dX12_readsShip_59 : decode cX12_readsShip 59 = .ok (.iload_n 1, 1) := by decide +kernel
theorem dX12_readsShip_60 : decode cX12_readsShip 60 = .ok (.iaload, 1) := by decide +kernel
theorem dX12_readsShip_61 : decode cX12_readsShip 61 = .ok (.ifCond .lt 12, 3) := by decide +kernel
theorem dX12_readsShip_64 : decode cX12_readsShip 64 = .ok (.aload_n 0, 1) := by decide +kernel
theorem dX12_readsShip_65 : decode cX12_readsShip 65 = .ok (.bipush 44, 2) := by decide +kernel
theorem dX12_readsShip_67 : decode cX12_readsShip 67 = .ok (.invokevirtual 192, 3) := by decide +kernel
theorem dX12_readsShip_70 : decode cX12_readsShip 70 = .ok (.ifCond .ne 5, 3) := by decide +kernel
theorem dX12_readsShip_73 : decode cX12_readsShip 73 = .ok (.iconst 0, 1) := by decide +kernel
theorem dX12_readsShip_74 : decode cX12_readsShip 74 = .ok (.ireturn, 1) := by decide +kernel
theorem dX12_readsShip_75 : decode cX12_readsShip 75 = .ok (.aload_n 0, 1) := by decide +kernel
theorem dX12_readsShip_76 : decode cX12_readsShip 76 = .ok (.getfield 55, 3) := by decide +kernel
theorem dX12_readsShip_79 : decode cX12_readsShip 79 = .ok (.iload_n 1, 1) := by decide +kernel
theorem dX12_readsShip_80 : decode cX12_readsShip 80 = .ok (.iconst 1, 1) := by decide +kernel
theorem dX12_readsShip_81 : decode cX12_readsShip 81 = .ok (.iadd, 1) := by decide +kernel
theorem dX12_readsShip_82 : decode cX12_readsShip 82 = .ok (.aload_n 0, 1) := by decide +kernel
theorem dX12_readsShip_83 : decode cX12_readsShip 83 = .ok (.invokevirtual 207, 3) := by decide +kernel
theorem dX12_readsShip_86 : decode cX12_readsShip 86 = .ok (.iastore, 1) := by decide +kernel
theorem dX12_readsShip_87 : decode cX12_readsShip 87 = .ok (.aload_n 0, 1) := by decide +kernel
theorem dX12_readsShip_88 : decode cX12_readsShip 88 = .ok (.getfield 55, 3) := by decide +kernel
theorem dX12_readsShip_91 : decode cX12_readsShip 91 = .ok (.iload_n 1, 1) := by decide +kernel
theorem dX12_readsShip_92 : decode cX12_readsShip 92 = .ok (.iconst 1, 1) := by decide +kernel
theorem dX12_readsShip_93 : decode cX12_readsShip 93 = .ok (.iadd, 1) := by decide +kernel
theorem dX12_readsShip_94 : decode cX12_readsShip 94 = .ok (.iaload, 1) := by decide +kernel
theorem dX12_readsShip_95 : decode cX12_readsShip 95 = .ok (.ifCond .ge 5, 3) := by decide +kernel
theorem dX12_readsShip_98 : decode cX12_readsShip 98 = .ok (.iconst 0, 1) := by decide +kernel
theorem dX12_readsShip_99 : decode cX12_readsShip 99 = .ok (.ireturn, 1) := by decide +kernel
theorem dX12_readsShip_100 : decode cX12_readsShip 100 = .ok (.aload_n 0, 1) := by decide +kernel
theorem dX12_readsShip_101 : decode cX12_readsShip 101 = .ok (.aload_n 0, 1) := by decide +kernel
theorem dX12_readsShip_102 : decode cX12_readsShip 102 = .ok (.getfield 55, 3) := by decide +kernel
theorem dX12_readsShip_105 : decode cX12_readsShip 105 = .ok (.iload_n 1, 1) := by decide +kernel
theorem dX12_readsShip_106 : decode cX12_readsShip 106 = .ok (.iconst 1, 1) := by decide +kernel
theorem dX12_readsShip_107 : decode cX12_readsShip 107 = .ok (.iadd, 1) := by decide +kernel
theorem dX12_readsShip_108 : decode cX12_readsShip 108 = .ok (.iaload, 1) := by decide +kernel
theorem dX12_readsShip_109 : decode cX12_readsShip 109 = .ok (.invokevirtual 210, 3) := by decide +kernel
theorem dX12_readsShip_112 : decode cX12_readsShip 112 = .ok (.ifCond .eq 20, 3) := by decide +kernel
theorem dX12_readsShip_115 : decode cX12_readsShip 115 = .ok (.aload_n 0, 1) := by decide +kernel
theorem dX12_readsShip_116 : decode cX12_readsShip 116 = .ok (.getfield 30, 3) := by decide +kernel
theorem dX12_readsShip_119 : decode cX12_readsShip 119 = .ok (.aload_n 0, 1) := by decide +kernel
theorem dX12_readsShip_120 : decode cX12_readsShip 120 = .ok (.getfield 55, 3) := by decide +kernel
theorem dX12_readsShip_123 : decode cX12_readsShip 123 = .ok (.iload_n 1, 1) := by decide +kernel
theorem dX12_readsShip_124 : decode cX12_readsShip 124 = .ok (.iconst 1, 1) := by decide +kernel
theorem dX12_readsShip_125 : decode cX12_readsShip 125 = .ok (.iadd, 1) := by decide +kernel
theorem dX12_readsShip_126 : decode cX12_readsShip 126 = .ok (.iaload, 1) := by decide +kernel
theorem dX12_readsShip_127 : decode cX12_readsShip 127 = .ok (.iaload, 1) := by decide +kernel
theorem dX12_readsShip_128 : decode cX12_readsShip 128 = .ok (.iconst 1, 1) := by decide +kernel
theorem dX12_readsShip_129 : decode cX12_readsShip 129 = .ok (.if_icmp .eq 15, 3) := by decide +kernel
theorem dX12_readsShip_132 : decode cX12_readsShip 132 = .ok (.aload_n 0, 1) := by decide +kernel
theorem dX12_readsShip_133 : decode cX12_readsShip 133 = .ok (.dup, 1) := by decide +kernel
theorem dX12_readsShip_134 : decode cX12_readsShip 134 = .ok (.getfield 136, 3) := by decide +kernel
theorem dX12_readsShip_137 : decode cX12_readsShip 137 = .ok (.iconst 1, 1) := by decide +kernel
theorem dX12_readsShip_138 : decode cX12_readsShip 138 = .ok (.isub, 1) := by decide +kernel
theorem dX12_readsShip_139 : decode cX12_readsShip 139 = .ok (.putfield 136, 3) := by decide +kernel
theorem dX12_readsShip_142 : decode cX12_readsShip 142 = .ok (.iconst 0, 1) := by decide +kernel
theorem dX12_readsShip_143 : decode cX12_readsShip 143 = .ok (.ireturn, 1) := by decide +kernel
theorem dX12_readsShip_144 : decode cX12_readsShip 144 = .ok (.aload_n 0, 1) := by decide +kernel
theorem dX12_readsShip_145 : decode cX12_readsShip 145 = .ok (.dup, 1) := by decide +kernel
theorem dX12_readsShip_146 : decode cX12_readsShip 146 = .ok (.getfield 204, 3) := by decide +kernel
theorem dX12_readsShip_149 : decode cX12_readsShip 149 = .ok (.iconst 1, 1) := by decide +kernel
theorem dX12_readsShip_150 : decode cX12_readsShip 150 = .ok (.iadd, 1) := by decide +kernel
theorem dX12_readsShip_151 : decode cX12_readsShip 151 = .ok (.putfield 204, 3) := by decide +kernel
theorem dX12_readsShip_154 : decode cX12_readsShip 154 = .ok (.iconst 1, 1) := by decide +kernel
theorem dX12_readsShip_155 : decode cX12_readsShip 155 = .ok (.ireturn, 1) := by decide +kernel
theorem dX12_ships_0 : decode cX12_ships 0 = .ok (.aload_n 0, 1) := by decide +kernel
theorem dX12_ships_1 : decode cX12_ships 1 = .ok (.iconst 0, 1) := by decide +kernel
theorem dX12_ships_2 : decode cX12_ships 2 = .ok (.putfield 3, 3) := by decide +kernel
theorem dX12_ships_5 : decode cX12_ships 5 = .ok (.aload_n 0, 1) := by decide +kernel
theorem dX12_ships_6 : decode cX12_ships 6 = .ok (.bipush 55, 2) := by decide +kernel
theorem dX12_ships_8 : decode cX12_ships 8 = .ok (.invokevirtual 185, 3) := by decide +kernel
theorem dX12_ships_11 : decode cX12_ships 11 = .ok (.istore_n 1, 1) := by decide +kernel
theorem dX12_ships_12 : decode cX12_ships 12 = .ok (.aload_n 0, 1) := by decide +kernel
theorem dX12_ships_13 : decode cX12_ships 13 = .ok (.iconst 0, 1) := by decide +kernel
theorem dX12_ships_14 : decode cX12_ships 14 = .ok (.putfield 204, 3) := by decide +kernel
theorem dX12_ships_17 : decode cX12_ships 17 = .ok (.iconst 1, 1) := by decide +kernel
theorem dX12_ships_18 : decode cX12_ships 18 = .ok (.istore_n 2, 1) := by decide +kernel
theorem dX12_ships_19 : decode cX12_ships 19 = .ok (.iload_n 1, 1) := by decide +kernel
theorem dX12_ships_20 : decode cX12_ships 20 = .ok (.ifCond .le 7, 3) := by decide +kernel
theorem dX12_ships_23 : decode cX12_ships 23 = .ok (.iconst 1, 1) := by decide +kernel
theorem dX12_ships_24 : decode cX12_ships 24 = .ok (.goto 4, 3) := by decide +kernel
theorem dX12_ships_27 : decode cX12_ships 27 = .ok (.iconst 0, 1) := by decide +kernel
theorem dX12_ships_28 : decode cX12_ships 28 = .ok (.istore_n 3, 1) := by decide +kernel
theorem dX12_ships_29 : decode cX12_ships 29 = .ok (.iload_n 3, 1) := by decide +kernel
theorem dX12_ships_30 : decode cX12_ships 30 = .ok (.ifCond .eq 30, 3) := by decide +kernel
theorem dX12_ships_33 : decode cX12_ships 33 = .ok (.aload_n 0, 1) := by decide +kernel
theorem dX12_ships_34 : decode cX12_ships 34 = .ok (.invokevirtual 213, 3) := by decide +kernel
theorem dX12_ships_37 : decode cX12_ships 37 = .ok (.istore_n 2, 1) := by decide +kernel
theorem dX12_ships_38 : decode cX12_ships 38 = .ok (.iload_n 2, 1) := by decide +kernel
theorem dX12_ships_39 : decode cX12_ships 39 = .ok (.ifCond .eq 16, 3) := by decide +kernel
theorem dX12_ships_42 : decode cX12_ships 42 = .ok (.aload_n 0, 1) := by decide +kernel
theorem dX12_ships_43 : decode cX12_ships 43 = .ok (.bipush 59, 2) := by decide +kernel
theorem dX12_ships_45 : decode cX12_ships 45 = .ok (.invokevirtual 192, 3) := by decide +kernel
theorem dX12_ships_48 : decode cX12_ships 48 = .ok (.ifCond .eq 7, 3) := by decide +kernel
theorem dX12_ships_51 : decode cX12_ships 51 = .ok (.iconst 1, 1) := by decide +kernel
theorem dX12_ships_52 : decode cX12_ships 52 = .ok (.goto 4, 3) := by decide +kernel
theorem dX12_ships_55 : decode cX12_ships 55 = .ok (.iconst 0, 1) := by decide +kernel
theorem dX12_ships_56 : decode cX12_ships 56 = .ok (.istore_n 3, 1) := by decide +kernel
theorem dX12_ships_57 : decode cX12_ships 57 = .ok (.goto (-28), 3) := by decide +kernel
theorem dX12_ships_60 : decode cX12_ships 60 = .ok (.aload_n 0, 1) := by decide +kernel
theorem dX12_ships_61 : decode cX12_ships 61 = .ok (.iload_n 1, 1) := by decide +kernel
theorem dX12_ships_62 : decode cX12_ships 62 = .ok (.bipush 55, 2) := by decide +kernel
theorem dX12_ships_64 : decode cX12_ships 64 = .ok (.iload_n 2, 1) := by decide +kernel
theorem dX12_ships_65 : decode cX12_ships 65 = .ok (.invokevirtual 216, 3) := by decide +kernel
theorem dX12_ships_68 : decode cX12_ships 68 = .ok (.istore 4, 2) := by decide +kernel
theorem dX12_ships_70 : decode cX12_ships 70 = .ok (.iload 4, 2) := by decide +kernel
theorem dX12_ships_72 : decode cX12_ships 72 = .ok (.ifCond .ge 6, 3) := by decide +kernel
theorem dX12_ships_75 : decode cX12_ships 75 = .ok (.iload 4, 2) := by decide +kernel
theorem dX12_ships_77 : decode cX12_ships 77 = .ok (.ireturn, 1) := by decide +kernel
theorem dX12_ships_78 : decode cX12_ships 78 = .ok (.iconst 0, 1) := by decide +kernel
theorem dX12_ships_79 : decode cX12_ships 79 = .ok (.istore 5, 2) := by decide +kernel
theorem dX12_ships_81 : decode cX12_ships 81 = .ok (.iload 5, 2) := by decide +kernel
theorem dX12_ships_83 : decode cX12_ships 83 = .ok (.aload_n 0, 1) := by decide +kernel
theorem dX12_ships_84 : decode cX12_ships 84 = .ok (.getfield 204, 3) := by decide +kernel
theorem dX12_ships_87 : decode cX12_ships 87 = .ok (.if_icmp .ge 78, 3) := by decide +kernel
theorem dX12_ships_90 : decode cX12_ships 90 = .ok (.aload_n 0, 1) := by decide +kernel
theorem dX12_ships_91 : decode cX12_ships 91 = .ok (.getfield 37, 3) := by decide +kernel
theorem dX12_ships_94 : decode cX12_ships 94 = .ok (.aload_n 0, 1) := by decide +kernel
theorem dX12_ships_95 : decode cX12_ships 95 = .ok (.getfield 130, 3) := by decide +kernel
theorem dX12_ships_98 : decode cX12_ships 98 = .ok (.aload_n 0, 1) := by decide +kernel
theorem dX12_ships_99 : decode cX12_ships 99 = .ok (.getfield 55, 3) := by decide +kernel
theorem dX12_ships_102 : decode cX12_ships 102 = .ok (.iconst 2, 1) := by decide +kernel
theorem dX12_ships_103 : decode cX12_ships 103 = .ok (.iload 5, 2) := by decide +kernel
theorem dX12_ships_105 : decode cX12_ships 105 = .ok (.imul, 1) := by decide +kernel
theorem dX12_ships_106 : decode cX12_ships 106 = .ok (.iaload, 1) := by decide +kernel
theorem dX12_ships_107 : decode cX12_ships 107 = .ok (.iastore, 1) := by decide +kernel
theorem dX12_ships_108 : decode cX12_ships 108 = .ok (.aload_n 0, 1) := by decide +kernel
theorem dX12_ships_109 : decode cX12_ships 109 = .ok (.getfield 43, 3) := by decide +kernel
theorem dX12_ships_112 : decode cX12_ships 112 = .ok (.bipush 36, 2) := by decide +kernel
theorem dX12_ships_114 : decode cX12_ships 114 = .ok (.aload_n 0, 1) := by decide +kernel
theorem dX12_ships_115 : decode cX12_ships 115 = .ok (.getfield 130, 3) := by decide +kernel
theorem dX12_ships_118 : decode cX12_ships 118 = .ok (.iadd, 1) := by decide +kernel
theorem dX12_ships_119 : decode cX12_ships 119 = .ok (.aload_n 0, 1) := by decide +kernel
theorem dX12_ships_120 : decode cX12_ships 120 = .ok (.getfield 55, 3) := by decide +kernel
theorem dX12_ships_123 : decode cX12_ships 123 = .ok (.iconst 2, 1) := by decide +kernel
theorem dX12_ships_124 : decode cX12_ships 124 = .ok (.iload 5, 2) := by decide +kernel
theorem dX12_ships_126 : decode cX12_ships 126 = .ok (.imul, 1) := by decide +kernel
theorem dX12_ships_127 : decode cX12_ships 127 = .ok (.iconst 1, 1) := by decide +kernel
theorem dX12_ships_128 : decode cX12_ships 128 = .ok (.iadd, 1) := by decide +kernel
theorem dX12_ships_129 : decode cX12_ships 129 = .ok (.iaload, 1) := by decide +kernel
theorem dX12_ships_130 : decode cX12_ships 130 = .ok (.iastore, 1) := by decide +kernel
theorem dX12_ships_131 : decode cX12_ships 131 = .ok (.aload_n 0, 1) := by decide +kernel
theorem dX12_ships_132 : decode cX12_ships 132 = .ok (.getfield 43, 3) := by decide +kernel
theorem dX12_ships_135 : decode cX12_ships 135 = .ok (.bipush 44, 2) := by decide +kernel
theorem dX12_ships_137 : decode cX12_ships 137 = .ok (.dup2, 1) := by decide +kernel
theorem dX12_ships_138 : decode cX12_ships 138 = .ok (.iaload, 1) := by decide +kernel
theorem dX12_ships_139 : decode cX12_ships 139 = .ok (.iconst 1, 1) := by decide +kernel
theorem dX12_ships_140 : decode cX12_ships 140 = .ok (.aload_n 0, 1) := by decide +kernel
theorem dX12_ships_141 : decode cX12_ships 141 = .ok (.getfield 130, 3) := by decide +kernel
theorem dX12_ships_144 : decode cX12_ships 144 = .ok (.ishl, 1) := by decide +kernel
theorem dX12_ships_145 : decode cX12_ships 145 = .ok (.iconst (-1), 1) := by decide +kernel
theorem dX12_ships_146 : decode cX12_ships 146 = .ok (.ixor, 1) := by decide +kernel
theorem dX12_ships_147 : decode cX12_ships 147 = .ok (.iand, 1) := by decide +kernel
theorem dX12_ships_148 : decode cX12_ships 148 = .ok (.iastore, 1) := by decide +kernel
theorem dX12_ships_149 : decode cX12_ships 149 = .ok (.aload_n 0, 1) := by decide +kernel
theorem dX12_ships_150 : decode cX12_ships 150 = .ok (.dup, 1) := by decide +kernel
theorem dX12_ships_151 : decode cX12_ships 151 = .ok (.getfield 130, 3) := by decide +kernel
theorem dX12_ships_154 : decode cX12_ships 154 = .ok (.iconst 1, 1) := by decide +kernel
theorem dX12_ships_155 : decode cX12_ships 155 = .ok (.iadd, 1) := by decide +kernel
theorem dX12_ships_156 : decode cX12_ships 156 = .ok (.putfield 130, 3) := by decide +kernel
theorem dX12_ships_159 : decode cX12_ships 159 = .ok (.iinc 5 1, 3) := by decide +kernel
theorem dX12_ships_162 : decode cX12_ships 162 = .ok (.goto (-81), 3) := by decide +kernel
theorem dX12_ships_165 : decode cX12_ships 165 = .ok (.aload_n 0, 1) := by decide +kernel
theorem dX12_ships_166 : decode cX12_ships 166 = .ok (.getfield 204, 3) := by decide +kernel
theorem dX12_ships_169 : decode cX12_ships 169 = .ok (.ifCond .le 18, 3) := by decide +kernel
theorem dX12_ships_172 : decode cX12_ships 172 = .ok (.aload_n 0, 1) := by decide +kernel
theorem dX12_ships_173 : decode cX12_ships 173 = .ok (.iconst 0, 1) := by decide +kernel
theorem dX12_ships_174 : decode cX12_ships 174 = .ok (.putfield 198, 3) := by decide +kernel
theorem dX12_ships_177 : decode cX12_ships 177 = .ok (.aload_n 0, 1) := by decide +kernel
theorem dX12_ships_178 : decode cX12_ships 178 = .ok (.dup, 1) := by decide +kernel
theorem dX12_ships_179 : decode cX12_ships 179 = .ok (.getfield 201, 3) := by decide +kernel
theorem dX12_ships_182 : decode cX12_ships 182 = .ok (.iconst 1, 1) := by decide +kernel
theorem dX12_ships_183 : decode cX12_ships 183 = .ok (.iadd, 1) := by decide +kernel
theorem dX12_ships_184 : decode cX12_ships 184 = .ok (.putfield 201, 3) := by decide +kernel
theorem dX12_ships_187 : decode cX12_ships 187 = .ok (.aload_n 0, 1) := by decide +kernel
theorem dX12_ships_188 : decode cX12_ships 188 = .ok (.getfield 204, 3) := by decide +kernel
theorem dX12_ships_191 : decode cX12_ships 191 = .ok (.ireturn, 1) := by decide +kernel
theorem dX12_codes_0 : decode cX12_codes 0 = .ok (.aload_n 0, 1) := by decide +kernel
theorem dX12_codes_1 : decode cX12_codes 1 = .ok (.getfield 61, 3) := by decide +kernel
theorem dX12_codes_4 : decode cX12_codes 4 = .ok (.aload_n 0, 1) := by decide +kernel
theorem dX12_codes_5 : decode cX12_codes 5 = .ok (.getfield 220, 3) := by decide +kernel
theorem dX12_codes_8 : decode cX12_codes 8 = .ok (.iload_n 1, 1) := by decide +kernel
theorem dX12_codes_9 : decode cX12_codes 9 = .ok (.iastore, 1) := by decide +kernel
theorem dX12_codes_10 : decode cX12_codes 10 = .ok (.aload_n 0, 1) := by decide +kernel
theorem dX12_codes_11 : decode cX12_codes 11 = .ok (.dup, 1) := by decide +kernel
theorem dX12_codes_12 : decode cX12_codes 12 = .ok (.getfield 220, 3) := by decide +kernel
theorem dX12_codes_15 : decode cX12_codes 15 = .ok (.iconst 1, 1) := by decide +kernel
theorem dX12_codes_16 : decode cX12_codes 16 = .ok (.iadd, 1) := by decide +kernel
theorem dX12_codes_17 : decode cX12_codes 17 = .ok (.putfield 220, 3) := by decide +kernel
theorem dX12_codes_20 : decode cX12_codes 20 = .ok (.return_, 1) := by decide +kernel
theorem dX12_readsThing_0 : decode cX12_readsThing 0 = .ok (.aload_n 0, 1) := by decide +kernel
theorem dX12_readsThing_1 : decode cX12_readsThing 1 = .ok (.bipush 45, 2) := by decide +kernel
theorem dX12_readsThing_3 : decode cX12_readsThing 3 = .ok (.invokevirtual 192, 3) := by decide +kernel
theorem dX12_readsThing_6 : decode cX12_readsThing 6 = .ok (.ifCond .eq 17, 3) := by decide +kernel
theorem dX12_readsThing_9 : decode cX12_readsThing 9 = .ok (.aload_n 0, 1) := by decide +kernel
theorem dX12_readsThing_10 : decode cX12_readsThing 10 = .ok (.invokevirtual 223, 3) := by decide +kernel
theorem dX12_readsThing_13 : decode cX12_readsThing 13 = .ok (.istore_n 1, 1) := by decide +kernel
theorem dX12_readsThing_14 : decode cX12_readsThing 14 = .ok (.aload_n 0, 1) := by decide +kernel
theorem dX12_readsThing_15 : decode cX12_readsThing 15 = .ok (.sipush 3000, 3) := by decide +kernel
theorem dX12_readsThing_18 : decode cX12_readsThing 18 = .ok (.invokevirtual 226, 3) := by decide +kernel
theorem dX12_readsThing_21 : decode cX12_readsThing 21 = .ok (.iload_n 1, 1) := by decide +kernel
theorem dX12_readsThing_22 : decode cX12_readsThing 22 = .ok (.ireturn, 1) := by decide +kernel
theorem dX12_readsThing_23 : decode cX12_readsThing 23 = .ok (.aload_n 0, 1) := by decide +kernel
theorem dX12_readsThing_24 : decode cX12_readsThing 24 = .ok (.invokevirtual 172, 3) := by decide +kernel
theorem dX12_readsThing_27 : decode cX12_readsThing 27 = .ok (.ifCond .eq 14, 3) := by decide +kernel
theorem dX12_readsThing_30 : decode cX12_readsThing 30 = .ok (.aload_n 0, 1) := by decide +kernel
theorem dX12_readsThing_31 : decode cX12_readsThing 31 = .ok (.aload_n 0, 1) := by decide +kernel
theorem dX12_readsThing_32 : decode cX12_readsThing 32 = .ok (.iconst 3, 1) := by decide +kernel
theorem dX12_readsThing_33 : decode cX12_readsThing 33 = .ok (.invokevirtual 176, 3) := by decide +kernel
theorem dX12_readsThing_36 : decode cX12_readsThing 36 = .ok (.invokevirtual 226, 3) := by decide +kernel
theorem dX12_readsThing_39 : decode cX12_readsThing 39 = .ok (.iconst 1, 1) := by decide +kernel
theorem dX12_readsThing_40 : decode cX12_readsThing 40 = .ok (.ireturn, 1) := by decide +kernel
theorem dX12_readsThing_41 : decode cX12_readsThing 41 = .ok (.aload_n 0, 1) := by decide +kernel
theorem dX12_readsThing_42 : decode cX12_readsThing 42 = .ok (.ldc 230, 2) := by decide +kernel
theorem dX12_readsThing_44 : decode cX12_readsThing 44 = .ok (.invokevirtual 232, 3) := by decide +kernel
theorem dX12_readsThing_47 : decode cX12_readsThing 47 = .ok (.istore_n 1, 1) := by decide +kernel
theorem dX12_readsThing_48 : decode cX12_readsThing 48 = .ok (.iload_n 1, 1) := by decide +kernel
theorem dX12_readsThing_49 : decode cX12_readsThing 49 = .ok (.ifCond .lt 14, 3) := by decide +kernel
theorem dX12_readsThing_52 : decode cX12_readsThing 52 = .ok (.aload_n 0, 1) := by decide +kernel
theorem dX12_readsThing_53 : decode cX12_readsThing 53 = .ok (.sipush 1000, 3) := by decide +kernel
theorem dX12_readsThing_56 : decode cX12_readsThing 56 = .ok (.iload_n 1, 1) := by decide +kernel
theorem dX12_readsThing_57 : decode cX12_readsThing 57 = .ok (.iadd, 1) := by decide +kernel
theorem dX12_readsThing_58 : decode cX12_readsThing 58 = .ok (.invokevirtual 226, 3) := by decide +kernel
theorem dX12_readsThing_61 : decode cX12_readsThing 61 = .ok (.iconst 1, 1) := by decide +kernel
theorem dX12_readsThing_62 : decode cX12_readsThing 62 = .ok (.ireturn, 1) := by decide +kernel
theorem dX12_readsThing_63 : decode cX12_readsThing 63 = .ok (.aload_n 0, 1) := by decide +kernel
theorem dX12_readsThing_64 : decode cX12_readsThing 64 = .ok (.getfield 139, 3) := by decide +kernel
theorem dX12_readsThing_67 : decode cX12_readsThing 67 = .ok (.iconst 4, 1) := by decide +kernel
theorem dX12_readsThing_68 : decode cX12_readsThing 68 = .ok (.if_icmp .eq 12, 3) := by decide +kernel
theorem dX12_readsThing_71 : decode cX12_readsThing 71 = .ok (.aload_n 0, 1) := by decide +kernel
theorem dX12_readsThing_72 : decode cX12_readsThing 72 = .ok (.bipush 40, 2) := by decide +kernel
theorem dX12_readsThing_74 : decode cX12_readsThing 74 = .ok (.invokevirtual 192, 3) := by decide +kernel
theorem dX12_readsThing_77 : decode cX12_readsThing 77 = .ok (.ifCond .ne 5, 3) := by decide +kernel
theorem dX12_readsThing_80 : decode cX12_readsThing 80 = .ok (.iconst 0, 1) := by decide +kernel
theorem dX12_readsThing_81 : decode cX12_readsThing 81 = .ok (.ireturn, 1) := by decide +kernel
theorem dX12_readsThing_82 : decode cX12_readsThing 82 = .ok (.aload_n 0, 1) := by decide +kernel
theorem dX12_readsThing_83 : decode cX12_readsThing 83 = .ok (.dup, 1) := by decide +kernel
theorem dX12_readsThing_84 : decode cX12_readsThing 84 = .ok (.getfield 139, 3) := by decide +kernel
theorem dX12_readsThing_87 : decode cX12_readsThing 87 = .ok (.iconst 1, 1) := by decide +kernel
theorem dX12_readsThing_88 : decode cX12_readsThing 88 = .ok (.iadd, 1) := by decide +kernel
theorem dX12_readsThing_89 : decode cX12_readsThing 89 = .ok (.putfield 139, 3) := by decide +kernel
theorem dX12_readsThing_92 : decode cX12_readsThing 92 = .ok (.aload_n 0, 1) := by decide +kernel
theorem dX12_readsThing_93 : decode cX12_readsThing 93 = .ok (.iconst 0, 1) := by decide +kernel
theorem dX12_readsThing_94 : decode cX12_readsThing 94 = .ok (.invokevirtual 235, 3) := by decide +kernel
theorem dX12_readsThing_97 : decode cX12_readsThing 97 = .ok (.ifCond .eq 12, 3) := by decide +kernel
theorem dX12_readsThing_100 : decode cX12_readsThing 100 = .ok (.aload_n 0, 1) := by decide +kernel
theorem dX12_readsThing_101 : decode cX12_readsThing 101 = .ok (.bipush 41, 2) := by decide +kernel
theorem dX12_readsThing_103 : decode cX12_readsThing 103 = .ok (.invokevirtual 192, 3) := by decide +kernel
theorem dX12_readsThing_106 : decode cX12_readsThing 106 = .ok (.ifCond .ne 5, 3) := by decide +kernel
theorem dX12_readsThing_109 : decode cX12_readsThing 109 = .ok (.iconst 0, 1) := by decide +kernel
theorem dX12_readsThing_110 : decode cX12_readsThing 110 = .ok (.ireturn, 1) := by decide +kernel
theorem dX12_readsThing_111 : decode cX12_readsThing 111 = .ok (.aload_n 0, 1) := by decide +kernel
theorem dX12_readsThing_112 : decode cX12_readsThing 112 = .ok (.dup, 1) := by decide +kernel
theorem dX12_readsThing_113 : decode cX12_readsThing 113 = .ok (.getfield 139, 3) := by decide +kernel
theorem dX12_readsThing_116 : decode cX12_readsThing 116 = .ok (.iconst 1, 1) := by decide +kernel
theorem dX12_readsThing_117 : decode cX12_readsThing 117 = .ok (.isub, 1) := by decide +kernel
theorem dX12_readsThing_118 : decode cX12_readsThing 118 = .ok (.putfield 139, 3) := by decide +kernel
theorem dX12_readsThing_121 : decode cX12_readsThing 121 = .ok (.iconst 1, 1) := by decide +kernel
theorem dX12_readsThing_122 : decode cX12_readsThing 122 = .ok (.ireturn, 1) := by decide +kernel
theorem dX12_readsRank_0 : decode cX12_readsRank 0 = .ok (.iload_n 1, 1) := by decide +kernel
theorem dX12_readsRank_1 : decode cX12_readsRank 1 = .ok (.iconst 3, 1) := by decide +kernel
theorem dX12_readsRank_2 : decode cX12_readsRank 2 = .ok (.if_icmp .ne 8, 3) := by decide +kernel
theorem dX12_readsRank_5 : decode cX12_readsRank 5 = .ok (.aload_n 0, 1) := by decide +kernel
theorem dX12_readsRank_6 : decode cX12_readsRank 6 = .ok (.invokevirtual 223, 3) := by decide +kernel
theorem dX12_readsRank_9 : decode cX12_readsRank 9 = .ok (.ireturn, 1) := by decide +kernel
theorem dX12_readsRank_10 : decode cX12_readsRank 10 = .ok (.aload_n 0, 1) := by decide +kernel
theorem dX12_readsRank_11 : decode cX12_readsRank 11 = .ok (.iload_n 1, 1) := by decide +kernel
theorem dX12_readsRank_12 : decode cX12_readsRank 12 = .ok (.iconst 1, 1) := by decide +kernel
theorem dX12_readsRank_13 : decode cX12_readsRank 13 = .ok (.iadd, 1) := by decide +kernel
theorem dX12_readsRank_14 : decode cX12_readsRank 14 = .ok (.invokevirtual 235, 3) := by decide +kernel
theorem dX12_readsRank_17 : decode cX12_readsRank 17 = .ok (.ifCond .ne 5, 3) := by decide +kernel
theorem dX12_readsRank_20 : decode cX12_readsRank 20 = .ok (.iconst 0, 1) := by decide +kernel
theorem dX12_readsRank_21 : decode cX12_readsRank 21 = .ok (.ireturn, 1) := by decide +kernel
theorem dX12_readsRank_22 : decode cX12_readsRank 22 = .ok (.iconst 1, 1) := by decide +kernel
theorem dX12_readsRank_23 : decode cX12_readsRank 23 = .ok (.istore_n 2, 1) := by decide +kernel
theorem dX12_readsRank_24 : decode cX12_readsRank 24 = .ok (.iload_n 2, 1) := by decide +kernel
theorem dX12_readsRank_25 : decode cX12_readsRank 25 = .ok (.ifCond .eq 88, 3) := by decide +kernel
theorem dX12_readsRank_28 : decode cX12_readsRank 28 = .ok (.aload_n 0, 1) := by decide +kernel
theorem dX12_readsRank_29 : decode cX12_readsRank 29 = .ok (.iload_n 1, 1) := by decide +kernel
theorem dX12_readsRank_30 : decode cX12_readsRank 30 = .ok (.ifCond .ne 8, 3) := by decide +kernel
theorem dX12_readsRank_33 : decode cX12_readsRank 33 = .ok (.ldc 238, 2) := by decide +kernel
theorem dX12_readsRank_35 : decode cX12_readsRank 35 = .ok (.goto 15, 3) := by decide +kernel
theorem dX12_readsRank_38 : decode cX12_readsRank 38 = .ok (.iload_n 1, 1) := by decide +kernel
theorem dX12_readsRank_39 : decode cX12_readsRank 39 = .ok (.iconst 1, 1) := by decide +kernel
theorem dX12_readsRank_40 : decode cX12_readsRank 40 = .ok (.if_icmp .ne 8, 3) := by decide +kernel
theorem dX12_readsRank_43 : decode cX12_readsRank 43 = .ok (.ldc 240, 2) := by decide +kernel
theorem dX12_readsRank_45 : decode cX12_readsRank 45 = .ok (.goto 5, 3) := by decide +kernel
theorem dX12_readsRank_48 : decode cX12_readsRank 48 = .ok (.ldc 242, 2) := by decide +kernel
theorem dX12_readsRank_50 : decode cX12_readsRank 50 = .ok (.invokevirtual 232, 3) := by decide +kernel
theorem dX12_readsRank_53 : decode cX12_readsRank 53 = .ok (.istore_n 3, 1) := by decide +kernel
theorem dX12_readsRank_54 : decode cX12_readsRank 54 = .ok (.iload_n 3, 1) := by decide +kernel
theorem dX12_readsRank_55 : decode cX12_readsRank 55 = .ok (.ifCond .ge 5, 3) := by decide +kernel
theorem dX12_readsRank_58 : decode cX12_readsRank 58 = .ok (.iconst 1, 1) := by decide +kernel
theorem dX12_readsRank_59 : decode cX12_readsRank 59 = .ok (.ireturn, 1) := by decide +kernel
theorem dX12_readsRank_60 : decode cX12_readsRank 60 = .ok (.aload_n 0, 1) := by decide +kernel
theorem dX12_readsRank_61 : decode cX12_readsRank 61 = .ok (.iload_n 1, 1) := by decide +kernel
theorem dX12_readsRank_62 : decode cX12_readsRank 62 = .ok (.iconst 1, 1) := by decide +kernel
theorem dX12_readsRank_63 : decode cX12_readsRank 63 = .ok (.iadd, 1) := by decide +kernel
theorem dX12_readsRank_64 : decode cX12_readsRank 64 = .ok (.invokevirtual 235, 3) := by decide +kernel
theorem dX12_readsRank_67 : decode cX12_readsRank 67 = .ok (.ifCond .ne 5, 3) := by decide +kernel
theorem dX12_readsRank_70 : decode cX12_readsRank 70 = .ok (.iconst 0, 1) := by decide +kernel
theorem dX12_readsRank_71 : decode cX12_readsRank 71 = .ok (.ireturn, 1) := by decide +kernel
theorem dX12_readsRank_72 : decode cX12_readsRank 72 = .ok (.aload_n 0, 1) := by decide +kernel
theorem dX12_readsRank_73 : decode cX12_readsRank 73 = .ok (.sipush 2000, 3) := by decide +kernel
theorem dX12_readsRank_76 : decode cX12_readsRank 76 = .ok (.iload_n 3, 1) := by decide +kernel
theorem dX12_readsRank_77 : decode cX12_readsRank 77 = .ok (.iadd, 1) := by decide +kernel
theorem dX12_readsRank_78 : decode cX12_readsRank 78 = .ok (.iload_n 1, 1) := by decide +kernel
theorem dX12_readsRank_79 : decode cX12_readsRank 79 = .ok (.ifCond .ne 7, 3) := by decide +kernel
theorem dX12_readsRank_82 : decode cX12_readsRank 82 = .ok (.iconst 0, 1) := by decide +kernel
theorem dX12_readsRank_83 : decode cX12_readsRank 83 = .ok (.goto 13, 3) := by decide +kernel
theorem dX12_readsRank_86 : decode cX12_readsRank 86 = .ok (.iload_n 1, 1) := by decide +kernel
theorem dX12_readsRank_87 : decode cX12_readsRank 87 = .ok (.iconst 1, 1) := by decide +kernel
theorem dX12_readsRank_88 : decode cX12_readsRank 88 = .ok (.if_icmp .ne 7, 3) := by decide +kernel
theorem dX12_readsRank_91 : decode cX12_readsRank 91 = .ok (.iconst 3, 1) := by decide +kernel
theorem dX12_readsRank_92 : decode cX12_readsRank 92 = .ok (.goto 4, 3) := by decide +kernel
theorem dX12_readsRank_95 : decode cX12_readsRank 95 = .ok (.iconst 5, 1) := by decide +kernel
theorem dX12_readsRank_96 : decode cX12_readsRank 96 = .ok (.iadd, 1) := by decide +kernel
theorem dX12_readsRank_97 : decode cX12_readsRank 97 = .ok (.invokevirtual 226, 3) := by decide +kernel
theorem dX12_readsRank_100 : decode cX12_readsRank 100 = .ok (.iload_n 1, 1) := by decide +kernel
theorem dX12_readsRank_101 : decode cX12_readsRank 101 = .ok (.ifCond .le 7, 3) := by decide +kernel
theorem dX12_readsRank_104 : decode cX12_readsRank 104 = .ok (.iconst 1, 1) := by decide +kernel
theorem dX12_readsRank_105 : decode cX12_readsRank 105 = .ok (.goto 4, 3) := by decide +kernel
theorem dX12_readsRank_108 : decode cX12_readsRank 108 = .ok (.iconst 0, 1) := by decide +kernel
theorem dX12_readsRank_109 : decode cX12_readsRank 109 = .ok (.istore_n 2, 1) := by decide +kernel
theorem dX12_readsRank_110 : decode cX12_readsRank 110 = .ok (.goto (-86), 3) := by decide +kernel
theorem dX12_readsRank_113 : decode cX12_readsRank 113 = .ok (.iconst 1, 1) := by decide +kernel
theorem dX12_readsRank_114 : decode cX12_readsRank 114 = .ok (.ireturn, 1) := by decide +kernel
theorem dX12_readsRule_0 : decode cX12_readsRule 0 = .ok (.aload_n 0, 1) := by decide +kernel
theorem dX12_readsRule_1 : decode cX12_readsRule 1 = .ok (.bipush 40, 2) := by decide +kernel
theorem dX12_readsRule_3 : decode cX12_readsRule 3 = .ok (.invokevirtual 185, 3) := by decide +kernel
theorem dX12_readsRule_6 : decode cX12_readsRule 6 = .ok (.istore_n 1, 1) := by decide +kernel
theorem dX12_readsRule_7 : decode cX12_readsRule 7 = .ok (.aload_n 0, 1) := by decide +kernel
theorem dX12_readsRule_8 : decode cX12_readsRule 8 = .ok (.iconst 0, 1) := by decide +kernel
theorem dX12_readsRule_9 : decode cX12_readsRule 9 = .ok (.putfield 220, 3) := by decide +kernel
theorem dX12_readsRule_12 : decode cX12_readsRule 12 = .ok (.iload_n 1, 1) := by decide +kernel
theorem dX12_readsRule_13 : decode cX12_readsRule 13 = .ok (.ifCond .eq 11, 3) := by decide +kernel
theorem dX12_readsRule_16 : decode cX12_readsRule 16 = .ok (.aload_n 0, 1) := by decide +kernel
theorem dX12_readsRule_17 : decode cX12_readsRule 17 = .ok (.iconst 0, 1) := by decide +kernel
theorem dX12_readsRule_18 : decode cX12_readsRule 18 = .ok (.invokevirtual 235, 3) := by decide +kernel
theorem dX12_readsRule_21 : decode cX12_readsRule 21 = .ok (.ifCond .eq 7, 3) := by decide +kernel
theorem dX12_readsRule_24 : decode cX12_readsRule 24 = .ok (.iconst 1, 1) := by decide +kernel
theorem dX12_readsRule_25 : decode cX12_readsRule 25 = .ok (.goto 4, 3) := by decide +kernel
theorem dX12_readsRule_28 : decode cX12_readsRule 28 = .ok (.iconst 0, 1) := by decide +kernel
theorem dX12_readsRule_29 : decode cX12_readsRule 29 = .ok (.istore_n 2, 1) := by decide +kernel
theorem dX12_readsRule_30 : decode cX12_readsRule 30 = .ok (.aload_n 0, 1) := by decide +kernel
theorem dX12_readsRule_31 : decode cX12_readsRule 31 = .ok (.iload_n 1, 1) := by decide +kernel
theorem dX12_readsRule_32 : decode cX12_readsRule 32 = .ok (.bipush 40, 2) := by decide +kernel
theorem dX12_readsRule_34 : decode cX12_readsRule 34 = .ok (.iload_n 2, 1) := by decide +kernel
theorem dX12_readsRule_35 : decode cX12_readsRule 35 = .ok (.invokevirtual 216, 3) := by decide +kernel
theorem dX12_readsRule_38 : decode cX12_readsRule 38 = .ok (.ireturn, 1) := by decide +kernel
theorem dX12_laysCode_0 : decode cX12_laysCode 0 = .ok (.aload_n 0, 1) := by decide +kernel
theorem dX12_laysCode_1 : decode cX12_laysCode 1 = .ok (.iload_n 2, 1) := by decide +kernel
theorem dX12_laysCode_2 : decode cX12_laysCode 2 = .ok (.putfield 244, 3) := by decide +kernel
theorem dX12_laysCode_5 : decode cX12_laysCode 5 = .ok (.iconst 0, 1) := by decide +kernel
theorem dX12_laysCode_6 : decode cX12_laysCode 6 = .ok (.istore_n 3, 1) := by decide +kernel
theorem dX12_laysCode_7 : decode cX12_laysCode 7 = .ok (.iload_n 3, 1) := by decide +kernel
theorem dX12_laysCode_8 : decode cX12_laysCode 8 = .ok (.iload_n 2, 1) := by decide +kernel
theorem dX12_laysCode_9 : decode cX12_laysCode 9 = .ok (.if_icmp .ge 18, 3) := by decide +kernel
theorem dX12_laysCode_12 : decode cX12_laysCode 12 = .ok (.aload_n 0, 1) := by decide +kernel
theorem dX12_laysCode_13 : decode cX12_laysCode 13 = .ok (.getfield 58, 3) := by decide +kernel
theorem dX12_laysCode_16 : decode cX12_laysCode 16 = .ok (.iload_n 3, 1) := by decide +kernel
theorem dX12_laysCode_17 : decode cX12_laysCode 17 = .ok (.aload_n 1, 1) := by decide +kernel
theorem dX12_laysCode_18 : decode cX12_laysCode 18 = .ok (.iload_n 3, 1) := by decide +kernel
theorem dX12_laysCode_19 : decode cX12_laysCode 19 = .ok (.iaload, 1) := by decide +kernel
theorem dX12_laysCode_20 : decode cX12_laysCode 20 = .ok (.iastore, 1) := by decide +kernel
theorem dX12_laysCode_21 : decode cX12_laysCode 21 = .ok (.iinc 3 1, 3) := by decide +kernel
theorem dX12_laysCode_24 : decode cX12_laysCode 24 = .ok (.goto (-17), 3) := by decide +kernel
theorem dX12_laysCode_27 : decode cX12_laysCode 27 = .ok (.return_, 1) := by decide +kernel
theorem dX12_rule_0 : decode cX12_rule 0 = .ok (.aload_n 0, 1) := by decide +kernel
theorem dX12_rule_1 : decode cX12_rule 1 = .ok (.iconst 0, 1) := by decide +kernel
theorem dX12_rule_2 : decode cX12_rule 2 = .ok (.putfield 3, 3) := by decide +kernel
theorem dX12_rule_5 : decode cX12_rule 5 = .ok (.aload_n 0, 1) := by decide +kernel
theorem dX12_rule_6 : decode cX12_rule 6 = .ok (.invokevirtual 247, 3) := by decide +kernel
theorem dX12_rule_9 : decode cX12_rule 9 = .ok (.istore_n 1, 1) := by decide +kernel
theorem dX12_rule_10 : decode cX12_rule 10 = .ok (.iload_n 1, 1) := by decide +kernel
theorem dX12_rule_11 : decode cX12_rule 11 = .ok (.ifCond .ne 15, 3) := by decide +kernel
theorem dX12_rule_14 : decode cX12_rule 14 = .ok (.aload_n 0, 1) := by decide +kernel
theorem dX12_rule_15 : decode cX12_rule 15 = .ok (.aload_n 0, 1) := by decide +kernel
theorem dX12_rule_16 : decode cX12_rule 16 = .ok (.getfield 61, 3) := by decide +kernel
theorem dX12_rule_19 : decode cX12_rule 19 = .ok (.aload_n 0, 1) := by decide +kernel
theorem dX12_rule_20 : decode cX12_rule 20 = .ok (.getfield 220, 3) := by decide +kernel
theorem dX12_rule_23 : decode cX12_rule 23 = .ok (.invokevirtual 250, 3) := by decide +kernel
theorem dX12_rule_26 : decode cX12_rule 26 = .ok (.iload_n 1, 1) := by decide +kernel
theorem dX12_rule_27 : decode cX12_rule 27 = .ok (.ireturn, 1) := by decide +kernel
theorem dX12_worked_0 : decode cX12_worked 0 = .ok (.iload_n 0, 1) := by decide +kernel
theorem dX12_worked_1 : decode cX12_worked 1 = .ok (.tableswitch 93 0 5 #[39, 53, 67, 81, 85, 89], 39) := by decide +kernel
theorem dX12_worked_40 : decode cX12_worked 40 = .ok (.iload_n 1, 1) := by decide +kernel
theorem dX12_worked_41 : decode cX12_worked 41 = .ok (.iload_n 2, 1) := by decide +kernel
theorem dX12_worked_42 : decode cX12_worked 42 = .ok (.if_icmp .ge 7, 3) := by decide +kernel
theorem dX12_worked_45 : decode cX12_worked 45 = .ok (.iconst 1, 1) := by decide +kernel
theorem dX12_worked_46 : decode cX12_worked 46 = .ok (.goto 4, 3) := by decide +kernel
theorem dX12_worked_49 : decode cX12_worked 49 = .ok (.iconst 0, 1) := by decide +kernel
theorem dX12_worked_50 : decode cX12_worked 50 = .ok (.invokestatic 151, 3) := by decide +kernel
theorem dX12_worked_53 : decode cX12_worked 53 = .ok (.ireturn, 1) := by decide +kernel
theorem dX12_worked_54 : decode cX12_worked 54 = .ok (.iload_n 1, 1) := by decide +kernel
theorem dX12_worked_55 : decode cX12_worked 55 = .ok (.iload_n 2, 1) := by decide +kernel
theorem dX12_worked_56 : decode cX12_worked 56 = .ok (.if_icmp .le 7, 3) := by decide +kernel
theorem dX12_worked_59 : decode cX12_worked 59 = .ok (.iconst 1, 1) := by decide +kernel
theorem dX12_worked_60 : decode cX12_worked 60 = .ok (.goto 4, 3) := by decide +kernel
theorem dX12_worked_63 : decode cX12_worked 63 = .ok (.iconst 0, 1) := by decide +kernel
theorem dX12_worked_64 : decode cX12_worked 64 = .ok (.invokestatic 151, 3) := by decide +kernel
theorem dX12_worked_67 : decode cX12_worked 67 = .ok (.ireturn, 1) := by decide +kernel
theorem dX12_worked_68 : decode cX12_worked 68 = .ok (.iload_n 1, 1) := by decide +kernel
theorem dX12_worked_69 : decode cX12_worked 69 = .ok (.iload_n 2, 1) := by decide +kernel
theorem dX12_worked_70 : decode cX12_worked 70 = .ok (.if_icmp .ne 7, 3) := by decide +kernel
theorem dX12_worked_73 : decode cX12_worked 73 = .ok (.iconst 1, 1) := by decide +kernel
theorem dX12_worked_74 : decode cX12_worked 74 = .ok (.goto 4, 3) := by decide +kernel
theorem dX12_worked_77 : decode cX12_worked 77 = .ok (.iconst 0, 1) := by decide +kernel
theorem dX12_worked_78 : decode cX12_worked 78 = .ok (.invokestatic 151, 3) := by decide +kernel
theorem dX12_worked_81 : decode cX12_worked 81 = .ok (.ireturn, 1) := by decide +kernel
theorem dX12_worked_82 : decode cX12_worked 82 = .ok (.iload_n 1, 1) := by decide +kernel
theorem dX12_worked_83 : decode cX12_worked 83 = .ok (.iload_n 2, 1) := by decide +kernel
theorem dX12_worked_84 : decode cX12_worked 84 = .ok (.iadd, 1) := by decide +kernel
theorem dX12_worked_85 : decode cX12_worked 85 = .ok (.ireturn, 1) := by decide +kernel
theorem dX12_worked_86 : decode cX12_worked 86 = .ok (.iload_n 1, 1) := by decide +kernel
theorem dX12_worked_87 : decode cX12_worked 87 = .ok (.iload_n 2, 1) := by decide +kernel
theorem dX12_worked_88 : decode cX12_worked 88 = .ok (.isub, 1) := by decide +kernel
theorem dX12_worked_89 : decode cX12_worked 89 = .ok (.ireturn, 1) := by decide +kernel
theorem dX12_worked_90 : decode cX12_worked 90 = .ok (.iload_n 1, 1) := by decide +kernel
theorem dX12_worked_91 : decode cX12_worked 91 = .ok (.iload_n 2, 1) := by decide +kernel
theorem dX12_worked_92 : decode cX12_worked 92 = .ok (.imul, 1) := by decide +kernel
theorem dX12_worked_93 : decode cX12_worked 93 = .ok (.ireturn, 1) := by decide +kernel
theorem dX12_worked_94 : decode cX12_worked 94 = .ok (.iload_n 2, 1) := by decide +kernel
theorem dX12_worked_95 : decode cX12_worked 95 = .ok (.ifCond .ne 7, 3) := by decide +kernel
theorem dX12_worked_98 : decode cX12_worked 98 = .ok (.iconst 0, 1) := by decide +kernel
theorem dX12_worked_99 : decode cX12_worked 99 = .ok (.goto 6, 3) := by decide +kernel
theorem dX12_worked_102 : decode cX12_worked 102 = .ok (.iload_n 1, 1) := by decide +kernel
theorem dX12_worked_103 : decode cX12_worked 103 = .ok (.iload_n 2, 1) := by decide +kernel
theorem dX12_worked_104 : decode cX12_worked 104 = .ok (.idiv, 1) := by decide +kernel
theorem dX12_worked_105 : decode cX12_worked 105 = .ok (.ireturn, 1) := by decide +kernel
theorem dX12_ruled_0 : decode cX12_ruled 0 = .ok (.iconst 0, 1) := by decide +kernel
theorem dX12_ruled_1 : decode cX12_ruled 1 = .ok (.istore_n 1, 1) := by decide +kernel
theorem dX12_ruled_2 : decode cX12_ruled 2 = .ok (.iconst 0, 1) := by decide +kernel
theorem dX12_ruled_3 : decode cX12_ruled 3 = .ok (.istore_n 2, 1) := by decide +kernel
theorem dX12_ruled_4 : decode cX12_ruled 4 = .ok (.iload_n 2, 1) := by decide +kernel
theorem dX12_ruled_5 : decode cX12_ruled 5 = .ok (.aload_n 0, 1) := by decide +kernel
theorem dX12_ruled_6 : decode cX12_ruled 6 = .ok (.getfield 244, 3) := by decide +kernel
theorem dX12_ruled_9 : decode cX12_ruled 9 = .ok (.if_icmp .ge 116, 3) := by decide +kernel
theorem dX12_ruled_12 : decode cX12_ruled 12 = .ok (.aload_n 0, 1) := by decide +kernel
theorem dX12_ruled_13 : decode cX12_ruled 13 = .ok (.getfield 58, 3) := by decide +kernel
theorem dX12_ruled_16 : decode cX12_ruled 16 = .ok (.iload_n 2, 1) := by decide +kernel
theorem dX12_ruled_17 : decode cX12_ruled 17 = .ok (.iaload, 1) := by decide +kernel
theorem dX12_ruled_18 : decode cX12_ruled 18 = .ok (.istore_n 3, 1) := by decide +kernel
theorem dX12_ruled_19 : decode cX12_ruled 19 = .ok (.iload_n 3, 1) := by decide +kernel
theorem dX12_ruled_20 : decode cX12_ruled 20 = .ok (.sipush 3000, 3) := by decide +kernel
theorem dX12_ruled_23 : decode cX12_ruled 23 = .ok (.if_icmp .ne 23, 3) := by decide +kernel
theorem dX12_ruled_26 : decode cX12_ruled 26 = .ok (.aload_n 0, 1) := by decide +kernel
theorem dX12_ruled_27 : decode cX12_ruled 27 = .ok (.getfield 64, 3) := by decide +kernel
theorem dX12_ruled_30 : decode cX12_ruled 30 = .ok (.iload_n 1, 1) := by decide +kernel
theorem dX12_ruled_31 : decode cX12_ruled 31 = .ok (.iconst 1, 1) := by decide +kernel
theorem dX12_ruled_32 : decode cX12_ruled 32 = .ok (.isub, 1) := by decide +kernel
theorem dX12_ruled_33 : decode cX12_ruled 33 = .ok (.aload_n 0, 1) := by decide +kernel
theorem dX12_ruled_34 : decode cX12_ruled 34 = .ok (.getfield 64, 3) := by decide +kernel
theorem dX12_ruled_37 : decode cX12_ruled 37 = .ok (.iload_n 1, 1) := by decide +kernel
theorem dX12_ruled_38 : decode cX12_ruled 38 = .ok (.iconst 1, 1) := by decide +kernel
theorem dX12_ruled_39 : decode cX12_ruled 39 = .ok (.isub, 1) := by decide +kernel
theorem dX12_ruled_40 : decode cX12_ruled 40 = .ok (.iaload, 1) := by decide +kernel
theorem dX12_ruled_41 : decode cX12_ruled 41 = .ok (.ineg, 1) := by decide +kernel
theorem dX12_ruled_42 : decode cX12_ruled 42 = .ok (.iastore, 1) := by decide +kernel
theorem dX12_ruled_43 : decode cX12_ruled 43 = .ok (.goto 76, 3) := by decide +kernel
theorem dX12_ruled_46 : decode cX12_ruled 46 = .ok (.iload_n 3, 1) := by decide +kernel
theorem dX12_ruled_47 : decode cX12_ruled 47 = .ok (.sipush 2000, 3) := by decide +kernel
theorem dX12_ruled_50 : decode cX12_ruled 50 = .ok (.if_icmp .lt 39, 3) := by decide +kernel
theorem dX12_ruled_53 : decode cX12_ruled 53 = .ok (.iinc 1 (-1), 3) := by decide +kernel
theorem dX12_ruled_56 : decode cX12_ruled 56 = .ok (.aload_n 0, 1) := by decide +kernel
theorem dX12_ruled_57 : decode cX12_ruled 57 = .ok (.getfield 64, 3) := by decide +kernel
theorem dX12_ruled_60 : decode cX12_ruled 60 = .ok (.iload_n 1, 1) := by decide +kernel
theorem dX12_ruled_61 : decode cX12_ruled 61 = .ok (.iconst 1, 1) := by decide +kernel
theorem dX12_ruled_62 : decode cX12_ruled 62 = .ok (.isub, 1) := by decide +kernel
theorem dX12_ruled_63 : decode cX12_ruled 63 = .ok (.iload_n 3, 1) := by decide +kernel
theorem dX12_ruled_64 : decode cX12_ruled 64 = .ok (.sipush 2000, 3) := by decide +kernel
theorem dX12_ruled_67 : decode cX12_ruled 67 = .ok (.isub, 1) := by decide +kernel
theorem dX12_ruled_68 : decode cX12_ruled 68 = .ok (.aload_n 0, 1) := by decide +kernel
theorem dX12_ruled_69 : decode cX12_ruled 69 = .ok (.getfield 64, 3) := by decide +kernel
theorem dX12_ruled_72 : decode cX12_ruled 72 = .ok (.iload_n 1, 1) := by decide +kernel
theorem dX12_ruled_73 : decode cX12_ruled 73 = .ok (.iconst 1, 1) := by decide +kernel
theorem dX12_ruled_74 : decode cX12_ruled 74 = .ok (.isub, 1) := by decide +kernel
theorem dX12_ruled_75 : decode cX12_ruled 75 = .ok (.iaload, 1) := by decide +kernel
theorem dX12_ruled_76 : decode cX12_ruled 76 = .ok (.aload_n 0, 1) := by decide +kernel
theorem dX12_ruled_77 : decode cX12_ruled 77 = .ok (.getfield 64, 3) := by decide +kernel
theorem dX12_ruled_80 : decode cX12_ruled 80 = .ok (.iload_n 1, 1) := by decide +kernel
theorem dX12_ruled_81 : decode cX12_ruled 81 = .ok (.iaload, 1) := by decide +kernel
theorem dX12_ruled_82 : decode cX12_ruled 82 = .ok (.invokestatic 254, 3) := by decide +kernel
theorem dX12_ruled_85 : decode cX12_ruled 85 = .ok (.iastore, 1) := by decide +kernel
theorem dX12_ruled_86 : decode cX12_ruled 86 = .ok (.goto 33, 3) := by decide +kernel
theorem dX12_ruled_89 : decode cX12_ruled 89 = .ok (.aload_n 0, 1) := by decide +kernel
theorem dX12_ruled_90 : decode cX12_ruled 90 = .ok (.getfield 64, 3) := by decide +kernel
theorem dX12_ruled_93 : decode cX12_ruled 93 = .ok (.iload_n 1, 1) := by decide +kernel
theorem dX12_ruled_94 : decode cX12_ruled 94 = .ok (.iload_n 3, 1) := by decide +kernel
theorem dX12_ruled_95 : decode cX12_ruled 95 = .ok (.sipush 1000, 3) := by decide +kernel
theorem dX12_ruled_98 : decode cX12_ruled 98 = .ok (.if_icmp .lt 16, 3) := by decide +kernel
theorem dX12_ruled_101 : decode cX12_ruled 101 = .ok (.aload_n 0, 1) := by decide +kernel
theorem dX12_ruled_102 : decode cX12_ruled 102 = .ok (.getfield 67, 3) := by decide +kernel
theorem dX12_ruled_105 : decode cX12_ruled 105 = .ok (.iload_n 3, 1) := by decide +kernel
theorem dX12_ruled_106 : decode cX12_ruled 106 = .ok (.sipush 1000, 3) := by decide +kernel
theorem dX12_ruled_109 : decode cX12_ruled 109 = .ok (.isub, 1) := by decide +kernel
theorem dX12_ruled_110 : decode cX12_ruled 110 = .ok (.iaload, 1) := by decide +kernel
theorem dX12_ruled_111 : decode cX12_ruled 111 = .ok (.goto 4, 3) := by decide +kernel
theorem dX12_ruled_114 : decode cX12_ruled 114 = .ok (.iload_n 3, 1) := by decide +kernel
theorem dX12_ruled_115 : decode cX12_ruled 115 = .ok (.iastore, 1) := by decide +kernel
theorem dX12_ruled_116 : decode cX12_ruled 116 = .ok (.iinc 1 1, 3) := by decide +kernel
theorem dX12_ruled_119 : decode cX12_ruled 119 = .ok (.iinc 2 1, 3) := by decide +kernel
theorem dX12_ruled_122 : decode cX12_ruled 122 = .ok (.goto (-118), 3) := by decide +kernel
theorem dX12_ruled_125 : decode cX12_ruled 125 = .ok (.aload_n 0, 1) := by decide +kernel
theorem dX12_ruled_126 : decode cX12_ruled 126 = .ok (.getfield 244, 3) := by decide +kernel
theorem dX12_ruled_129 : decode cX12_ruled 129 = .ok (.ifCond .ne 34, 3) := by decide +kernel
theorem dX12_ruled_132 : decode cX12_ruled 132 = .ok (.aload_n 0, 1) := by decide +kernel
theorem dX12_ruled_133 : decode cX12_ruled 133 = .ok (.getfield 67, 3) := by decide +kernel
theorem dX12_ruled_136 : decode cX12_ruled 136 = .ok (.iconst 0, 1) := by decide +kernel
theorem dX12_ruled_137 : decode cX12_ruled 137 = .ok (.iaload, 1) := by decide +kernel
theorem dX12_ruled_138 : decode cX12_ruled 138 = .ok (.iconst 1, 1) := by decide +kernel
theorem dX12_ruled_139 : decode cX12_ruled 139 = .ok (.aload_n 0, 1) := by decide +kernel
theorem dX12_ruled_140 : decode cX12_ruled 140 = .ok (.getfield 67, 3) := by decide +kernel
theorem dX12_ruled_143 : decode cX12_ruled 143 = .ok (.iconst 1, 1) := by decide +kernel
theorem dX12_ruled_144 : decode cX12_ruled 144 = .ok (.iaload, 1) := by decide +kernel
theorem dX12_ruled_145 : decode cX12_ruled 145 = .ok (.iadd, 1) := by decide +kernel
theorem dX12_ruled_146 : decode cX12_ruled 146 = .ok (.imul, 1) := by decide +kernel
theorem dX12_ruled_147 : decode cX12_ruled 147 = .ok (.iconst 1, 1) := by decide +kernel
theorem dX12_ruled_148 : decode cX12_ruled 148 = .ok (.iconst 2, 1) := by decide +kernel
theorem dX12_ruled_149 : decode cX12_ruled 149 = .ok (.aload_n 0, 1) := by decide +kernel
theorem dX12_ruled_150 : decode cX12_ruled 150 = .ok (.getfield 67, 3) := by decide +kernel
theorem dX12_ruled_153 : decode cX12_ruled 153 = .ok (.iconst 3, 1) := by decide +kernel
theorem dX12_ruled_154 : decode cX12_ruled 154 = .ok (.iaload, 1) := by decide +kernel
theorem dX12_ruled_155 : decode cX12_ruled 155 = .ok (.imul, 1) := by decide +kernel
theorem dX12_ruled_156 : decode cX12_ruled 156 = .ok (.iadd, 1) := by decide +kernel
theorem dX12_ruled_157 : decode cX12_ruled 157 = .ok (.idiv, 1) := by decide +kernel
theorem dX12_ruled_158 : decode cX12_ruled 158 = .ok (.iconst 1, 1) := by decide +kernel
theorem dX12_ruled_159 : decode cX12_ruled 159 = .ok (.iadd, 1) := by decide +kernel
theorem dX12_ruled_160 : decode cX12_ruled 160 = .ok (.goto 9, 3) := by decide +kernel
theorem dX12_ruled_163 : decode cX12_ruled 163 = .ok (.aload_n 0, 1) := by decide +kernel
theorem dX12_ruled_164 : decode cX12_ruled 164 = .ok (.getfield 64, 3) := by decide +kernel
theorem dX12_ruled_167 : decode cX12_ruled 167 = .ok (.iconst 0, 1) := by decide +kernel
theorem dX12_ruled_168 : decode cX12_ruled 168 = .ok (.iaload, 1) := by decide +kernel
theorem dX12_ruled_169 : decode cX12_ruled 169 = .ok (.ireturn, 1) := by decide +kernel
theorem dX12_pullOf_0 : decode cX12_pullOf 0 = .ok (.aload_n 0, 1) := by decide +kernel
theorem dX12_pullOf_1 : decode cX12_pullOf 1 = .ok (.getfield 67, 3) := by decide +kernel
theorem dX12_pullOf_4 : decode cX12_pullOf 4 = .ok (.iconst 0, 1) := by decide +kernel
theorem dX12_pullOf_5 : decode cX12_pullOf 5 = .ok (.iload_n 2, 1) := by decide +kernel
theorem dX12_pullOf_6 : decode cX12_pullOf 6 = .ok (.iastore, 1) := by decide +kernel
theorem dX12_pullOf_7 : decode cX12_pullOf 7 = .ok (.aload_n 0, 1) := by decide +kernel
theorem dX12_pullOf_8 : decode cX12_pullOf 8 = .ok (.getfield 67, 3) := by decide +kernel
theorem dX12_pullOf_11 : decode cX12_pullOf 11 = .ok (.iconst 1, 1) := by decide +kernel
theorem dX12_pullOf_12 : decode cX12_pullOf 12 = .ok (.iconst 0, 1) := by decide +kernel
theorem dX12_pullOf_13 : decode cX12_pullOf 13 = .ok (.aload_n 0, 1) := by decide +kernel
theorem dX12_pullOf_14 : decode cX12_pullOf 14 = .ok (.getfield 34, 3) := by decide +kernel
theorem dX12_pullOf_17 : decode cX12_pullOf 17 = .ok (.iload 4, 2) := by decide +kernel
theorem dX12_pullOf_19 : decode cX12_pullOf 19 = .ok (.iaload, 1) := by decide +kernel
theorem dX12_pullOf_20 : decode cX12_pullOf 20 = .ok (.aload_n 0, 1) := by decide +kernel
theorem dX12_pullOf_21 : decode cX12_pullOf 21 = .ok (.getfield 34, 3) := by decide +kernel
theorem dX12_pullOf_24 : decode cX12_pullOf 24 = .ok (.iload_n 3, 1) := by decide +kernel
theorem dX12_pullOf_25 : decode cX12_pullOf 25 = .ok (.iaload, 1) := by decide +kernel
theorem dX12_pullOf_26 : decode cX12_pullOf 26 = .ok (.isub, 1) := by decide +kernel
theorem dX12_pullOf_27 : decode cX12_pullOf 27 = .ok (.invokestatic 258, 3) := by decide +kernel
theorem dX12_pullOf_30 : decode cX12_pullOf 30 = .ok (.iastore, 1) := by decide +kernel
theorem dX12_pullOf_31 : decode cX12_pullOf 31 = .ok (.aload_n 0, 1) := by decide +kernel
theorem dX12_pullOf_32 : decode cX12_pullOf 32 = .ok (.getfield 67, 3) := by decide +kernel
theorem dX12_pullOf_35 : decode cX12_pullOf 35 = .ok (.iconst 2, 1) := by decide +kernel
theorem dX12_pullOf_36 : decode cX12_pullOf 36 = .ok (.iconst 0, 1) := by decide +kernel
theorem dX12_pullOf_37 : decode cX12_pullOf 37 = .ok (.aload_n 0, 1) := by decide +kernel
theorem dX12_pullOf_38 : decode cX12_pullOf 38 = .ok (.getfield 34, 3) := by decide +kernel
theorem dX12_pullOf_41 : decode cX12_pullOf 41 = .ok (.iload_n 3, 1) := by decide +kernel
theorem dX12_pullOf_42 : decode cX12_pullOf 42 = .ok (.iaload, 1) := by decide +kernel
theorem dX12_pullOf_43 : decode cX12_pullOf 43 = .ok (.aload_n 0, 1) := by decide +kernel
theorem dX12_pullOf_44 : decode cX12_pullOf 44 = .ok (.getfield 34, 3) := by decide +kernel
theorem dX12_pullOf_47 : decode cX12_pullOf 47 = .ok (.iload 4, 2) := by decide +kernel
theorem dX12_pullOf_49 : decode cX12_pullOf 49 = .ok (.iaload, 1) := by decide +kernel
theorem dX12_pullOf_50 : decode cX12_pullOf 50 = .ok (.isub, 1) := by decide +kernel
theorem dX12_pullOf_51 : decode cX12_pullOf 51 = .ok (.invokestatic 258, 3) := by decide +kernel
theorem dX12_pullOf_54 : decode cX12_pullOf 54 = .ok (.iastore, 1) := by decide +kernel
theorem dX12_pullOf_55 : decode cX12_pullOf 55 = .ok (.aload_n 0, 1) := by decide +kernel
theorem dX12_pullOf_56 : decode cX12_pullOf 56 = .ok (.getfield 67, 3) := by decide +kernel
theorem dX12_pullOf_59 : decode cX12_pullOf 59 = .ok (.iconst 3, 1) := by decide +kernel
theorem dX12_pullOf_60 : decode cX12_pullOf 60 = .ok (.aload_n 1, 1) := by decide +kernel
theorem dX12_pullOf_61 : decode cX12_pullOf 61 = .ok (.iload 4, 2) := by decide +kernel
theorem dX12_pullOf_63 : decode cX12_pullOf 63 = .ok (.iaload, 1) := by decide +kernel
theorem dX12_pullOf_64 : decode cX12_pullOf 64 = .ok (.iastore, 1) := by decide +kernel
theorem dX12_pullOf_65 : decode cX12_pullOf 65 = .ok (.aload_n 0, 1) := by decide +kernel
theorem dX12_pullOf_66 : decode cX12_pullOf 66 = .ok (.getfield 67, 3) := by decide +kernel
theorem dX12_pullOf_69 : decode cX12_pullOf 69 = .ok (.iconst 4, 1) := by decide +kernel
theorem dX12_pullOf_70 : decode cX12_pullOf 70 = .ok (.iload 6, 2) := by decide +kernel
theorem dX12_pullOf_72 : decode cX12_pullOf 72 = .ok (.iastore, 1) := by decide +kernel
theorem dX12_pullOf_73 : decode cX12_pullOf 73 = .ok (.iconst 0, 1) := by decide +kernel
theorem dX12_pullOf_74 : decode cX12_pullOf 74 = .ok (.sipush 999, 3) := by decide +kernel
theorem dX12_pullOf_77 : decode cX12_pullOf 77 = .ok (.aload_n 0, 1) := by decide +kernel
theorem dX12_pullOf_78 : decode cX12_pullOf 78 = .ok (.invokevirtual 261, 3) := by decide +kernel
theorem dX12_pullOf_81 : decode cX12_pullOf 81 = .ok (.invokestatic 142, 3) := by decide +kernel
theorem dX12_pullOf_84 : decode cX12_pullOf 84 = .ok (.invokestatic 258, 3) := by decide +kernel
theorem dX12_pullOf_87 : decode cX12_pullOf 87 = .ok (.istore 7, 2) := by decide +kernel
theorem dX12_pullOf_89 : decode cX12_pullOf 89 = .ok (.iload 7, 2) := by decide +kernel
theorem dX12_pullOf_91 : decode cX12_pullOf 91 = .ok (.iload 5, 2) := by decide +kernel
theorem dX12_pullOf_93 : decode cX12_pullOf 93 = .ok (.iconst 4, 1) := by decide +kernel
theorem dX12_pullOf_94 : decode cX12_pullOf 94 = .ok (.irem, 1) := by decide +kernel
theorem dX12_pullOf_95 : decode cX12_pullOf 95 = .ok (.iconst 3, 1) := by decide +kernel
theorem dX12_pullOf_96 : decode cX12_pullOf 96 = .ok (.if_icmp .ne 10, 3) := by decide +kernel
theorem dX12_pullOf_99 : decode cX12_pullOf 99 = .ok (.iload 7, 2) := by decide +kernel
theorem dX12_pullOf_101 : decode cX12_pullOf 101 = .ok (.iconst 2, 1) := by decide +kernel
theorem dX12_pullOf_102 : decode cX12_pullOf 102 = .ok (.idiv, 1) := by decide +kernel
theorem dX12_pullOf_103 : decode cX12_pullOf 103 = .ok (.goto 4, 3) := by decide +kernel
theorem dX12_pullOf_106 : decode cX12_pullOf 106 = .ok (.iconst 0, 1) := by decide +kernel
theorem dX12_pullOf_107 : decode cX12_pullOf 107 = .ok (.iadd, 1) := by decide +kernel
theorem dX12_pullOf_108 : decode cX12_pullOf 108 = .ok (.ireturn, 1) := by decide +kernel
theorem dX12_noiseOf_0 : decode cX12_noiseOf 0 = .ok (.iload_n 0, 1) := by decide +kernel
theorem dX12_noiseOf_1 : decode cX12_noiseOf 1 = .ok (.bipush 10, 2) := by decide +kernel
theorem dX12_noiseOf_3 : decode cX12_noiseOf 3 = .ok (.idiv, 1) := by decide +kernel
theorem dX12_noiseOf_4 : decode cX12_noiseOf 4 = .ok (.istore_n 2, 1) := by decide +kernel
theorem dX12_noiseOf_5 : decode cX12_noiseOf 5 = .ok (.iload_n 1, 1) := by decide +kernel
theorem dX12_noiseOf_6 : decode cX12_noiseOf 6 = .ok (.iconst 4, 1) := by decide +kernel
theorem dX12_noiseOf_7 : decode cX12_noiseOf 7 = .ok (.irem, 1) := by decide +kernel
theorem dX12_noiseOf_8 : decode cX12_noiseOf 8 = .ok (.iconst 1, 1) := by decide +kernel
theorem dX12_noiseOf_9 : decode cX12_noiseOf 9 = .ok (.if_icmp .ne 9, 3) := by decide +kernel
theorem dX12_noiseOf_12 : decode cX12_noiseOf 12 = .ok (.iload_n 2, 1) := by decide +kernel
theorem dX12_noiseOf_13 : decode cX12_noiseOf 13 = .ok (.iconst 2, 1) := by decide +kernel
theorem dX12_noiseOf_14 : decode cX12_noiseOf 14 = .ok (.idiv, 1) := by decide +kernel
theorem dX12_noiseOf_15 : decode cX12_noiseOf 15 = .ok (.goto 17, 3) := by decide +kernel
theorem dX12_noiseOf_18 : decode cX12_noiseOf 18 = .ok (.iload_n 1, 1) := by decide +kernel
theorem dX12_noiseOf_19 : decode cX12_noiseOf 19 = .ok (.iconst 4, 1) := by decide +kernel
theorem dX12_noiseOf_20 : decode cX12_noiseOf 20 = .ok (.irem, 1) := by decide +kernel
theorem dX12_noiseOf_21 : decode cX12_noiseOf 21 = .ok (.iconst 2, 1) := by decide +kernel
theorem dX12_noiseOf_22 : decode cX12_noiseOf 22 = .ok (.if_icmp .ne 9, 3) := by decide +kernel
theorem dX12_noiseOf_25 : decode cX12_noiseOf 25 = .ok (.iconst 2, 1) := by decide +kernel
theorem dX12_noiseOf_26 : decode cX12_noiseOf 26 = .ok (.iload_n 2, 1) := by decide +kernel
theorem dX12_noiseOf_27 : decode cX12_noiseOf 27 = .ok (.imul, 1) := by decide +kernel
theorem dX12_noiseOf_28 : decode cX12_noiseOf 28 = .ok (.goto 4, 3) := by decide +kernel
theorem dX12_noiseOf_31 : decode cX12_noiseOf 31 = .ok (.iload_n 2, 1) := by decide +kernel
theorem dX12_noiseOf_32 : decode cX12_noiseOf 32 = .ok (.ireturn, 1) := by decide +kernel
theorem dX12_field_0 : decode cX12_field 0 = .ok (.aload_n 0, 1) := by decide +kernel
theorem dX12_field_1 : decode cX12_field 1 = .ok (.iconst 0, 1) := by decide +kernel
theorem dX12_field_2 : decode cX12_field 2 = .ok (.putfield 3, 3) := by decide +kernel
theorem dX12_field_5 : decode cX12_field 5 = .ok (.aload_n 0, 1) := by decide +kernel
theorem dX12_field_6 : decode cX12_field 6 = .ok (.iload_n 1, 1) := by decide +kernel
theorem dX12_field_7 : decode cX12_field 7 = .ok (.invokevirtual 210, 3) := by decide +kernel
theorem dX12_field_10 : decode cX12_field 10 = .ok (.ifCond .eq 15, 3) := by decide +kernel
theorem dX12_field_13 : decode cX12_field 13 = .ok (.iload_n 2, 1) := by decide +kernel
theorem dX12_field_14 : decode cX12_field 14 = .ok (.i2l, 1) := by decide +kernel
theorem dX12_field_15 : decode cX12_field 15 = .ok (.lconst 0, 1) := by decide +kernel
theorem dX12_field_16 : decode cX12_field 16 = .ok (.ldc2_w 264, 3) := by decide +kernel
theorem dX12_field_19 : decode cX12_field 19 = .ok (.invokestatic 126, 3) := by decide +kernel
theorem dX12_field_22 : decode cX12_field 22 = .ok (.ifCond .ne 8, 3) := by decide +kernel
theorem dX12_field_25 : decode cX12_field 25 = .ok (.aload_n 0, 1) := by decide +kernel
theorem dX12_field_26 : decode cX12_field 26 = .ok (.invokevirtual 266, 3) := by decide +kernel
theorem dX12_field_29 : decode cX12_field 29 = .ok (.ireturn, 1) := by decide +kernel
theorem dX12_field_30 : decode cX12_field 30 = .ok (.iload_n 2, 1) := by decide +kernel
theorem dX12_field_31 : decode cX12_field 31 = .ok (.tableswitch 46 0 2 #[25, 32, 39], 25) := by decide +kernel
theorem dX12_field_56 : decode cX12_field 56 = .ok (.aload_n 0, 1) := by decide +kernel
theorem dX12_field_57 : decode cX12_field 57 = .ok (.getfield 30, 3) := by decide +kernel
theorem dX12_field_60 : decode cX12_field 60 = .ok (.iload_n 1, 1) := by decide +kernel
theorem dX12_field_61 : decode cX12_field 61 = .ok (.iaload, 1) := by decide +kernel
theorem dX12_field_62 : decode cX12_field 62 = .ok (.ireturn, 1) := by decide +kernel
theorem dX12_field_63 : decode cX12_field 63 = .ok (.aload_n 0, 1) := by decide +kernel
theorem dX12_field_64 : decode cX12_field 64 = .ok (.getfield 34, 3) := by decide +kernel
theorem dX12_field_67 : decode cX12_field 67 = .ok (.iload_n 1, 1) := by decide +kernel
theorem dX12_field_68 : decode cX12_field 68 = .ok (.iaload, 1) := by decide +kernel
theorem dX12_field_69 : decode cX12_field 69 = .ok (.ireturn, 1) := by decide +kernel
theorem dX12_field_70 : decode cX12_field 70 = .ok (.aload_n 0, 1) := by decide +kernel
theorem dX12_field_71 : decode cX12_field 71 = .ok (.getfield 43, 3) := by decide +kernel
theorem dX12_field_74 : decode cX12_field 74 = .ok (.iload_n 1, 1) := by decide +kernel
theorem dX12_field_75 : decode cX12_field 75 = .ok (.iaload, 1) := by decide +kernel
theorem dX12_field_76 : decode cX12_field 76 = .ok (.ireturn, 1) := by decide +kernel
theorem dX12_field_77 : decode cX12_field 77 = .ok (.aload_n 0, 1) := by decide +kernel
theorem dX12_field_78 : decode cX12_field 78 = .ok (.aload_n 0, 1) := by decide +kernel
theorem dX12_field_79 : decode cX12_field 79 = .ok (.getfield 43, 3) := by decide +kernel
theorem dX12_field_82 : decode cX12_field 82 = .ok (.iload_n 1, 1) := by decide +kernel
theorem dX12_field_83 : decode cX12_field 83 = .ok (.invokevirtual 269, 3) := by decide +kernel
theorem dX12_field_86 : decode cX12_field 86 = .ok (.ireturn, 1) := by decide +kernel
theorem dX12_ship_0 : decode cX12_ship 0 = .ok (.aload_n 0, 1) := by decide +kernel
theorem dX12_ship_1 : decode cX12_ship 1 = .ok (.iconst 0, 1) := by decide +kernel
theorem dX12_ship_2 : decode cX12_ship 2 = .ok (.putfield 3, 3) := by decide +kernel
theorem dX12_ship_5 : decode cX12_ship 5 = .ok (.aload_n 0, 1) := by decide +kernel
theorem dX12_ship_6 : decode cX12_ship 6 = .ok (.iload_n 1, 1) := by decide +kernel
theorem dX12_ship_7 : decode cX12_ship 7 = .ok (.invokevirtual 273, 3) := by decide +kernel
theorem dX12_ship_10 : decode cX12_ship 10 = .ok (.ifCond .eq 15, 3) := by decide +kernel
theorem dX12_ship_13 : decode cX12_ship 13 = .ok (.iload_n 2, 1) := by decide +kernel
theorem dX12_ship_14 : decode cX12_ship 14 = .ok (.i2l, 1) := by decide +kernel
theorem dX12_ship_15 : decode cX12_ship 15 = .ok (.lconst 0, 1) := by decide +kernel
theorem dX12_ship_16 : decode cX12_ship 16 = .ok (.ldc2_w 264, 3) := by decide +kernel
theorem dX12_ship_19 : decode cX12_ship 19 = .ok (.invokestatic 126, 3) := by decide +kernel
theorem dX12_ship_22 : decode cX12_ship 22 = .ok (.ifCond .ne 8, 3) := by decide +kernel
theorem dX12_ship_25 : decode cX12_ship 25 = .ok (.aload_n 0, 1) := by decide +kernel
theorem dX12_ship_26 : decode cX12_ship 26 = .ok (.invokevirtual 266, 3) := by decide +kernel
theorem dX12_ship_29 : decode cX12_ship 29 = .ok (.ireturn, 1) := by decide +kernel
theorem dX12_ship_30 : decode cX12_ship 30 = .ok (.iload_n 2, 1) := by decide +kernel
theorem dX12_ship_31 : decode cX12_ship 31 = .ok (.tableswitch 57 0 2 #[25, 32, 42], 25) := by decide +kernel
theorem dX12_ship_56 : decode cX12_ship 56 = .ok (.aload_n 0, 1) := by decide +kernel
theorem dX12_ship_57 : decode cX12_ship 57 = .ok (.getfield 37, 3) := by decide +kernel
theorem dX12_ship_60 : decode cX12_ship 60 = .ok (.iload_n 1, 1) := by decide +kernel
theorem dX12_ship_61 : decode cX12_ship 61 = .ok (.iaload, 1) := by decide +kernel
theorem dX12_ship_62 : decode cX12_ship 62 = .ok (.ireturn, 1) := by decide +kernel
theorem dX12_ship_63 : decode cX12_ship 63 = .ok (.aload_n 0, 1) := by decide +kernel
theorem dX12_ship_64 : decode cX12_ship 64 = .ok (.getfield 43, 3) := by decide +kernel
theorem dX12_ship_67 : decode cX12_ship 67 = .ok (.bipush 36, 2) := by decide +kernel
theorem dX12_ship_69 : decode cX12_ship 69 = .ok (.iload_n 1, 1) := by decide +kernel
theorem dX12_ship_70 : decode cX12_ship 70 = .ok (.iadd, 1) := by decide +kernel
theorem dX12_ship_71 : decode cX12_ship 71 = .ok (.iaload, 1) := by decide +kernel
theorem dX12_ship_72 : decode cX12_ship 72 = .ok (.ireturn, 1) := by decide +kernel
theorem dX12_ship_73 : decode cX12_ship 73 = .ok (.aload_n 0, 1) := by decide +kernel
theorem dX12_ship_74 : decode cX12_ship 74 = .ok (.getfield 43, 3) := by decide +kernel
theorem dX12_ship_77 : decode cX12_ship 77 = .ok (.bipush 44, 2) := by decide +kernel
theorem dX12_ship_79 : decode cX12_ship 79 = .ok (.iaload, 1) := by decide +kernel
theorem dX12_ship_80 : decode cX12_ship 80 = .ok (.iload_n 1, 1) := by decide +kernel
theorem dX12_ship_81 : decode cX12_ship 81 = .ok (.invokestatic 276, 3) := by decide +kernel
theorem dX12_ship_84 : decode cX12_ship 84 = .ok (.invokestatic 151, 3) := by decide +kernel
theorem dX12_ship_87 : decode cX12_ship 87 = .ok (.ireturn, 1) := by decide +kernel
theorem dX12_ship_88 : decode cX12_ship 88 = .ok (.aload_n 0, 1) := by decide +kernel
theorem dX12_ship_89 : decode cX12_ship 89 = .ok (.aload_n 0, 1) := by decide +kernel
theorem dX12_ship_90 : decode cX12_ship 90 = .ok (.getfield 43, 3) := by decide +kernel
theorem dX12_ship_93 : decode cX12_ship 93 = .ok (.invokevirtual 279, 3) := by decide +kernel
theorem dX12_ship_96 : decode cX12_ship 96 = .ok (.iload_n 1, 1) := by decide +kernel
theorem dX12_ship_97 : decode cX12_ship 97 = .ok (.invokestatic 276, 3) := by decide +kernel
theorem dX12_ship_100 : decode cX12_ship 100 = .ok (.invokestatic 151, 3) := by decide +kernel
theorem dX12_ship_103 : decode cX12_ship 103 = .ok (.ireturn, 1) := by decide +kernel
theorem dX12_goalOf_0 : decode cX12_goalOf 0 = .ok (.aload_n 0, 1) := by decide +kernel
theorem dX12_goalOf_1 : decode cX12_goalOf 1 = .ok (.aload_n 1, 1) := by decide +kernel
theorem dX12_goalOf_2 : decode cX12_goalOf 2 = .ok (.bipush 36, 2) := by decide +kernel
theorem dX12_goalOf_4 : decode cX12_goalOf 4 = .ok (.iload_n 2, 1) := by decide +kernel
theorem dX12_goalOf_5 : decode cX12_goalOf 5 = .ok (.iadd, 1) := by decide +kernel
theorem dX12_goalOf_6 : decode cX12_goalOf 6 = .ok (.iaload, 1) := by decide +kernel
theorem dX12_goalOf_7 : decode cX12_goalOf 7 = .ok (.iload_n 3, 1) := by decide +kernel
theorem dX12_goalOf_8 : decode cX12_goalOf 8 = .ok (.invokevirtual 283, 3) := by decide +kernel
theorem dX12_goalOf_11 : decode cX12_goalOf 11 = .ok (.istore 4, 2) := by decide +kernel
theorem dX12_goalOf_13 : decode cX12_goalOf 13 = .ok (.iload 4, 2) := by decide +kernel
theorem dX12_goalOf_15 : decode cX12_goalOf 15 = .ok (.ifCond .lt 38, 3) := by decide +kernel
theorem dX12_goalOf_18 : decode cX12_goalOf 18 = .ok (.aload_n 0, 1) := by decide +kernel
theorem dX12_goalOf_19 : decode cX12_goalOf 19 = .ok (.getfield 30, 3) := by decide +kernel
theorem dX12_goalOf_22 : decode cX12_goalOf 22 = .ok (.iload 4, 2) := by decide +kernel
theorem dX12_goalOf_24 : decode cX12_goalOf 24 = .ok (.iaload, 1) := by decide +kernel
theorem dX12_goalOf_25 : decode cX12_goalOf 25 = .ok (.iconst 3, 1) := by decide +kernel
theorem dX12_goalOf_26 : decode cX12_goalOf 26 = .ok (.if_icmp .eq 27, 3) := by decide +kernel
theorem dX12_goalOf_29 : decode cX12_goalOf 29 = .ok (.aload_n 0, 1) := by decide +kernel
theorem dX12_goalOf_30 : decode cX12_goalOf 30 = .ok (.getfield 30, 3) := by decide +kernel
theorem dX12_goalOf_33 : decode cX12_goalOf 33 = .ok (.iload 4, 2) := by decide +kernel
theorem dX12_goalOf_35 : decode cX12_goalOf 35 = .ok (.iaload, 1) := by decide +kernel
theorem dX12_goalOf_36 : decode cX12_goalOf 36 = .ok (.ifCond .ne 13, 3) := by decide +kernel
theorem dX12_goalOf_39 : decode cX12_goalOf 39 = .ok (.aload_n 0, 1) := by decide +kernel
theorem dX12_goalOf_40 : decode cX12_goalOf 40 = .ok (.aload_n 1, 1) := by decide +kernel
theorem dX12_goalOf_41 : decode cX12_goalOf 41 = .ok (.iload 4, 2) := by decide +kernel
theorem dX12_goalOf_43 : decode cX12_goalOf 43 = .ok (.invokevirtual 269, 3) := by decide +kernel
theorem dX12_goalOf_46 : decode cX12_goalOf 46 = .ok (.ifCond .ne 7, 3) := by decide +kernel
theorem dX12_goalOf_49 : decode cX12_goalOf 49 = .ok (.iconst 1, 1) := by decide +kernel
theorem dX12_goalOf_50 : decode cX12_goalOf 50 = .ok (.goto 4, 3) := by decide +kernel
theorem dX12_goalOf_53 : decode cX12_goalOf 53 = .ok (.iconst 0, 1) := by decide +kernel
theorem dX12_goalOf_54 : decode cX12_goalOf 54 = .ok (.istore 5, 2) := by decide +kernel
theorem dX12_goalOf_56 : decode cX12_goalOf 56 = .ok (.iload 5, 2) := by decide +kernel
theorem dX12_goalOf_58 : decode cX12_goalOf 58 = .ok (.ifCond .eq 8, 3) := by decide +kernel
theorem dX12_goalOf_61 : decode cX12_goalOf 61 = .ok (.iload 4, 2) := by decide +kernel
theorem dX12_goalOf_63 : decode cX12_goalOf 63 = .ok (.goto 4, 3) := by decide +kernel
theorem dX12_goalOf_66 : decode cX12_goalOf 66 = .ok (.iconst (-1), 1) := by decide +kernel
theorem dX12_goalOf_67 : decode cX12_goalOf 67 = .ok (.ireturn, 1) := by decide +kernel
theorem dX12_pullBy_0 : decode cX12_pullBy 0 = .ok (.aload_n 0, 1) := by decide +kernel
theorem dX12_pullBy_1 : decode cX12_pullBy 1 = .ok (.aload_n 1, 1) := by decide +kernel
theorem dX12_pullBy_2 : decode cX12_pullBy 2 = .ok (.aload_n 0, 1) := by decide +kernel
theorem dX12_pullBy_3 : decode cX12_pullBy 3 = .ok (.getfield 37, 3) := by decide +kernel
theorem dX12_pullBy_6 : decode cX12_pullBy 6 = .ok (.iload_n 2, 1) := by decide +kernel
theorem dX12_pullBy_7 : decode cX12_pullBy 7 = .ok (.iaload, 1) := by decide +kernel
theorem dX12_pullBy_8 : decode cX12_pullBy 8 = .ok (.aload_n 1, 1) := by decide +kernel
theorem dX12_pullBy_9 : decode cX12_pullBy 9 = .ok (.bipush 36, 2) := by decide +kernel
theorem dX12_pullBy_11 : decode cX12_pullBy 11 = .ok (.iload_n 2, 1) := by decide +kernel
theorem dX12_pullBy_12 : decode cX12_pullBy 12 = .ok (.iadd, 1) := by decide +kernel
theorem dX12_pullBy_13 : decode cX12_pullBy 13 = .ok (.iaload, 1) := by decide +kernel
theorem dX12_pullBy_14 : decode cX12_pullBy 14 = .ok (.iload_n 3, 1) := by decide +kernel
theorem dX12_pullBy_15 : decode cX12_pullBy 15 = .ok (.aload_n 1, 1) := by decide +kernel
theorem dX12_pullBy_16 : decode cX12_pullBy 16 = .ok (.bipush 46, 2) := by decide +kernel
theorem dX12_pullBy_18 : decode cX12_pullBy 18 = .ok (.iaload, 1) := by decide +kernel
theorem dX12_pullBy_19 : decode cX12_pullBy 19 = .ok (.aload_n 1, 1) := by decide +kernel
theorem dX12_pullBy_20 : decode cX12_pullBy 20 = .ok (.bipush 47, 2) := by decide +kernel
theorem dX12_pullBy_22 : decode cX12_pullBy 22 = .ok (.iaload, 1) := by decide +kernel
theorem dX12_pullBy_23 : decode cX12_pullBy 23 = .ok (.invokevirtual 286, 3) := by decide +kernel
theorem dX12_pullBy_26 : decode cX12_pullBy 26 = .ok (.ireturn, 1) := by decide +kernel
theorem dX12_pull_0 : decode cX12_pull 0 = .ok (.aload_n 0, 1) := by decide +kernel
theorem dX12_pull_1 : decode cX12_pull 1 = .ok (.iconst 0, 1) := by decide +kernel
theorem dX12_pull_2 : decode cX12_pull 2 = .ok (.putfield 3, 3) := by decide +kernel
theorem dX12_pull_5 : decode cX12_pull 5 = .ok (.aload_n 0, 1) := by decide +kernel
theorem dX12_pull_6 : decode cX12_pull 6 = .ok (.iload_n 1, 1) := by decide +kernel
theorem dX12_pull_7 : decode cX12_pull 7 = .ok (.invokevirtual 273, 3) := by decide +kernel
theorem dX12_pull_10 : decode cX12_pull 10 = .ok (.ifCond .eq 15, 3) := by decide +kernel
theorem dX12_pull_13 : decode cX12_pull 13 = .ok (.iload_n 2, 1) := by decide +kernel
theorem dX12_pull_14 : decode cX12_pull 14 = .ok (.i2l, 1) := by decide +kernel
theorem dX12_pull_15 : decode cX12_pull 15 = .ok (.lconst 0, 1) := by decide +kernel
theorem dX12_pull_16 : decode cX12_pull 16 = .ok (.ldc2_w 264, 3) := by decide +kernel
theorem dX12_pull_19 : decode cX12_pull 19 = .ok (.invokestatic 126, 3) := by decide +kernel
theorem dX12_pull_22 : decode cX12_pull 22 = .ok (.ifCond .ne 5, 3) := by decide +kernel
theorem dX12_pull_25 : decode cX12_pull 25 = .ok (.iconst (-1), 1) := by decide +kernel
theorem dX12_pull_26 : decode cX12_pull 26 = .ok (.ireturn, 1) := by decide +kernel
theorem dX12_pull_27 : decode cX12_pull 27 = .ok (.aload_n 0, 1) := by decide +kernel
theorem dX12_pull_28 : decode cX12_pull 28 = .ok (.aload_n 0, 1) := by decide +kernel
theorem dX12_pull_29 : decode cX12_pull 29 = .ok (.getfield 43, 3) := by decide +kernel
theorem dX12_pull_32 : decode cX12_pull 32 = .ok (.iload_n 1, 1) := by decide +kernel
theorem dX12_pull_33 : decode cX12_pull 33 = .ok (.iload_n 2, 1) := by decide +kernel
theorem dX12_pull_34 : decode cX12_pull 34 = .ok (.invokevirtual 290, 3) := by decide +kernel
theorem dX12_pull_37 : decode cX12_pull 37 = .ok (.istore_n 3, 1) := by decide +kernel
theorem dX12_pull_38 : decode cX12_pull 38 = .ok (.iload_n 3, 1) := by decide +kernel
theorem dX12_pull_39 : decode cX12_pull 39 = .ok (.ifCond .ge 8, 3) := by decide +kernel
theorem dX12_pull_42 : decode cX12_pull 42 = .ok (.bipush (-2), 2) := by decide +kernel
theorem dX12_pull_44 : decode cX12_pull 44 = .ok (.goto 13, 3) := by decide +kernel
theorem dX12_pull_47 : decode cX12_pull 47 = .ok (.aload_n 0, 1) := by decide +kernel
theorem dX12_pull_48 : decode cX12_pull 48 = .ok (.aload_n 0, 1) := by decide +kernel
theorem dX12_pull_49 : decode cX12_pull 49 = .ok (.getfield 43, 3) := by decide +kernel
theorem dX12_pull_52 : decode cX12_pull 52 = .ok (.iload_n 1, 1) := by decide +kernel
theorem dX12_pull_53 : decode cX12_pull 53 = .ok (.iload_n 3, 1) := by decide +kernel
theorem dX12_pull_54 : decode cX12_pull 54 = .ok (.invokevirtual 294, 3) := by decide +kernel
theorem dX12_pull_57 : decode cX12_pull 57 = .ok (.ireturn, 1) := by decide +kernel
theorem dX12_set_0 : decode cX12_set 0 = .ok (.aload_n 0, 1) := by decide +kernel
theorem dX12_set_1 : decode cX12_set 1 = .ok (.iconst 0, 1) := by decide +kernel
theorem dX12_set_2 : decode cX12_set 2 = .ok (.putfield 3, 3) := by decide +kernel
theorem dX12_set_5 : decode cX12_set 5 = .ok (.iload_n 1, 1) := by decide +kernel
theorem dX12_set_6 : decode cX12_set 6 = .ok (.i2l, 1) := by decide +kernel
theorem dX12_set_7 : decode cX12_set 7 = .ok (.lconst 0, 1) := by decide +kernel
theorem dX12_set_8 : decode cX12_set 8 = .ok (.lconst 1, 1) := by decide +kernel
theorem dX12_set_9 : decode cX12_set 9 = .ok (.invokestatic 126, 3) := by decide +kernel
theorem dX12_set_12 : decode cX12_set 12 = .ok (.ifCond .eq 30, 3) := by decide +kernel
theorem dX12_set_15 : decode cX12_set 15 = .ok (.iload_n 2, 1) := by decide +kernel
theorem dX12_set_16 : decode cX12_set 16 = .ok (.i2l, 1) := by decide +kernel
theorem dX12_set_17 : decode cX12_set 17 = .ok (.iload_n 1, 1) := by decide +kernel
theorem dX12_set_18 : decode cX12_set 18 = .ok (.ifCond .ne 14, 3) := by decide +kernel
theorem dX12_set_21 : decode cX12_set 21 = .ok (.aload_n 0, 1) := by decide +kernel
theorem dX12_set_22 : decode cX12_set 22 = .ok (.getfield 43, 3) := by decide +kernel
theorem dX12_set_25 : decode cX12_set 25 = .ok (.bipush 45, 2) := by decide +kernel
theorem dX12_set_27 : decode cX12_set 27 = .ok (.iaload, 1) := by decide +kernel
theorem dX12_set_28 : decode cX12_set 28 = .ok (.i2l, 1) := by decide +kernel
theorem dX12_set_29 : decode cX12_set 29 = .ok (.goto 4, 3) := by decide +kernel
theorem dX12_set_32 : decode cX12_set 32 = .ok (.lconst 0, 1) := by decide +kernel
theorem dX12_set_33 : decode cX12_set 33 = .ok (.ldc2_w 297, 3) := by decide +kernel
theorem dX12_set_36 : decode cX12_set 36 = .ok (.invokestatic 126, 3) := by decide +kernel
theorem dX12_set_39 : decode cX12_set 39 = .ok (.ifCond .ne 5, 3) := by decide +kernel
theorem dX12_set_42 : decode cX12_set 42 = .ok (.iconst (-1), 1) := by decide +kernel
theorem dX12_set_43 : decode cX12_set 43 = .ok (.ireturn, 1) := by decide +kernel
theorem dX12_set_44 : decode cX12_set 44 = .ok (.aload_n 0, 1) := by decide +kernel
theorem dX12_set_45 : decode cX12_set 45 = .ok (.getfield 40, 3) := by decide +kernel
theorem dX12_set_48 : decode cX12_set 48 = .ok (.iload_n 1, 1) := by decide +kernel
theorem dX12_set_49 : decode cX12_set 49 = .ok (.iaload, 1) := by decide +kernel
theorem dX12_set_50 : decode cX12_set 50 = .ok (.istore_n 3, 1) := by decide +kernel
theorem dX12_set_51 : decode cX12_set 51 = .ok (.aload_n 0, 1) := by decide +kernel
theorem dX12_set_52 : decode cX12_set 52 = .ok (.getfield 40, 3) := by decide +kernel
theorem dX12_set_55 : decode cX12_set 55 = .ok (.iload_n 1, 1) := by decide +kernel
theorem dX12_set_56 : decode cX12_set 56 = .ok (.iload_n 2, 1) := by decide +kernel
theorem dX12_set_57 : decode cX12_set 57 = .ok (.iastore, 1) := by decide +kernel
theorem dX12_set_58 : decode cX12_set 58 = .ok (.iload_n 3, 1) := by decide +kernel
theorem dX12_set_59 : decode cX12_set 59 = .ok (.ireturn, 1) := by decide +kernel
theorem dX12_sheet_0 : decode cX12_sheet 0 = .ok (.aload_n 0, 1) := by decide +kernel
theorem dX12_sheet_1 : decode cX12_sheet 1 = .ok (.iconst 0, 1) := by decide +kernel
theorem dX12_sheet_2 : decode cX12_sheet 2 = .ok (.putfield 3, 3) := by decide +kernel
theorem dX12_sheet_5 : decode cX12_sheet 5 = .ok (.iload_n 1, 1) := by decide +kernel
theorem dX12_sheet_6 : decode cX12_sheet 6 = .ok (.i2l, 1) := by decide +kernel
theorem dX12_sheet_7 : decode cX12_sheet 7 = .ok (.lconst 0, 1) := by decide +kernel
theorem dX12_sheet_8 : decode cX12_sheet 8 = .ok (.ldc2_w 264, 3) := by decide +kernel
theorem dX12_sheet_11 : decode cX12_sheet 11 = .ok (.invokestatic 126, 3) := by decide +kernel
theorem dX12_sheet_14 : decode cX12_sheet 14 = .ok (.ifCond .eq 9, 3) := by decide +kernel
theorem dX12_sheet_17 : decode cX12_sheet 17 = .ok (.iload_n 2, 1) := by decide +kernel
theorem dX12_sheet_18 : decode cX12_sheet 18 = .ok (.bipush 8, 2) := by decide +kernel
theorem dX12_sheet_20 : decode cX12_sheet 20 = .ok (.if_icmp .le 5, 3) := by decide +kernel
theorem dX12_sheet_23 : decode cX12_sheet 23 = .ok (.iconst (-1), 1) := by decide +kernel
theorem dX12_sheet_24 : decode cX12_sheet 24 = .ok (.ireturn, 1) := by decide +kernel
theorem dX12_sheet_25 : decode cX12_sheet 25 = .ok (.iload_n 1, 1) := by decide +kernel
theorem dX12_sheet_26 : decode cX12_sheet 26 = .ok (.iconst 3, 1) := by decide +kernel
theorem dX12_sheet_27 : decode cX12_sheet 27 = .ok (.if_icmp .eq 10, 3) := by decide +kernel
theorem dX12_sheet_30 : decode cX12_sheet 30 = .ok (.iload_n 2, 1) := by decide +kernel
theorem dX12_sheet_31 : decode cX12_sheet 31 = .ok (.ifCond .ge 6, 3) := by decide +kernel
theorem dX12_sheet_34 : decode cX12_sheet 34 = .ok (.bipush (-2), 2) := by decide +kernel
theorem dX12_sheet_36 : decode cX12_sheet 36 = .ok (.ireturn, 1) := by decide +kernel
theorem dX12_sheet_37 : decode cX12_sheet 37 = .ok (.iconst 0, 1) := by decide +kernel
theorem dX12_sheet_38 : decode cX12_sheet 38 = .ok (.istore 5, 2) := by decide +kernel
theorem dX12_sheet_40 : decode cX12_sheet 40 = .ok (.iload_n 3, 1) := by decide +kernel
theorem dX12_sheet_41 : decode cX12_sheet 41 = .ok (.istore 6, 2) := by decide +kernel
theorem dX12_sheet_43 : decode cX12_sheet 43 = .ok (.iconst 0, 1) := by decide +kernel
theorem dX12_sheet_44 : decode cX12_sheet 44 = .ok (.istore 7, 2) := by decide +kernel
theorem dX12_sheet_46 : decode cX12_sheet 46 = .ok (.iload 7, 2) := by decide +kernel
theorem dX12_sheet_48 : decode cX12_sheet 48 = .ok (.aload_n 0, 1) := by decide +kernel
theorem dX12_sheet_49 : decode cX12_sheet 49 = .ok (.getfield 130, 3) := by decide +kernel
theorem dX12_sheet_52 : decode cX12_sheet 52 = .ok (.if_icmp .ge 86, 3) := by decide +kernel
theorem dX12_sheet_55 : decode cX12_sheet 55 = .ok (.iload_n 1, 1) := by decide +kernel
theorem dX12_sheet_56 : decode cX12_sheet 56 = .ok (.ifCond .ne 9, 3) := by decide +kernel
theorem dX12_sheet_59 : decode cX12_sheet 59 = .ok (.iload 6, 2) := by decide +kernel
theorem dX12_sheet_61 : decode cX12_sheet 61 = .ok (.i2b, 1) := by decide +kernel
theorem dX12_sheet_62 : decode cX12_sheet 62 = .ok (.goto 16, 3) := by decide +kernel
theorem dX12_sheet_65 : decode cX12_sheet 65 = .ok (.iload_n 1, 1) := by decide +kernel
theorem dX12_sheet_66 : decode cX12_sheet 66 = .ok (.iconst 1, 1) := by decide +kernel
theorem dX12_sheet_67 : decode cX12_sheet 67 = .ok (.if_icmp .ne 9, 3) := by decide +kernel
theorem dX12_sheet_70 : decode cX12_sheet 70 = .ok (.iload 6, 2) := by decide +kernel
theorem dX12_sheet_72 : decode cX12_sheet 72 = .ok (.i2s, 1) := by decide +kernel
theorem dX12_sheet_73 : decode cX12_sheet 73 = .ok (.goto 5, 3) := by decide +kernel
theorem dX12_sheet_76 : decode cX12_sheet 76 = .ok (.iload 6, 2) := by decide +kernel
theorem dX12_sheet_78 : decode cX12_sheet 78 = .ok (.istore 8, 2) := by decide +kernel
theorem dX12_sheet_80 : decode cX12_sheet 80 = .ok (.aload_n 0, 1) := by decide +kernel
theorem dX12_sheet_81 : decode cX12_sheet 81 = .ok (.getfield 37, 3) := by decide +kernel
theorem dX12_sheet_84 : decode cX12_sheet 84 = .ok (.iload 7, 2) := by decide +kernel
theorem dX12_sheet_86 : decode cX12_sheet 86 = .ok (.iload_n 1, 1) := by decide +kernel
theorem dX12_sheet_87 : decode cX12_sheet 87 = .ok (.iconst 3, 1) := by decide +kernel
theorem dX12_sheet_88 : decode cX12_sheet 88 = .ok (.if_icmp .eq 9, 3) := by decide +kernel
theorem dX12_sheet_91 : decode cX12_sheet 91 = .ok (.iload 7, 2) := by decide +kernel
theorem dX12_sheet_93 : decode cX12_sheet 93 = .ok (.iload_n 2, 1) := by decide +kernel
theorem dX12_sheet_94 : decode cX12_sheet 94 = .ok (.if_icmp .lt 7, 3) := by decide +kernel
theorem dX12_sheet_97 : decode cX12_sheet 97 = .ok (.iconst 1, 1) := by decide +kernel
theorem dX12_sheet_98 : decode cX12_sheet 98 = .ok (.goto 14, 3) := by decide +kernel
theorem dX12_sheet_101 : decode cX12_sheet 101 = .ok (.iconst 1, 1) := by decide +kernel
theorem dX12_sheet_102 : decode cX12_sheet 102 = .ok (.bipush 99, 2) := by decide +kernel
theorem dX12_sheet_104 : decode cX12_sheet 104 = .ok (.iload 8, 2) := by decide +kernel
theorem dX12_sheet_106 : decode cX12_sheet 106 = .ok (.invokestatic 142, 3) := by decide +kernel
theorem dX12_sheet_109 : decode cX12_sheet 109 = .ok (.invokestatic 258, 3) := by decide +kernel
theorem dX12_sheet_112 : decode cX12_sheet 112 = .ok (.iastore, 1) := by decide +kernel
theorem dX12_sheet_113 : decode cX12_sheet 113 = .ok (.iload 5, 2) := by decide +kernel
theorem dX12_sheet_115 : decode cX12_sheet 115 = .ok (.aload_n 0, 1) := by decide +kernel
theorem dX12_sheet_116 : decode cX12_sheet 116 = .ok (.getfield 37, 3) := by decide +kernel
theorem dX12_sheet_119 : decode cX12_sheet 119 = .ok (.iload 7, 2) := by decide +kernel
theorem dX12_sheet_121 : decode cX12_sheet 121 = .ok (.iaload, 1) := by decide +kernel
theorem dX12_sheet_122 : decode cX12_sheet 122 = .ok (.iadd, 1) := by decide +kernel
theorem dX12_sheet_123 : decode cX12_sheet 123 = .ok (.istore 5, 2) := by decide +kernel
theorem dX12_sheet_125 : decode cX12_sheet 125 = .ok (.iload 6, 2) := by decide +kernel
theorem dX12_sheet_127 : decode cX12_sheet 127 = .ok (.iload 4, 2) := by decide +kernel
theorem dX12_sheet_129 : decode cX12_sheet 129 = .ok (.iadd, 1) := by decide +kernel
theorem dX12_sheet_130 : decode cX12_sheet 130 = .ok (.istore 6, 2) := by decide +kernel
theorem dX12_sheet_132 : decode cX12_sheet 132 = .ok (.iinc 7 1, 3) := by decide +kernel
theorem dX12_sheet_135 : decode cX12_sheet 135 = .ok (.goto (-89), 3) := by decide +kernel
theorem dX12_sheet_138 : decode cX12_sheet 138 = .ok (.iload_n 1, 1) := by decide +kernel
theorem dX12_sheet_139 : decode cX12_sheet 139 = .ok (.iconst 3, 1) := by decide +kernel
theorem dX12_sheet_140 : decode cX12_sheet 140 = .ok (.if_icmp .ne 8, 3) := by decide +kernel
theorem dX12_sheet_143 : decode cX12_sheet 143 = .ok (.bipush (-3), 2) := by decide +kernel
theorem dX12_sheet_145 : decode cX12_sheet 145 = .ok (.goto 5, 3) := by decide +kernel
theorem dX12_sheet_148 : decode cX12_sheet 148 = .ok (.iload 5, 2) := by decide +kernel
theorem dX12_sheet_150 : decode cX12_sheet 150 = .ok (.ireturn, 1) := by decide +kernel
theorem dX12_putsBy_0 : decode cX12_putsBy 0 = .ok (.iconst 0, 1) := by decide +kernel
theorem dX12_putsBy_1 : decode cX12_putsBy 1 = .ok (.istore_n 1, 1) := by decide +kernel
theorem dX12_putsBy_2 : decode cX12_putsBy 2 = .ok (.iload_n 1, 1) := by decide +kernel
theorem dX12_putsBy_3 : decode cX12_putsBy 3 = .ok (.bipush 50, 2) := by decide +kernel
theorem dX12_putsBy_5 : decode cX12_putsBy 5 = .ok (.if_icmp .ge 29, 3) := by decide +kernel
theorem dX12_putsBy_8 : decode cX12_putsBy 8 = .ok (.aload_n 0, 1) := by decide +kernel
theorem dX12_putsBy_9 : decode cX12_putsBy 9 = .ok (.getfield 70, 3) := by decide +kernel
theorem dX12_putsBy_12 : decode cX12_putsBy 12 = .ok (.bipush 50, 2) := by decide +kernel
theorem dX12_putsBy_14 : decode cX12_putsBy 14 = .ok (.aload_n 0, 1) := by decide +kernel
theorem dX12_putsBy_15 : decode cX12_putsBy 15 = .ok (.getfield 198, 3) := by decide +kernel
theorem dX12_putsBy_18 : decode cX12_putsBy 18 = .ok (.imul, 1) := by decide +kernel
theorem dX12_putsBy_19 : decode cX12_putsBy 19 = .ok (.iload_n 1, 1) := by decide +kernel
theorem dX12_putsBy_20 : decode cX12_putsBy 20 = .ok (.iadd, 1) := by decide +kernel
theorem dX12_putsBy_21 : decode cX12_putsBy 21 = .ok (.aload_n 0, 1) := by decide +kernel
theorem dX12_putsBy_22 : decode cX12_putsBy 22 = .ok (.getfield 43, 3) := by decide +kernel
theorem dX12_putsBy_25 : decode cX12_putsBy 25 = .ok (.iload_n 1, 1) := by decide +kernel
theorem dX12_putsBy_26 : decode cX12_putsBy 26 = .ok (.iaload, 1) := by decide +kernel
theorem dX12_putsBy_27 : decode cX12_putsBy 27 = .ok (.iastore, 1) := by decide +kernel
theorem dX12_putsBy_28 : decode cX12_putsBy 28 = .ok (.iinc 1 1, 3) := by decide +kernel
theorem dX12_putsBy_31 : decode cX12_putsBy 31 = .ok (.goto (-29), 3) := by decide +kernel
theorem dX12_putsBy_34 : decode cX12_putsBy 34 = .ok (.return_, 1) := by decide +kernel
theorem dX12_adds_0 : decode cX12_adds 0 = .ok (.aload_n 0, 1) := by decide +kernel
theorem dX12_adds_1 : decode cX12_adds 1 = .ok (.dup, 1) := by decide +kernel
theorem dX12_adds_2 : decode cX12_adds 2 = .ok (.getfield 198, 3) := by decide +kernel
theorem dX12_adds_5 : decode cX12_adds 5 = .ok (.iconst 1, 1) := by decide +kernel
theorem dX12_adds_6 : decode cX12_adds 6 = .ok (.iadd, 1) := by decide +kernel
theorem dX12_adds_7 : decode cX12_adds 7 = .ok (.putfield 198, 3) := by decide +kernel
theorem dX12_adds_10 : decode cX12_adds 10 = .ok (.aload_n 0, 1) := by decide +kernel
theorem dX12_adds_11 : decode cX12_adds 11 = .ok (.getfield 198, 3) := by decide +kernel
theorem dX12_adds_14 : decode cX12_adds 14 = .ok (.bipush 15, 2) := by decide +kernel
theorem dX12_adds_16 : decode cX12_adds 16 = .ok (.if_icmp .le 43, 3) := by decide +kernel
theorem dX12_adds_19 : decode cX12_adds 19 = .ok (.iconst 0, 1) := by decide +kernel
theorem dX12_adds_20 : decode cX12_adds 20 = .ok (.istore_n 2, 1) := by decide +kernel
theorem dX12_adds_21 : decode cX12_adds 21 = .ok (.iload_n 2, 1) := by decide +kernel
theorem dX12_adds_22 : decode cX12_adds 22 = .ok (.sipush 750, 3) := by decide +kernel
theorem dX12_adds_25 : decode cX12_adds 25 = .ok (.if_icmp .ge 24, 3) := by decide +kernel
theorem dX12_adds_28 : decode cX12_adds 28 = .ok (.aload_n 0, 1) := by decide +kernel
theorem dX12_adds_29 : decode cX12_adds 29 = .ok (.getfield 70, 3) := by decide +kernel
theorem dX12_adds_32 : decode cX12_adds 32 = .ok (.iload_n 2, 1) := by decide +kernel
theorem dX12_adds_33 : decode cX12_adds 33 = .ok (.aload_n 0, 1) := by decide +kernel
theorem dX12_adds_34 : decode cX12_adds 34 = .ok (.getfield 70, 3) := by decide +kernel
theorem dX12_adds_37 : decode cX12_adds 37 = .ok (.iload_n 2, 1) := by decide +kernel
theorem dX12_adds_38 : decode cX12_adds 38 = .ok (.bipush 50, 2) := by decide +kernel
theorem dX12_adds_40 : decode cX12_adds 40 = .ok (.iadd, 1) := by decide +kernel
theorem dX12_adds_41 : decode cX12_adds 41 = .ok (.iaload, 1) := by decide +kernel
theorem dX12_adds_42 : decode cX12_adds 42 = .ok (.iastore, 1) := by decide +kernel
theorem dX12_adds_43 : decode cX12_adds 43 = .ok (.iinc 2 1, 3) := by decide +kernel
theorem dX12_adds_46 : decode cX12_adds 46 = .ok (.goto (-25), 3) := by decide +kernel
theorem dX12_adds_49 : decode cX12_adds 49 = .ok (.aload_n 0, 1) := by decide +kernel
theorem dX12_adds_50 : decode cX12_adds 50 = .ok (.dup, 1) := by decide +kernel
theorem dX12_adds_51 : decode cX12_adds 51 = .ok (.getfield 198, 3) := by decide +kernel
theorem dX12_adds_54 : decode cX12_adds 54 = .ok (.iconst 1, 1) := by decide +kernel
theorem dX12_adds_55 : decode cX12_adds 55 = .ok (.isub, 1) := by decide +kernel
theorem dX12_adds_56 : decode cX12_adds 56 = .ok (.putfield 198, 3) := by decide +kernel
theorem dX12_adds_59 : decode cX12_adds 59 = .ok (.iload_n 1, 1) := by decide +kernel
theorem dX12_adds_60 : decode cX12_adds 60 = .ok (.ireturn, 1) := by decide +kernel
theorem dX12_counts_0 : decode cX12_counts 0 = .ok (.iload_n 1, 1) := by decide +kernel
theorem dX12_counts_1 : decode cX12_counts 1 = .ok (.ifCond .ge 7, 3) := by decide +kernel
theorem dX12_counts_4 : decode cX12_counts 4 = .ok (.iload_n 1, 1) := by decide +kernel
theorem dX12_counts_5 : decode cX12_counts 5 = .ok (.goto 8, 3) := by decide +kernel
theorem dX12_counts_8 : decode cX12_counts 8 = .ok (.aload_n 0, 1) := by decide +kernel
theorem dX12_counts_9 : decode cX12_counts 9 = .ok (.iload_n 1, 1) := by decide +kernel
theorem dX12_counts_10 : decode cX12_counts 10 = .ok (.invokevirtual 299, 3) := by decide +kernel
theorem dX12_counts_13 : decode cX12_counts 13 = .ok (.ireturn, 1) := by decide +kernel
theorem dX12_undo_0 : decode cX12_undo 0 = .ok (.aload_n 0, 1) := by decide +kernel
theorem dX12_undo_1 : decode cX12_undo 1 = .ok (.iconst 0, 1) := by decide +kernel
theorem dX12_undo_2 : decode cX12_undo 2 = .ok (.putfield 3, 3) := by decide +kernel
theorem dX12_undo_5 : decode cX12_undo 5 = .ok (.aload_n 0, 1) := by decide +kernel
theorem dX12_undo_6 : decode cX12_undo 6 = .ok (.getfield 198, 3) := by decide +kernel
theorem dX12_undo_9 : decode cX12_undo 9 = .ok (.ifCond .ne 5, 3) := by decide +kernel
theorem dX12_undo_12 : decode cX12_undo 12 = .ok (.iconst (-1), 1) := by decide +kernel
theorem dX12_undo_13 : decode cX12_undo 13 = .ok (.ireturn, 1) := by decide +kernel
theorem dX12_undo_14 : decode cX12_undo 14 = .ok (.aload_n 0, 1) := by decide +kernel
theorem dX12_undo_15 : decode cX12_undo 15 = .ok (.dup, 1) := by decide +kernel
theorem dX12_undo_16 : decode cX12_undo 16 = .ok (.getfield 198, 3) := by decide +kernel
theorem dX12_undo_19 : decode cX12_undo 19 = .ok (.iconst 1, 1) := by decide +kernel
theorem dX12_undo_20 : decode cX12_undo 20 = .ok (.isub, 1) := by decide +kernel
theorem dX12_undo_21 : decode cX12_undo 21 = .ok (.putfield 198, 3) := by decide +kernel
theorem dX12_undo_24 : decode cX12_undo 24 = .ok (.iconst 0, 1) := by decide +kernel
theorem dX12_undo_25 : decode cX12_undo 25 = .ok (.istore_n 1, 1) := by decide +kernel
theorem dX12_undo_26 : decode cX12_undo 26 = .ok (.iload_n 1, 1) := by decide +kernel
theorem dX12_undo_27 : decode cX12_undo 27 = .ok (.bipush 50, 2) := by decide +kernel
theorem dX12_undo_29 : decode cX12_undo 29 = .ok (.if_icmp .ge 29, 3) := by decide +kernel
theorem dX12_undo_32 : decode cX12_undo 32 = .ok (.aload_n 0, 1) := by decide +kernel
theorem dX12_undo_33 : decode cX12_undo 33 = .ok (.getfield 43, 3) := by decide +kernel
theorem dX12_undo_36 : decode cX12_undo 36 = .ok (.iload_n 1, 1) := by decide +kernel
theorem dX12_undo_37 : decode cX12_undo 37 = .ok (.aload_n 0, 1) := by decide +kernel
theorem dX12_undo_38 : decode cX12_undo 38 = .ok (.getfield 70, 3) := by decide +kernel
theorem dX12_undo_41 : decode cX12_undo 41 = .ok (.bipush 50, 2) := by decide +kernel
theorem dX12_undo_43 : decode cX12_undo 43 = .ok (.aload_n 0, 1) := by decide +kernel
theorem dX12_undo_44 : decode cX12_undo 44 = .ok (.getfield 198, 3) := by decide +kernel
theorem dX12_undo_47 : decode cX12_undo 47 = .ok (.imul, 1) := by decide +kernel
theorem dX12_undo_48 : decode cX12_undo 48 = .ok (.iload_n 1, 1) := by decide +kernel
theorem dX12_undo_49 : decode cX12_undo 49 = .ok (.iadd, 1) := by decide +kernel
theorem dX12_undo_50 : decode cX12_undo 50 = .ok (.iaload, 1) := by decide +kernel
theorem dX12_undo_51 : decode cX12_undo 51 = .ok (.iastore, 1) := by decide +kernel
theorem dX12_undo_52 : decode cX12_undo 52 = .ok (.iinc 1 1, 3) := by decide +kernel
theorem dX12_undo_55 : decode cX12_undo 55 = .ok (.goto (-29), 3) := by decide +kernel
theorem dX12_undo_58 : decode cX12_undo 58 = .ok (.aload_n 0, 1) := by decide +kernel
theorem dX12_undo_59 : decode cX12_undo 59 = .ok (.getfield 198, 3) := by decide +kernel
theorem dX12_undo_62 : decode cX12_undo 62 = .ok (.ireturn, 1) := by decide +kernel
theorem dX12_drags_0 : decode cX12_drags 0 = .ok (.aload_n 0, 1) := by decide +kernel
theorem dX12_drags_1 : decode cX12_drags 1 = .ok (.iload_n 2, 1) := by decide +kernel
theorem dX12_drags_2 : decode cX12_drags 2 = .ok (.invokevirtual 273, 3) := by decide +kernel
theorem dX12_drags_5 : decode cX12_drags 5 = .ok (.ifCond .eq 15, 3) := by decide +kernel
theorem dX12_drags_8 : decode cX12_drags 8 = .ok (.iload_n 3, 1) := by decide +kernel
theorem dX12_drags_9 : decode cX12_drags 9 = .ok (.i2l, 1) := by decide +kernel
theorem dX12_drags_10 : decode cX12_drags 10 = .ok (.lconst 0, 1) := by decide +kernel
theorem dX12_drags_11 : decode cX12_drags 11 = .ok (.ldc2_w 264, 3) := by decide +kernel
theorem dX12_drags_14 : decode cX12_drags 14 = .ok (.invokestatic 126, 3) := by decide +kernel
theorem dX12_drags_17 : decode cX12_drags 17 = .ok (.ifCond .ne 5, 3) := by decide +kernel
theorem dX12_drags_20 : decode cX12_drags 20 = .ok (.iconst (-1), 1) := by decide +kernel
theorem dX12_drags_21 : decode cX12_drags 21 = .ok (.ireturn, 1) := by decide +kernel
theorem dX12_drags_22 : decode cX12_drags 22 = .ok (.aload_n 0, 1) := by decide +kernel
theorem dX12_drags_23 : decode cX12_drags 23 = .ok (.aload_n 1, 1) := by decide +kernel
theorem dX12_drags_24 : decode cX12_drags 24 = .ok (.iload_n 2, 1) := by decide +kernel
theorem dX12_drags_25 : decode cX12_drags 25 = .ok (.iload_n 3, 1) := by decide +kernel
theorem dX12_drags_26 : decode cX12_drags 26 = .ok (.invokevirtual 290, 3) := by decide +kernel
theorem dX12_drags_29 : decode cX12_drags 29 = .ok (.istore 4, 2) := by decide +kernel
theorem dX12_drags_31 : decode cX12_drags 31 = .ok (.iload 4, 2) := by decide +kernel
theorem dX12_drags_33 : decode cX12_drags 33 = .ok (.ifCond .ge 6, 3) := by decide +kernel
theorem dX12_drags_36 : decode cX12_drags 36 = .ok (.bipush (-2), 2) := by decide +kernel
theorem dX12_drags_38 : decode cX12_drags 38 = .ok (.ireturn, 1) := by decide +kernel
theorem dX12_drags_39 : decode cX12_drags 39 = .ok (.aload_n 1, 1) := by decide +kernel
theorem dX12_drags_40 : decode cX12_drags 40 = .ok (.bipush 44, 2) := by decide +kernel
theorem dX12_drags_42 : decode cX12_drags 42 = .ok (.iaload, 1) := by decide +kernel
theorem dX12_drags_43 : decode cX12_drags 43 = .ok (.iload_n 2, 1) := by decide +kernel
theorem dX12_drags_44 : decode cX12_drags 44 = .ok (.invokestatic 276, 3) := by decide +kernel
theorem dX12_drags_47 : decode cX12_drags 47 = .ok (.ifCond .eq 6, 3) := by decide +kernel
theorem dX12_drags_50 : decode cX12_drags 50 = .ok (.bipush (-3), 2) := by decide +kernel
theorem dX12_drags_52 : decode cX12_drags 52 = .ok (.ireturn, 1) := by decide +kernel
theorem dX12_drags_53 : decode cX12_drags 53 = .ok (.aload_n 0, 1) := by decide +kernel
theorem dX12_drags_54 : decode cX12_drags 54 = .ok (.aload_n 1, 1) := by decide +kernel
theorem dX12_drags_55 : decode cX12_drags 55 = .ok (.iload_n 2, 1) := by decide +kernel
theorem dX12_drags_56 : decode cX12_drags 56 = .ok (.iload 4, 2) := by decide +kernel
theorem dX12_drags_58 : decode cX12_drags 58 = .ok (.invokevirtual 294, 3) := by decide +kernel
theorem dX12_drags_61 : decode cX12_drags 61 = .ok (.istore 5, 2) := by decide +kernel
theorem dX12_drags_63 : decode cX12_drags 63 = .ok (.aload_n 0, 1) := by decide +kernel
theorem dX12_drags_64 : decode cX12_drags 64 = .ok (.getfield 40, 3) := by decide +kernel
theorem dX12_drags_67 : decode cX12_drags 67 = .ok (.iconst 0, 1) := by decide +kernel
theorem dX12_drags_68 : decode cX12_drags 68 = .ok (.iaload, 1) := by decide +kernel
theorem dX12_drags_69 : decode cX12_drags 69 = .ok (.aload_n 1, 1) := by decide +kernel
theorem dX12_drags_70 : decode cX12_drags 70 = .ok (.bipush 45, 2) := by decide +kernel
theorem dX12_drags_72 : decode cX12_drags 72 = .ok (.iaload, 1) := by decide +kernel
theorem dX12_drags_73 : decode cX12_drags 73 = .ok (.isub, 1) := by decide +kernel
theorem dX12_drags_74 : decode cX12_drags 74 = .ok (.iload 5, 2) := by decide +kernel
theorem dX12_drags_76 : decode cX12_drags 76 = .ok (.if_icmp .ge 6, 3) := by decide +kernel
theorem dX12_drags_79 : decode cX12_drags 79 = .ok (.bipush (-4), 2) := by decide +kernel
theorem dX12_drags_81 : decode cX12_drags 81 = .ok (.ireturn, 1) := by decide +kernel
theorem dX12_drags_82 : decode cX12_drags 82 = .ok (.aload_n 1, 1) := by decide +kernel
theorem dX12_drags_83 : decode cX12_drags 83 = .ok (.bipush 45, 2) := by decide +kernel
theorem dX12_drags_85 : decode cX12_drags 85 = .ok (.dup2, 1) := by decide +kernel
theorem dX12_drags_86 : decode cX12_drags 86 = .ok (.iaload, 1) := by decide +kernel
theorem dX12_drags_87 : decode cX12_drags 87 = .ok (.iload 5, 2) := by decide +kernel
theorem dX12_drags_89 : decode cX12_drags 89 = .ok (.iadd, 1) := by decide +kernel
theorem dX12_drags_90 : decode cX12_drags 90 = .ok (.iastore, 1) := by decide +kernel
theorem dX12_drags_91 : decode cX12_drags 91 = .ok (.aload_n 1, 1) := by decide +kernel
theorem dX12_drags_92 : decode cX12_drags 92 = .ok (.bipush 48, 2) := by decide +kernel
theorem dX12_drags_94 : decode cX12_drags 94 = .ok (.dup2, 1) := by decide +kernel
theorem dX12_drags_95 : decode cX12_drags 95 = .ok (.iaload, 1) := by decide +kernel
theorem dX12_drags_96 : decode cX12_drags 96 = .ok (.iload 5, 2) := by decide +kernel
theorem dX12_drags_98 : decode cX12_drags 98 = .ok (.aload_n 1, 1) := by decide +kernel
theorem dX12_drags_99 : decode cX12_drags 99 = .ok (.bipush 46, 2) := by decide +kernel
theorem dX12_drags_101 : decode cX12_drags 101 = .ok (.iaload, 1) := by decide +kernel
theorem dX12_drags_102 : decode cX12_drags 102 = .ok (.invokestatic 302, 3) := by decide +kernel
theorem dX12_drags_105 : decode cX12_drags 105 = .ok (.iadd, 1) := by decide +kernel
theorem dX12_drags_106 : decode cX12_drags 106 = .ok (.iastore, 1) := by decide +kernel
theorem dX12_drags_107 : decode cX12_drags 107 = .ok (.aload_n 1, 1) := by decide +kernel
theorem dX12_drags_108 : decode cX12_drags 108 = .ok (.bipush 44, 2) := by decide +kernel
theorem dX12_drags_110 : decode cX12_drags 110 = .ok (.dup2, 1) := by decide +kernel
theorem dX12_drags_111 : decode cX12_drags 111 = .ok (.iaload, 1) := by decide +kernel
theorem dX12_drags_112 : decode cX12_drags 112 = .ok (.iconst 1, 1) := by decide +kernel
theorem dX12_drags_113 : decode cX12_drags 113 = .ok (.iload_n 2, 1) := by decide +kernel
theorem dX12_drags_114 : decode cX12_drags 114 = .ok (.ishl, 1) := by decide +kernel
theorem dX12_drags_115 : decode cX12_drags 115 = .ok (.ior, 1) := by decide +kernel
theorem dX12_drags_116 : decode cX12_drags 116 = .ok (.iastore, 1) := by decide +kernel
theorem dX12_drags_117 : decode cX12_drags 117 = .ok (.aload_n 1, 1) := by decide +kernel
theorem dX12_drags_118 : decode cX12_drags 118 = .ok (.bipush 36, 2) := by decide +kernel
theorem dX12_drags_120 : decode cX12_drags 120 = .ok (.iload_n 2, 1) := by decide +kernel
theorem dX12_drags_121 : decode cX12_drags 121 = .ok (.iadd, 1) := by decide +kernel
theorem dX12_drags_122 : decode cX12_drags 122 = .ok (.iload 4, 2) := by decide +kernel
theorem dX12_drags_124 : decode cX12_drags 124 = .ok (.iastore, 1) := by decide +kernel
theorem dX12_drags_125 : decode cX12_drags 125 = .ok (.aload_n 0, 1) := by decide +kernel
theorem dX12_drags_126 : decode cX12_drags 126 = .ok (.getfield 40, 3) := by decide +kernel
theorem dX12_drags_129 : decode cX12_drags 129 = .ok (.iconst 0, 1) := by decide +kernel
theorem dX12_drags_130 : decode cX12_drags 130 = .ok (.iaload, 1) := by decide +kernel
theorem dX12_drags_131 : decode cX12_drags 131 = .ok (.aload_n 1, 1) := by decide +kernel
theorem dX12_drags_132 : decode cX12_drags 132 = .ok (.bipush 45, 2) := by decide +kernel
theorem dX12_drags_134 : decode cX12_drags 134 = .ok (.iaload, 1) := by decide +kernel
theorem dX12_drags_135 : decode cX12_drags 135 = .ok (.isub, 1) := by decide +kernel
theorem dX12_drags_136 : decode cX12_drags 136 = .ok (.ireturn, 1) := by decide +kernel
theorem dX12_hourGoes_0 : decode cX12_hourGoes 0 = .ok (.aload_n 1, 1) := by decide +kernel
theorem dX12_hourGoes_1 : decode cX12_hourGoes 1 = .ok (.bipush 49, 2) := by decide +kernel
theorem dX12_hourGoes_3 : decode cX12_hourGoes 3 = .ok (.dup2, 1) := by decide +kernel
theorem dX12_hourGoes_4 : decode cX12_hourGoes 4 = .ok (.iaload, 1) := by decide +kernel
theorem dX12_hourGoes_5 : decode cX12_hourGoes 5 = .ok (.aload_n 1, 1) := by decide +kernel
theorem dX12_hourGoes_6 : decode cX12_hourGoes 6 = .ok (.bipush 48, 2) := by decide +kernel
theorem dX12_hourGoes_8 : decode cX12_hourGoes 8 = .ok (.iaload, 1) := by decide +kernel
theorem dX12_hourGoes_9 : decode cX12_hourGoes 9 = .ok (.aload_n 0, 1) := by decide +kernel
theorem dX12_hourGoes_10 : decode cX12_hourGoes 10 = .ok (.getfield 40, 3) := by decide +kernel
theorem dX12_hourGoes_13 : decode cX12_hourGoes 13 = .ok (.iconst 1, 1) := by decide +kernel
theorem dX12_hourGoes_14 : decode cX12_hourGoes 14 = .ok (.iaload, 1) := by decide +kernel
theorem dX12_hourGoes_15 : decode cX12_hourGoes 15 = .ok (.if_icmp .le 7, 3) := by decide +kernel
theorem dX12_hourGoes_18 : decode cX12_hourGoes 18 = .ok (.iconst 1, 1) := by decide +kernel
theorem dX12_hourGoes_19 : decode cX12_hourGoes 19 = .ok (.goto 4, 3) := by decide +kernel
theorem dX12_hourGoes_22 : decode cX12_hourGoes 22 = .ok (.iconst 0, 1) := by decide +kernel
theorem dX12_hourGoes_23 : decode cX12_hourGoes 23 = .ok (.invokestatic 151, 3) := by decide +kernel
theorem dX12_hourGoes_26 : decode cX12_hourGoes 26 = .ok (.iadd, 1) := by decide +kernel
theorem dX12_hourGoes_27 : decode cX12_hourGoes 27 = .ok (.iastore, 1) := by decide +kernel
theorem dX12_hourGoes_28 : decode cX12_hourGoes 28 = .ok (.aload_n 1, 1) := by decide +kernel
theorem dX12_hourGoes_29 : decode cX12_hourGoes 29 = .ok (.bipush 45, 2) := by decide +kernel
theorem dX12_hourGoes_31 : decode cX12_hourGoes 31 = .ok (.iconst 0, 1) := by decide +kernel
theorem dX12_hourGoes_32 : decode cX12_hourGoes 32 = .ok (.iastore, 1) := by decide +kernel
theorem dX12_hourGoes_33 : decode cX12_hourGoes 33 = .ok (.aload_n 1, 1) := by decide +kernel
theorem dX12_hourGoes_34 : decode cX12_hourGoes 34 = .ok (.bipush 48, 2) := by decide +kernel
theorem dX12_hourGoes_36 : decode cX12_hourGoes 36 = .ok (.iconst 0, 1) := by decide +kernel
theorem dX12_hourGoes_37 : decode cX12_hourGoes 37 = .ok (.iastore, 1) := by decide +kernel
theorem dX12_hourGoes_38 : decode cX12_hourGoes 38 = .ok (.aload_n 1, 1) := by decide +kernel
theorem dX12_hourGoes_39 : decode cX12_hourGoes 39 = .ok (.bipush 44, 2) := by decide +kernel
theorem dX12_hourGoes_41 : decode cX12_hourGoes 41 = .ok (.iconst 0, 1) := by decide +kernel
theorem dX12_hourGoes_42 : decode cX12_hourGoes 42 = .ok (.iastore, 1) := by decide +kernel
theorem dX12_hourGoes_43 : decode cX12_hourGoes 43 = .ok (.aload_n 1, 1) := by decide +kernel
theorem dX12_hourGoes_44 : decode cX12_hourGoes 44 = .ok (.bipush 47, 2) := by decide +kernel
theorem dX12_hourGoes_46 : decode cX12_hourGoes 46 = .ok (.dup2, 1) := by decide +kernel
theorem dX12_hourGoes_47 : decode cX12_hourGoes 47 = .ok (.iaload, 1) := by decide +kernel
theorem dX12_hourGoes_48 : decode cX12_hourGoes 48 = .ok (.iconst 1, 1) := by decide +kernel
theorem dX12_hourGoes_49 : decode cX12_hourGoes 49 = .ok (.iadd, 1) := by decide +kernel
theorem dX12_hourGoes_50 : decode cX12_hourGoes 50 = .ok (.iastore, 1) := by decide +kernel
theorem dX12_hourGoes_51 : decode cX12_hourGoes 51 = .ok (.aload_n 1, 1) := by decide +kernel
theorem dX12_hourGoes_52 : decode cX12_hourGoes 52 = .ok (.bipush 47, 2) := by decide +kernel
theorem dX12_hourGoes_54 : decode cX12_hourGoes 54 = .ok (.iaload, 1) := by decide +kernel
theorem dX12_hourGoes_55 : decode cX12_hourGoes 55 = .ok (.bipush 10, 2) := by decide +kernel
theorem dX12_hourGoes_57 : decode cX12_hourGoes 57 = .ok (.if_icmp .ne 16, 3) := by decide +kernel
theorem dX12_hourGoes_60 : decode cX12_hourGoes 60 = .ok (.aload_n 1, 1) := by decide +kernel
theorem dX12_hourGoes_61 : decode cX12_hourGoes 61 = .ok (.bipush 47, 2) := by decide +kernel
theorem dX12_hourGoes_63 : decode cX12_hourGoes 63 = .ok (.iconst 0, 1) := by decide +kernel
theorem dX12_hourGoes_64 : decode cX12_hourGoes 64 = .ok (.iastore, 1) := by decide +kernel
theorem dX12_hourGoes_65 : decode cX12_hourGoes 65 = .ok (.aload_n 1, 1) := by decide +kernel
theorem dX12_hourGoes_66 : decode cX12_hourGoes 66 = .ok (.bipush 46, 2) := by decide +kernel
theorem dX12_hourGoes_68 : decode cX12_hourGoes 68 = .ok (.dup2, 1) := by decide +kernel
theorem dX12_hourGoes_69 : decode cX12_hourGoes 69 = .ok (.iaload, 1) := by decide +kernel
theorem dX12_hourGoes_70 : decode cX12_hourGoes 70 = .ok (.iconst 1, 1) := by decide +kernel
theorem dX12_hourGoes_71 : decode cX12_hourGoes 71 = .ok (.iadd, 1) := by decide +kernel
theorem dX12_hourGoes_72 : decode cX12_hourGoes 72 = .ok (.iastore, 1) := by decide +kernel
theorem dX12_hourGoes_73 : decode cX12_hourGoes 73 = .ok (.return_, 1) := by decide +kernel
theorem dX12_planksAt_0 : decode cX12_planksAt 0 = .ok (.aload_n 0, 1) := by decide +kernel
theorem dX12_planksAt_1 : decode cX12_planksAt 1 = .ok (.iload_n 1, 1) := by decide +kernel
theorem dX12_planksAt_2 : decode cX12_planksAt 2 = .ok (.invokevirtual 210, 3) := by decide +kernel
theorem dX12_planksAt_5 : decode cX12_planksAt 5 = .ok (.ifCond .ne 5, 3) := by decide +kernel
theorem dX12_planksAt_8 : decode cX12_planksAt 8 = .ok (.iconst (-1), 1) := by decide +kernel
theorem dX12_planksAt_9 : decode cX12_planksAt 9 = .ok (.ireturn, 1) := by decide +kernel
theorem dX12_planksAt_10 : decode cX12_planksAt 10 = .ok (.aload_n 0, 1) := by decide +kernel
theorem dX12_planksAt_11 : decode cX12_planksAt 11 = .ok (.getfield 30, 3) := by decide +kernel
theorem dX12_planksAt_14 : decode cX12_planksAt 14 = .ok (.iload_n 1, 1) := by decide +kernel
theorem dX12_planksAt_15 : decode cX12_planksAt 15 = .ok (.iaload, 1) := by decide +kernel
theorem dX12_planksAt_16 : decode cX12_planksAt 16 = .ok (.ifCond .eq 6, 3) := by decide +kernel
theorem dX12_planksAt_19 : decode cX12_planksAt 19 = .ok (.bipush (-2), 2) := by decide +kernel
theorem dX12_planksAt_21 : decode cX12_planksAt 21 = .ok (.ireturn, 1) := by decide +kernel
theorem dX12_planksAt_22 : decode cX12_planksAt 22 = .ok (.aload_n 0, 1) := by decide +kernel
theorem dX12_planksAt_23 : decode cX12_planksAt 23 = .ok (.getfield 43, 3) := by decide +kernel
theorem dX12_planksAt_26 : decode cX12_planksAt 26 = .ok (.iload_n 1, 1) := by decide +kernel
theorem dX12_planksAt_27 : decode cX12_planksAt 27 = .ok (.iconst 1, 1) := by decide +kernel
theorem dX12_planksAt_28 : decode cX12_planksAt 28 = .ok (.aload_n 0, 1) := by decide +kernel
theorem dX12_planksAt_29 : decode cX12_planksAt 29 = .ok (.getfield 43, 3) := by decide +kernel
theorem dX12_planksAt_32 : decode cX12_planksAt 32 = .ok (.iload_n 1, 1) := by decide +kernel
theorem dX12_planksAt_33 : decode cX12_planksAt 33 = .ok (.iaload, 1) := by decide +kernel
theorem dX12_planksAt_34 : decode cX12_planksAt 34 = .ok (.isub, 1) := by decide +kernel
theorem dX12_planksAt_35 : decode cX12_planksAt 35 = .ok (.iastore, 1) := by decide +kernel
theorem dX12_planksAt_36 : decode cX12_planksAt 36 = .ok (.aload_n 0, 1) := by decide +kernel
theorem dX12_planksAt_37 : decode cX12_planksAt 37 = .ok (.aload_n 0, 1) := by decide +kernel
theorem dX12_planksAt_38 : decode cX12_planksAt 38 = .ok (.getfield 43, 3) := by decide +kernel
theorem dX12_planksAt_41 : decode cX12_planksAt 41 = .ok (.invokevirtual 305, 3) := by decide +kernel
theorem dX12_planksAt_44 : decode cX12_planksAt 44 = .ok (.ireturn, 1) := by decide +kernel
theorem dX12_drag_0 : decode cX12_drag 0 = .ok (.aload_n 0, 1) := by decide +kernel
theorem dX12_drag_1 : decode cX12_drag 1 = .ok (.iconst 0, 1) := by decide +kernel
theorem dX12_drag_2 : decode cX12_drag 2 = .ok (.putfield 3, 3) := by decide +kernel
theorem dX12_drag_5 : decode cX12_drag 5 = .ok (.aload_n 0, 1) := by decide +kernel
theorem dX12_drag_6 : decode cX12_drag 6 = .ok (.invokevirtual 308, 3) := by decide +kernel
theorem dX12_drag_9 : decode cX12_drag 9 = .ok (.aload_n 0, 1) := by decide +kernel
theorem dX12_drag_10 : decode cX12_drag 10 = .ok (.aload_n 0, 1) := by decide +kernel
theorem dX12_drag_11 : decode cX12_drag 11 = .ok (.aload_n 0, 1) := by decide +kernel
theorem dX12_drag_12 : decode cX12_drag 12 = .ok (.getfield 43, 3) := by decide +kernel
theorem dX12_drag_15 : decode cX12_drag 15 = .ok (.iload_n 1, 1) := by decide +kernel
theorem dX12_drag_16 : decode cX12_drag 16 = .ok (.iload_n 2, 1) := by decide +kernel
theorem dX12_drag_17 : decode cX12_drag 17 = .ok (.invokevirtual 311, 3) := by decide +kernel
theorem dX12_drag_20 : decode cX12_drag 20 = .ok (.invokevirtual 314, 3) := by decide +kernel
theorem dX12_drag_23 : decode cX12_drag 23 = .ok (.ireturn, 1) := by decide +kernel
theorem dX12_plank_0 : decode cX12_plank 0 = .ok (.aload_n 0, 1) := by decide +kernel
theorem dX12_plank_1 : decode cX12_plank 1 = .ok (.iconst 0, 1) := by decide +kernel
theorem dX12_plank_2 : decode cX12_plank 2 = .ok (.putfield 3, 3) := by decide +kernel
theorem dX12_plank_5 : decode cX12_plank 5 = .ok (.aload_n 0, 1) := by decide +kernel
theorem dX12_plank_6 : decode cX12_plank 6 = .ok (.invokevirtual 308, 3) := by decide +kernel
theorem dX12_plank_9 : decode cX12_plank 9 = .ok (.aload_n 0, 1) := by decide +kernel
theorem dX12_plank_10 : decode cX12_plank 10 = .ok (.aload_n 0, 1) := by decide +kernel
theorem dX12_plank_11 : decode cX12_plank 11 = .ok (.iload_n 1, 1) := by decide +kernel
theorem dX12_plank_12 : decode cX12_plank 12 = .ok (.invokevirtual 317, 3) := by decide +kernel
theorem dX12_plank_15 : decode cX12_plank 15 = .ok (.invokevirtual 314, 3) := by decide +kernel
theorem dX12_plank_18 : decode cX12_plank 18 = .ok (.ireturn, 1) := by decide +kernel
theorem dX12_hours_0 : decode cX12_hours 0 = .ok (.aload_n 0, 1) := by decide +kernel
theorem dX12_hours_1 : decode cX12_hours 1 = .ok (.iconst 0, 1) := by decide +kernel
theorem dX12_hours_2 : decode cX12_hours 2 = .ok (.putfield 3, 3) := by decide +kernel
theorem dX12_hours_5 : decode cX12_hours 5 = .ok (.iload_n 1, 1) := by decide +kernel
theorem dX12_hours_6 : decode cX12_hours 6 = .ok (.i2l, 1) := by decide +kernel
theorem dX12_hours_7 : decode cX12_hours 7 = .ok (.lconst 1, 1) := by decide +kernel
theorem dX12_hours_8 : decode cX12_hours 8 = .ok (.ldc2_w 320, 3) := by decide +kernel
theorem dX12_hours_11 : decode cX12_hours 11 = .ok (.invokestatic 126, 3) := by decide +kernel
theorem dX12_hours_14 : decode cX12_hours 14 = .ok (.ifCond .ne 5, 3) := by decide +kernel
theorem dX12_hours_17 : decode cX12_hours 17 = .ok (.iconst (-1), 1) := by decide +kernel
theorem dX12_hours_18 : decode cX12_hours 18 = .ok (.ireturn, 1) := by decide +kernel
theorem dX12_hours_19 : decode cX12_hours 19 = .ok (.aload_n 0, 1) := by decide +kernel
theorem dX12_hours_20 : decode cX12_hours 20 = .ok (.invokevirtual 308, 3) := by decide +kernel
theorem dX12_hours_23 : decode cX12_hours 23 = .ok (.aload_n 0, 1) := by decide +kernel
theorem dX12_hours_24 : decode cX12_hours 24 = .ok (.getfield 43, 3) := by decide +kernel
theorem dX12_hours_27 : decode cX12_hours 27 = .ok (.bipush 49, 2) := by decide +kernel
theorem dX12_hours_29 : decode cX12_hours 29 = .ok (.iaload, 1) := by decide +kernel
theorem dX12_hours_30 : decode cX12_hours 30 = .ok (.istore_n 2, 1) := by decide +kernel
theorem dX12_hours_31 : decode cX12_hours 31 = .ok (.iconst 0, 1) := by decide +kernel
theorem dX12_hours_32 : decode cX12_hours 32 = .ok (.istore_n 3, 1) := by decide +kernel
theorem dX12_hours_33 : decode cX12_hours 33 = .ok (.iload_n 3, 1) := by decide +kernel
theorem dX12_hours_34 : decode cX12_hours 34 = .ok (.iload_n 1, 1) := by decide +kernel
theorem dX12_hours_35 : decode cX12_hours 35 = .ok (.if_icmp .ge 17, 3) := by decide +kernel
theorem dX12_hours_38 : decode cX12_hours 38 = .ok (.aload_n 0, 1) := by decide +kernel
theorem dX12_hours_39 : decode cX12_hours 39 = .ok (.aload_n 0, 1) := by decide +kernel
theorem dX12_hours_40 : decode cX12_hours 40 = .ok (.getfield 43, 3) := by decide +kernel
theorem dX12_hours_43 : decode cX12_hours 43 = .ok (.invokevirtual 322, 3) := by decide +kernel
theorem dX12_hours_46 : decode cX12_hours 46 = .ok (.iinc 3 1, 3) := by decide +kernel
theorem dX12_hours_49 : decode cX12_hours 49 = .ok (.goto (-16), 3) := by decide +kernel
theorem dX12_hours_52 : decode cX12_hours 52 = .ok (.aload_n 0, 1) := by decide +kernel
theorem dX12_hours_53 : decode cX12_hours 53 = .ok (.iconst 0, 1) := by decide +kernel
theorem dX12_hours_54 : decode cX12_hours 54 = .ok (.putfield 15, 3) := by decide +kernel
theorem dX12_hours_57 : decode cX12_hours 57 = .ok (.aload_n 0, 1) := by decide +kernel
theorem dX12_hours_58 : decode cX12_hours 58 = .ok (.aload_n 0, 1) := by decide +kernel
theorem dX12_hours_59 : decode cX12_hours 59 = .ok (.getfield 43, 3) := by decide +kernel
theorem dX12_hours_62 : decode cX12_hours 62 = .ok (.bipush 49, 2) := by decide +kernel
theorem dX12_hours_64 : decode cX12_hours 64 = .ok (.iaload, 1) := by decide +kernel
theorem dX12_hours_65 : decode cX12_hours 65 = .ok (.iload_n 2, 1) := by decide +kernel
theorem dX12_hours_66 : decode cX12_hours 66 = .ok (.isub, 1) := by decide +kernel
theorem dX12_hours_67 : decode cX12_hours 67 = .ok (.i2l, 1) := by decide +kernel
theorem dX12_hours_68 : decode cX12_hours 68 = .ok (.invokevirtual 326, 3) := by decide +kernel
theorem dX12_hours_71 : decode cX12_hours 71 = .ok (.aload_n 0, 1) := by decide +kernel
theorem dX12_hours_72 : decode cX12_hours 72 = .ok (.bipush 10, 2) := by decide +kernel
theorem dX12_hours_74 : decode cX12_hours 74 = .ok (.aload_n 0, 1) := by decide +kernel
theorem dX12_hours_75 : decode cX12_hours 75 = .ok (.getfield 43, 3) := by decide +kernel
theorem dX12_hours_78 : decode cX12_hours 78 = .ok (.bipush 46, 2) := by decide +kernel
theorem dX12_hours_80 : decode cX12_hours 80 = .ok (.iaload, 1) := by decide +kernel
theorem dX12_hours_81 : decode cX12_hours 81 = .ok (.imul, 1) := by decide +kernel
theorem dX12_hours_82 : decode cX12_hours 82 = .ok (.aload_n 0, 1) := by decide +kernel
theorem dX12_hours_83 : decode cX12_hours 83 = .ok (.getfield 43, 3) := by decide +kernel
theorem dX12_hours_86 : decode cX12_hours 86 = .ok (.bipush 47, 2) := by decide +kernel
theorem dX12_hours_88 : decode cX12_hours 88 = .ok (.iaload, 1) := by decide +kernel
theorem dX12_hours_89 : decode cX12_hours 89 = .ok (.iadd, 1) := by decide +kernel
theorem dX12_hours_90 : decode cX12_hours 90 = .ok (.invokevirtual 299, 3) := by decide +kernel
theorem dX12_hours_93 : decode cX12_hours 93 = .ok (.ireturn, 1) := by decide +kernel
theorem dX12_readsAct_0 : decode cX12_readsAct 0 = .ok (.aload_n 0, 1) := by decide +kernel
theorem dX12_readsAct_1 : decode cX12_readsAct 1 = .ok (.getfield 330, 3) := by decide +kernel
theorem dX12_readsAct_4 : decode cX12_readsAct 4 = .ok (.istore_n 1, 1) := by decide +kernel
theorem dX12_readsAct_5 : decode cX12_readsAct 5 = .ok (.aload_n 0, 1) := by decide +kernel
theorem dX12_readsAct_6 : decode cX12_readsAct 6 = .ok (.getfield 73, 3) := by decide +kernel
theorem dX12_readsAct_9 : decode cX12_readsAct 9 = .ok (.iload_n 1, 1) := by decide +kernel
theorem dX12_readsAct_10 : decode cX12_readsAct 10 = .ok (.aload_n 0, 1) := by decide +kernel
theorem dX12_readsAct_11 : decode cX12_readsAct 11 = .ok (.ldc_w 333, 3) := by decide +kernel
theorem dX12_readsAct_14 : decode cX12_readsAct 14 = .ok (.invokevirtual 232, 3) := by decide +kernel
theorem dX12_readsAct_17 : decode cX12_readsAct 17 = .ok (.iastore, 1) := by decide +kernel
theorem dX12_readsAct_18 : decode cX12_readsAct 18 = .ok (.aload_n 0, 1) := by decide +kernel
theorem dX12_readsAct_19 : decode cX12_readsAct 19 = .ok (.dup, 1) := by decide +kernel
theorem dX12_readsAct_20 : decode cX12_readsAct 20 = .ok (.getfield 330, 3) := by decide +kernel
theorem dX12_readsAct_23 : decode cX12_readsAct 23 = .ok (.iconst 1, 1) := by decide +kernel
theorem dX12_readsAct_24 : decode cX12_readsAct 24 = .ok (.iadd, 1) := by decide +kernel
theorem dX12_readsAct_25 : decode cX12_readsAct 25 = .ok (.putfield 330, 3) := by decide +kernel
theorem dX12_readsAct_28 : decode cX12_readsAct 28 = .ok (.aload_n 0, 1) := by decide +kernel
theorem dX12_readsAct_29 : decode cX12_readsAct 29 = .ok (.getfield 73, 3) := by decide +kernel
theorem dX12_readsAct_32 : decode cX12_readsAct 32 = .ok (.iload_n 1, 1) := by decide +kernel
theorem dX12_readsAct_33 : decode cX12_readsAct 33 = .ok (.iaload, 1) := by decide +kernel
theorem dX12_readsAct_34 : decode cX12_readsAct 34 = .ok (.ifCond .ge 5, 3) := by decide +kernel
theorem dX12_readsAct_37 : decode cX12_readsAct 37 = .ok (.iconst 0, 1) := by decide +kernel
theorem dX12_readsAct_38 : decode cX12_readsAct 38 = .ok (.ireturn, 1) := by decide +kernel
theorem dX12_readsAct_39 : decode cX12_readsAct 39 = .ok (.aload_n 0, 1) := by decide +kernel
theorem dX12_readsAct_40 : decode cX12_readsAct 40 = .ok (.getfield 76, 3) := by decide +kernel
theorem dX12_readsAct_43 : decode cX12_readsAct 43 = .ok (.iload_n 1, 1) := by decide +kernel
theorem dX12_readsAct_44 : decode cX12_readsAct 44 = .ok (.aload_n 0, 1) := by decide +kernel
theorem dX12_readsAct_45 : decode cX12_readsAct 45 = .ok (.getfield 73, 3) := by decide +kernel
theorem dX12_readsAct_48 : decode cX12_readsAct 48 = .ok (.iload_n 1, 1) := by decide +kernel
theorem dX12_readsAct_49 : decode cX12_readsAct 49 = .ok (.iaload, 1) := by decide +kernel
theorem dX12_readsAct_50 : decode cX12_readsAct 50 = .ok (.ifCond .ne 11, 3) := by decide +kernel
theorem dX12_readsAct_53 : decode cX12_readsAct 53 = .ok (.aload_n 0, 1) := by decide +kernel
theorem dX12_readsAct_54 : decode cX12_readsAct 54 = .ok (.iconst 1, 1) := by decide +kernel
theorem dX12_readsAct_55 : decode cX12_readsAct 55 = .ok (.invokevirtual 176, 3) := by decide +kernel
theorem dX12_readsAct_58 : decode cX12_readsAct 58 = .ok (.goto 29, 3) := by decide +kernel
theorem dX12_readsAct_61 : decode cX12_readsAct 61 = .ok (.aload_n 0, 1) := by decide +kernel
theorem dX12_readsAct_62 : decode cX12_readsAct 62 = .ok (.getfield 73, 3) := by decide +kernel
theorem dX12_readsAct_65 : decode cX12_readsAct 65 = .ok (.iload_n 1, 1) := by decide +kernel
theorem dX12_readsAct_66 : decode cX12_readsAct 66 = .ok (.iaload, 1) := by decide +kernel
theorem dX12_readsAct_67 : decode cX12_readsAct 67 = .ok (.iconst 1, 1) := by decide +kernel
theorem dX12_readsAct_68 : decode cX12_readsAct 68 = .ok (.if_icmp .ne 10, 3) := by decide +kernel
theorem dX12_readsAct_71 : decode cX12_readsAct 71 = .ok (.aload_n 0, 1) := by decide +kernel
theorem dX12_readsAct_72 : decode cX12_readsAct 72 = .ok (.invokevirtual 207, 3) := by decide +kernel
theorem dX12_readsAct_75 : decode cX12_readsAct 75 = .ok (.goto 12, 3) := by decide +kernel
theorem dX12_readsAct_78 : decode cX12_readsAct 78 = .ok (.aload_n 0, 1) := by decide +kernel
theorem dX12_readsAct_79 : decode cX12_readsAct 79 = .ok (.bipush 48, 2) := by decide +kernel
theorem dX12_readsAct_81 : decode cX12_readsAct 81 = .ok (.iconst 1, 1) := by decide +kernel
theorem dX12_readsAct_82 : decode cX12_readsAct 82 = .ok (.bipush 9, 2) := by decide +kernel
theorem dX12_readsAct_84 : decode cX12_readsAct 84 = .ok (.invokevirtual 335, 3) := by decide +kernel
theorem dX12_readsAct_87 : decode cX12_readsAct 87 = .ok (.iastore, 1) := by decide +kernel
theorem dX12_readsAct_88 : decode cX12_readsAct 88 = .ok (.aload_n 0, 1) := by decide +kernel
theorem dX12_readsAct_89 : decode cX12_readsAct 89 = .ok (.getfield 76, 3) := by decide +kernel
theorem dX12_readsAct_92 : decode cX12_readsAct 92 = .ok (.iload_n 1, 1) := by decide +kernel
theorem dX12_readsAct_93 : decode cX12_readsAct 93 = .ok (.iaload, 1) := by decide +kernel
theorem dX12_readsAct_94 : decode cX12_readsAct 94 = .ok (.ifCond .lt 12, 3) := by decide +kernel
theorem dX12_readsAct_97 : decode cX12_readsAct 97 = .ok (.aload_n 0, 1) := by decide +kernel
theorem dX12_readsAct_98 : decode cX12_readsAct 98 = .ok (.getfield 73, 3) := by decide +kernel
theorem dX12_readsAct_101 : decode cX12_readsAct 101 = .ok (.iload_n 1, 1) := by decide +kernel
theorem dX12_readsAct_102 : decode cX12_readsAct 102 = .ok (.iaload, 1) := by decide +kernel
theorem dX12_readsAct_103 : decode cX12_readsAct 103 = .ok (.ifCond .le 18, 3) := by decide +kernel
theorem dX12_readsAct_106 : decode cX12_readsAct 106 = .ok (.aload_n 0, 1) := by decide +kernel
theorem dX12_readsAct_107 : decode cX12_readsAct 107 = .ok (.getfield 76, 3) := by decide +kernel
theorem dX12_readsAct_110 : decode cX12_readsAct 110 = .ok (.iload_n 1, 1) := by decide +kernel
theorem dX12_readsAct_111 : decode cX12_readsAct 111 = .ok (.iaload, 1) := by decide +kernel
theorem dX12_readsAct_112 : decode cX12_readsAct 112 = .ok (.ifCond .lt 7, 3) := by decide +kernel
theorem dX12_readsAct_115 : decode cX12_readsAct 115 = .ok (.iconst 1, 1) := by decide +kernel
theorem dX12_readsAct_116 : decode cX12_readsAct 116 = .ok (.goto 4, 3) := by decide +kernel
theorem dX12_readsAct_119 : decode cX12_readsAct 119 = .ok (.iconst 0, 1) := by decide +kernel
theorem dX12_readsAct_120 : decode cX12_readsAct 120 = .ok (.ireturn, 1) := by decide +kernel
theorem dX12_readsAct_121 : decode cX12_readsAct 121 = .ok (.aload_n 0, 1) := by decide +kernel
theorem dX12_readsAct_122 : decode cX12_readsAct 122 = .ok (.getfield 79, 3) := by decide +kernel
theorem dX12_readsAct_125 : decode cX12_readsAct 125 = .ok (.iload_n 1, 1) := by decide +kernel
theorem dX12_readsAct_126 : decode cX12_readsAct 126 = .ok (.aload_n 0, 1) := by decide +kernel
theorem dX12_readsAct_127 : decode cX12_readsAct 127 = .ok (.bipush 48, 2) := by decide +kernel
theorem dX12_readsAct_129 : decode cX12_readsAct 129 = .ok (.iconst 0, 1) := by decide +kernel
theorem dX12_readsAct_130 : decode cX12_readsAct 130 = .ok (.iconst 3, 1) := by decide +kernel
theorem dX12_readsAct_131 : decode cX12_readsAct 131 = .ok (.invokevirtual 335, 3) := by decide +kernel
theorem dX12_readsAct_134 : decode cX12_readsAct 134 = .ok (.iastore, 1) := by decide +kernel
theorem dX12_readsAct_135 : decode cX12_readsAct 135 = .ok (.aload_n 0, 1) := by decide +kernel
theorem dX12_readsAct_136 : decode cX12_readsAct 136 = .ok (.getfield 79, 3) := by decide +kernel
theorem dX12_readsAct_139 : decode cX12_readsAct 139 = .ok (.iload_n 1, 1) := by decide +kernel
theorem dX12_readsAct_140 : decode cX12_readsAct 140 = .ok (.iaload, 1) := by decide +kernel
theorem dX12_readsAct_141 : decode cX12_readsAct 141 = .ok (.ifCond .lt 7, 3) := by decide +kernel
theorem dX12_readsAct_144 : decode cX12_readsAct 144 = .ok (.iconst 1, 1) := by decide +kernel
theorem dX12_readsAct_145 : decode cX12_readsAct 145 = .ok (.goto 4, 3) := by decide +kernel
theorem dX12_readsAct_148 : decode cX12_readsAct 148 = .ok (.iconst 0, 1) := by decide +kernel
theorem dX12_readsAct_149 : decode cX12_readsAct 149 = .ok (.ireturn, 1) := by decide +kernel
theorem dX12_does_0 : decode cX12_does 0 = .ok (.aload_n 0, 1) := by decide +kernel
theorem dX12_does_1 : decode cX12_does 1 = .ok (.getfield 73, 3) := by decide +kernel
theorem dX12_does_4 : decode cX12_does 4 = .ok (.iload_n 1, 1) := by decide +kernel
theorem dX12_does_5 : decode cX12_does 5 = .ok (.iaload, 1) := by decide +kernel
theorem dX12_does_6 : decode cX12_does 6 = .ok (.lookupswitch 74 #[(0, 26), (1, 55)], 26) := by decide +kernel
theorem dX12_does_32 : decode cX12_does 32 = .ok (.aload_n 0, 1) := by decide +kernel
theorem dX12_does_33 : decode cX12_does 33 = .ok (.aload_n 0, 1) := by decide +kernel
theorem dX12_does_34 : decode cX12_does 34 = .ok (.getfield 43, 3) := by decide +kernel
theorem dX12_does_37 : decode cX12_does 37 = .ok (.aload_n 0, 1) := by decide +kernel
theorem dX12_does_38 : decode cX12_does 38 = .ok (.getfield 76, 3) := by decide +kernel
theorem dX12_does_41 : decode cX12_does 41 = .ok (.iload_n 1, 1) := by decide +kernel
theorem dX12_does_42 : decode cX12_does 42 = .ok (.iaload, 1) := by decide +kernel
theorem dX12_does_43 : decode cX12_does 43 = .ok (.aload_n 0, 1) := by decide +kernel
theorem dX12_does_44 : decode cX12_does 44 = .ok (.getfield 79, 3) := by decide +kernel
theorem dX12_does_47 : decode cX12_does 47 = .ok (.iload_n 1, 1) := by decide +kernel
theorem dX12_does_48 : decode cX12_does 48 = .ok (.iaload, 1) := by decide +kernel
theorem dX12_does_49 : decode cX12_does 49 = .ok (.invokevirtual 311, 3) := by decide +kernel
theorem dX12_does_52 : decode cX12_does 52 = .ok (.ifCond .lt 7, 3) := by decide +kernel
theorem dX12_does_55 : decode cX12_does 55 = .ok (.iconst 1, 1) := by decide +kernel
theorem dX12_does_56 : decode cX12_does 56 = .ok (.goto 4, 3) := by decide +kernel
theorem dX12_does_59 : decode cX12_does 59 = .ok (.iconst 0, 1) := by decide +kernel
theorem dX12_does_60 : decode cX12_does 60 = .ok (.ireturn, 1) := by decide +kernel
theorem dX12_does_61 : decode cX12_does 61 = .ok (.aload_n 0, 1) := by decide +kernel
theorem dX12_does_62 : decode cX12_does 62 = .ok (.aload_n 0, 1) := by decide +kernel
theorem dX12_does_63 : decode cX12_does 63 = .ok (.getfield 76, 3) := by decide +kernel
theorem dX12_does_66 : decode cX12_does 66 = .ok (.iload_n 1, 1) := by decide +kernel
theorem dX12_does_67 : decode cX12_does 67 = .ok (.iaload, 1) := by decide +kernel
theorem dX12_does_68 : decode cX12_does 68 = .ok (.invokevirtual 317, 3) := by decide +kernel
theorem dX12_does_71 : decode cX12_does 71 = .ok (.ifCond .lt 7, 3) := by decide +kernel
theorem dX12_does_74 : decode cX12_does 74 = .ok (.iconst 1, 1) := by decide +kernel
theorem dX12_does_75 : decode cX12_does 75 = .ok (.goto 4, 3) := by decide +kernel
theorem dX12_does_78 : decode cX12_does 78 = .ok (.iconst 0, 1) := by decide +kernel
theorem dX12_does_79 : decode cX12_does 79 = .ok (.ireturn, 1) := by decide +kernel
theorem dX12_does_80 : decode cX12_does 80 = .ok (.iconst 0, 1) := by decide +kernel
theorem dX12_does_81 : decode cX12_does 81 = .ok (.istore_n 2, 1) := by decide +kernel
theorem dX12_does_82 : decode cX12_does 82 = .ok (.iload_n 2, 1) := by decide +kernel
theorem dX12_does_83 : decode cX12_does 83 = .ok (.aload_n 0, 1) := by decide +kernel
theorem dX12_does_84 : decode cX12_does 84 = .ok (.getfield 76, 3) := by decide +kernel
theorem dX12_does_87 : decode cX12_does 87 = .ok (.iload_n 1, 1) := by decide +kernel
theorem dX12_does_88 : decode cX12_does 88 = .ok (.iaload, 1) := by decide +kernel
theorem dX12_does_89 : decode cX12_does 89 = .ok (.if_icmp .ge 17, 3) := by decide +kernel
theorem dX12_does_92 : decode cX12_does 92 = .ok (.aload_n 0, 1) := by decide +kernel
theorem dX12_does_93 : decode cX12_does 93 = .ok (.aload_n 0, 1) := by decide +kernel
theorem dX12_does_94 : decode cX12_does 94 = .ok (.getfield 43, 3) := by decide +kernel
theorem dX12_does_97 : decode cX12_does 97 = .ok (.invokevirtual 322, 3) := by decide +kernel
theorem dX12_does_100 : decode cX12_does 100 = .ok (.iinc 2 1, 3) := by decide +kernel
theorem dX12_does_103 : decode cX12_does 103 = .ok (.goto (-21), 3) := by decide +kernel
theorem dX12_does_106 : decode cX12_does 106 = .ok (.iconst 1, 1) := by decide +kernel
theorem dX12_does_107 : decode cX12_does 107 = .ok (.ireturn, 1) := by decide +kernel
theorem dX12_siege_0 : decode cX12_siege 0 = .ok (.aload_n 0, 1) := by decide +kernel
theorem dX12_siege_1 : decode cX12_siege 1 = .ok (.iconst 0, 1) := by decide +kernel
theorem dX12_siege_2 : decode cX12_siege 2 = .ok (.putfield 3, 3) := by decide +kernel
theorem dX12_siege_5 : decode cX12_siege 5 = .ok (.aload_n 0, 1) := by decide +kernel
theorem dX12_siege_6 : decode cX12_siege 6 = .ok (.bipush 60, 2) := by decide +kernel
theorem dX12_siege_8 : decode cX12_siege 8 = .ok (.invokevirtual 185, 3) := by decide +kernel
theorem dX12_siege_11 : decode cX12_siege 11 = .ok (.istore_n 1, 1) := by decide +kernel
theorem dX12_siege_12 : decode cX12_siege 12 = .ok (.aload_n 0, 1) := by decide +kernel
theorem dX12_siege_13 : decode cX12_siege 13 = .ok (.iconst 0, 1) := by decide +kernel
theorem dX12_siege_14 : decode cX12_siege 14 = .ok (.putfield 330, 3) := by decide +kernel
theorem dX12_siege_17 : decode cX12_siege 17 = .ok (.iconst 1, 1) := by decide +kernel
theorem dX12_siege_18 : decode cX12_siege 18 = .ok (.istore_n 2, 1) := by decide +kernel
theorem dX12_siege_19 : decode cX12_siege 19 = .ok (.iload_n 2, 1) := by decide +kernel
theorem dX12_siege_20 : decode cX12_siege 20 = .ok (.ifCond .eq 22, 3) := by decide +kernel
theorem dX12_siege_23 : decode cX12_siege 23 = .ok (.aload_n 0, 1) := by decide +kernel
theorem dX12_siege_24 : decode cX12_siege 24 = .ok (.getfield 136, 3) := by decide +kernel
theorem dX12_siege_27 : decode cX12_siege 27 = .ok (.aload_n 0, 1) := by decide +kernel
theorem dX12_siege_28 : decode cX12_siege 28 = .ok (.getfield 148, 3) := by decide +kernel
theorem dX12_siege_31 : decode cX12_siege 31 = .ok (.if_icmp .ge 11, 3) := by decide +kernel
theorem dX12_siege_34 : decode cX12_siege 34 = .ok (.aload_n 0, 1) := by decide +kernel
theorem dX12_siege_35 : decode cX12_siege 35 = .ok (.invokevirtual 338, 3) := by decide +kernel
theorem dX12_siege_38 : decode cX12_siege 38 = .ok (.istore_n 2, 1) := by decide +kernel
theorem dX12_siege_39 : decode cX12_siege 39 = .ok (.goto (-20), 3) := by decide +kernel
theorem dX12_siege_42 : decode cX12_siege 42 = .ok (.aload_n 0, 1) := by decide +kernel
theorem dX12_siege_43 : decode cX12_siege 43 = .ok (.iload_n 1, 1) := by decide +kernel
theorem dX12_siege_44 : decode cX12_siege 44 = .ok (.bipush 60, 2) := by decide +kernel
theorem dX12_siege_46 : decode cX12_siege 46 = .ok (.iload_n 2, 1) := by decide +kernel
theorem dX12_siege_47 : decode cX12_siege 47 = .ok (.invokevirtual 216, 3) := by decide +kernel
theorem dX12_siege_50 : decode cX12_siege 50 = .ok (.istore_n 3, 1) := by decide +kernel
theorem dX12_siege_51 : decode cX12_siege 51 = .ok (.iload_n 3, 1) := by decide +kernel
theorem dX12_siege_52 : decode cX12_siege 52 = .ok (.ifCond .ge 5, 3) := by decide +kernel
theorem dX12_siege_55 : decode cX12_siege 55 = .ok (.iload_n 3, 1) := by decide +kernel
theorem dX12_siege_56 : decode cX12_siege 56 = .ok (.ireturn, 1) := by decide +kernel
theorem dX12_siege_57 : decode cX12_siege 57 = .ok (.aload_n 0, 1) := by decide +kernel
theorem dX12_siege_58 : decode cX12_siege 58 = .ok (.invokevirtual 308, 3) := by decide +kernel
theorem dX12_siege_61 : decode cX12_siege 61 = .ok (.iconst 0, 1) := by decide +kernel
theorem dX12_siege_62 : decode cX12_siege 62 = .ok (.istore 4, 2) := by decide +kernel
theorem dX12_siege_64 : decode cX12_siege 64 = .ok (.iload 4, 2) := by decide +kernel
theorem dX12_siege_66 : decode cX12_siege 66 = .ok (.aload_n 0, 1) := by decide +kernel
theorem dX12_siege_67 : decode cX12_siege 67 = .ok (.getfield 330, 3) := by decide +kernel
theorem dX12_siege_70 : decode cX12_siege 70 = .ok (.if_icmp .ge 18, 3) := by decide +kernel
theorem dX12_siege_73 : decode cX12_siege 73 = .ok (.aload_n 0, 1) := by decide +kernel
theorem dX12_siege_74 : decode cX12_siege 74 = .ok (.iload 4, 2) := by decide +kernel
theorem dX12_siege_76 : decode cX12_siege 76 = .ok (.invokevirtual 341, 3) := by decide +kernel
theorem dX12_siege_79 : decode cX12_siege 79 = .ok (.ifCond .eq 9, 3) := by decide +kernel
theorem dX12_siege_82 : decode cX12_siege 82 = .ok (.iinc 4 1, 3) := by decide +kernel
theorem dX12_siege_85 : decode cX12_siege 85 = .ok (.goto (-21), 3) := by decide +kernel
theorem dX12_siege_88 : decode cX12_siege 88 = .ok (.aload_n 0, 1) := by decide +kernel
theorem dX12_siege_89 : decode cX12_siege 89 = .ok (.iconst 0, 1) := by decide +kernel
theorem dX12_siege_90 : decode cX12_siege 90 = .ok (.putfield 15, 3) := by decide +kernel
theorem dX12_siege_93 : decode cX12_siege 93 = .ok (.aload_n 0, 1) := by decide +kernel
theorem dX12_siege_94 : decode cX12_siege 94 = .ok (.iload 4, 2) := by decide +kernel
theorem dX12_siege_96 : decode cX12_siege 96 = .ok (.aload_n 0, 1) := by decide +kernel
theorem dX12_siege_97 : decode cX12_siege 97 = .ok (.getfield 330, 3) := by decide +kernel
theorem dX12_siege_100 : decode cX12_siege 100 = .ok (.if_icmp .ge 7, 3) := by decide +kernel
theorem dX12_siege_103 : decode cX12_siege 103 = .ok (.iconst 1, 1) := by decide +kernel
theorem dX12_siege_104 : decode cX12_siege 104 = .ok (.goto 4, 3) := by decide +kernel
theorem dX12_siege_107 : decode cX12_siege 107 = .ok (.iconst 0, 1) := by decide +kernel
theorem dX12_siege_108 : decode cX12_siege 108 = .ok (.invokestatic 151, 3) := by decide +kernel
theorem dX12_siege_111 : decode cX12_siege 111 = .ok (.i2l, 1) := by decide +kernel
theorem dX12_siege_112 : decode cX12_siege 112 = .ok (.invokevirtual 326, 3) := by decide +kernel
theorem dX12_siege_115 : decode cX12_siege 115 = .ok (.aload_n 0, 1) := by decide +kernel
theorem dX12_siege_116 : decode cX12_siege 116 = .ok (.aload_n 0, 1) := by decide +kernel
theorem dX12_siege_117 : decode cX12_siege 117 = .ok (.aload_n 0, 1) := by decide +kernel
theorem dX12_siege_118 : decode cX12_siege 118 = .ok (.getfield 43, 3) := by decide +kernel
theorem dX12_siege_121 : decode cX12_siege 121 = .ok (.invokevirtual 279, 3) := by decide +kernel
theorem dX12_siege_124 : decode cX12_siege 124 = .ok (.invokestatic 344, 3) := by decide +kernel
theorem dX12_siege_127 : decode cX12_siege 127 = .ok (.i2l, 1) := by decide +kernel
theorem dX12_siege_128 : decode cX12_siege 128 = .ok (.invokevirtual 326, 3) := by decide +kernel
theorem dX12_siege_131 : decode cX12_siege 131 = .ok (.iload 4, 2) := by decide +kernel
theorem dX12_siege_133 : decode cX12_siege 133 = .ok (.ifCond .le 12, 3) := by decide +kernel
theorem dX12_siege_136 : decode cX12_siege 136 = .ok (.aload_n 0, 1) := by decide +kernel
theorem dX12_siege_137 : decode cX12_siege 137 = .ok (.iload 4, 2) := by decide +kernel
theorem dX12_siege_139 : decode cX12_siege 139 = .ok (.invokevirtual 299, 3) := by decide +kernel
theorem dX12_siege_142 : decode cX12_siege 142 = .ok (.goto 4, 3) := by decide +kernel
theorem dX12_siege_145 : decode cX12_siege 145 = .ok (.iconst 0, 1) := by decide +kernel
theorem dX12_siege_146 : decode cX12_siege 146 = .ok (.ireturn, 1) := by decide +kernel
theorem dX12_laysPulls_0 : decode cX12_laysPulls 0 = .ok (.iconst 0, 1) := by decide +kernel
theorem dX12_laysPulls_1 : decode cX12_laysPulls 1 = .ok (.istore 5, 2) := by decide +kernel
theorem dX12_laysPulls_3 : decode cX12_laysPulls 3 = .ok (.iload 5, 2) := by decide +kernel
theorem dX12_laysPulls_5 : decode cX12_laysPulls 5 = .ok (.sipush 144, 3) := by decide +kernel
theorem dX12_laysPulls_8 : decode cX12_laysPulls 8 = .ok (.if_icmp .ge 91, 3) := by decide +kernel
theorem dX12_laysPulls_11 : decode cX12_laysPulls 11 = .ok (.iload 5, 2) := by decide +kernel
theorem dX12_laysPulls_13 : decode cX12_laysPulls 13 = .ok (.iconst 4, 1) := by decide +kernel
theorem dX12_laysPulls_14 : decode cX12_laysPulls 14 = .ok (.idiv, 1) := by decide +kernel
theorem dX12_laysPulls_15 : decode cX12_laysPulls 15 = .ok (.istore 6, 2) := by decide +kernel
theorem dX12_laysPulls_17 : decode cX12_laysPulls 17 = .ok (.iload 6, 2) := by decide +kernel
theorem dX12_laysPulls_19 : decode cX12_laysPulls 19 = .ok (.aload_n 0, 1) := by decide +kernel
theorem dX12_laysPulls_20 : decode cX12_laysPulls 20 = .ok (.invokevirtual 122, 3) := by decide +kernel
theorem dX12_laysPulls_23 : decode cX12_laysPulls 23 = .ok (.if_icmp .ge 27, 3) := by decide +kernel
theorem dX12_laysPulls_26 : decode cX12_laysPulls 26 = .ok (.aload_n 0, 1) := by decide +kernel
theorem dX12_laysPulls_27 : decode cX12_laysPulls 27 = .ok (.getfield 30, 3) := by decide +kernel
theorem dX12_laysPulls_30 : decode cX12_laysPulls 30 = .ok (.iload 6, 2) := by decide +kernel
theorem dX12_laysPulls_32 : decode cX12_laysPulls 32 = .ok (.iaload, 1) := by decide +kernel
theorem dX12_laysPulls_33 : decode cX12_laysPulls 33 = .ok (.iconst 3, 1) := by decide +kernel
theorem dX12_laysPulls_34 : decode cX12_laysPulls 34 = .ok (.if_icmp .eq 16, 3) := by decide +kernel
theorem dX12_laysPulls_37 : decode cX12_laysPulls 37 = .ok (.aload_n 0, 1) := by decide +kernel
theorem dX12_laysPulls_38 : decode cX12_laysPulls 38 = .ok (.iload 6, 2) := by decide +kernel
theorem dX12_laysPulls_40 : decode cX12_laysPulls 40 = .ok (.iload 5, 2) := by decide +kernel
theorem dX12_laysPulls_42 : decode cX12_laysPulls 42 = .ok (.iconst 4, 1) := by decide +kernel
theorem dX12_laysPulls_43 : decode cX12_laysPulls 43 = .ok (.irem, 1) := by decide +kernel
theorem dX12_laysPulls_44 : decode cX12_laysPulls 44 = .ok (.invokevirtual 283, 3) := by decide +kernel
theorem dX12_laysPulls_47 : decode cX12_laysPulls 47 = .ok (.goto 4, 3) := by decide +kernel
theorem dX12_laysPulls_50 : decode cX12_laysPulls 50 = .ok (.iconst (-1), 1) := by decide +kernel
theorem dX12_laysPulls_51 : decode cX12_laysPulls 51 = .ok (.istore 7, 2) := by decide +kernel
theorem dX12_laysPulls_53 : decode cX12_laysPulls 53 = .ok (.aload_n 0, 1) := by decide +kernel
theorem dX12_laysPulls_54 : decode cX12_laysPulls 54 = .ok (.getfield 88, 3) := by decide +kernel
theorem dX12_laysPulls_57 : decode cX12_laysPulls 57 = .ok (.iload 5, 2) := by decide +kernel
theorem dX12_laysPulls_59 : decode cX12_laysPulls 59 = .ok (.iload 7, 2) := by decide +kernel
theorem dX12_laysPulls_61 : decode cX12_laysPulls 61 = .ok (.ifCond .lt 14, 3) := by decide +kernel
theorem dX12_laysPulls_64 : decode cX12_laysPulls 64 = .ok (.aload_n 0, 1) := by decide +kernel
theorem dX12_laysPulls_65 : decode cX12_laysPulls 65 = .ok (.getfield 30, 3) := by decide +kernel
theorem dX12_laysPulls_68 : decode cX12_laysPulls 68 = .ok (.iload 7, 2) := by decide +kernel
theorem dX12_laysPulls_70 : decode cX12_laysPulls 70 = .ok (.iaload, 1) := by decide +kernel
theorem dX12_laysPulls_71 : decode cX12_laysPulls 71 = .ok (.iconst 3, 1) := by decide +kernel
theorem dX12_laysPulls_72 : decode cX12_laysPulls 72 = .ok (.if_icmp .ne 7, 3) := by decide +kernel
theorem dX12_laysPulls_75 : decode cX12_laysPulls 75 = .ok (.iconst (-1), 1) := by decide +kernel
theorem dX12_laysPulls_76 : decode cX12_laysPulls 76 = .ok (.goto 16, 3) := by decide +kernel
theorem dX12_laysPulls_79 : decode cX12_laysPulls 79 = .ok (.aload_n 0, 1) := by decide +kernel
theorem dX12_laysPulls_80 : decode cX12_laysPulls 80 = .ok (.aload_n 1, 1) := by decide +kernel
theorem dX12_laysPulls_81 : decode cX12_laysPulls 81 = .ok (.iload_n 2, 1) := by decide +kernel
theorem dX12_laysPulls_82 : decode cX12_laysPulls 82 = .ok (.iload 6, 2) := by decide +kernel
theorem dX12_laysPulls_84 : decode cX12_laysPulls 84 = .ok (.iload 7, 2) := by decide +kernel
theorem dX12_laysPulls_86 : decode cX12_laysPulls 86 = .ok (.iload_n 3, 1) := by decide +kernel
theorem dX12_laysPulls_87 : decode cX12_laysPulls 87 = .ok (.iload 4, 2) := by decide +kernel
theorem dX12_laysPulls_89 : decode cX12_laysPulls 89 = .ok (.invokevirtual 286, 3) := by decide +kernel
theorem dX12_laysPulls_92 : decode cX12_laysPulls 92 = .ok (.iastore, 1) := by decide +kernel
theorem dX12_laysPulls_93 : decode cX12_laysPulls 93 = .ok (.iinc 5 1, 3) := by decide +kernel
theorem dX12_laysPulls_96 : decode cX12_laysPulls 96 = .ok (.goto (-93), 3) := by decide +kernel
theorem dX12_laysPulls_99 : decode cX12_laysPulls 99 = .ok (.return_, 1) := by decide +kernel
theorem dX12_laysHard_0 : decode cX12_laysHard 0 = .ok (.iconst 0, 1) := by decide +kernel
theorem dX12_laysHard_1 : decode cX12_laysHard 1 = .ok (.istore_n 3, 1) := by decide +kernel
theorem dX12_laysHard_2 : decode cX12_laysHard 2 = .ok (.iload_n 3, 1) := by decide +kernel
theorem dX12_laysHard_3 : decode cX12_laysHard 3 = .ok (.bipush 36, 2) := by decide +kernel
theorem dX12_laysHard_5 : decode cX12_laysHard 5 = .ok (.if_icmp .ge 45, 3) := by decide +kernel
theorem dX12_laysHard_8 : decode cX12_laysHard 8 = .ok (.aload_n 0, 1) := by decide +kernel
theorem dX12_laysHard_9 : decode cX12_laysHard 9 = .ok (.getfield 82, 3) := by decide +kernel
theorem dX12_laysHard_12 : decode cX12_laysHard 12 = .ok (.iload_n 3, 1) := by decide +kernel
theorem dX12_laysHard_13 : decode cX12_laysHard 13 = .ok (.iload_n 3, 1) := by decide +kernel
theorem dX12_laysHard_14 : decode cX12_laysHard 14 = .ok (.iload_n 1, 1) := by decide +kernel
theorem dX12_laysHard_15 : decode cX12_laysHard 15 = .ok (.if_icmp .ne 7, 3) := by decide +kernel
theorem dX12_laysHard_18 : decode cX12_laysHard 18 = .ok (.iconst 0, 1) := by decide +kernel
theorem dX12_laysHard_19 : decode cX12_laysHard 19 = .ok (.goto 6, 3) := by decide +kernel
theorem dX12_laysHard_22 : decode cX12_laysHard 22 = .ok (.ldc_w 349, 3) := by decide +kernel
theorem dX12_laysHard_25 : decode cX12_laysHard 25 = .ok (.iastore, 1) := by decide +kernel
theorem dX12_laysHard_26 : decode cX12_laysHard 26 = .ok (.aload_n 0, 1) := by decide +kernel
theorem dX12_laysHard_27 : decode cX12_laysHard 27 = .ok (.getfield 85, 3) := by decide +kernel
theorem dX12_laysHard_30 : decode cX12_laysHard 30 = .ok (.iload_n 3, 1) := by decide +kernel
theorem dX12_laysHard_31 : decode cX12_laysHard 31 = .ok (.iload_n 3, 1) := by decide +kernel
theorem dX12_laysHard_32 : decode cX12_laysHard 32 = .ok (.iload_n 1, 1) := by decide +kernel
theorem dX12_laysHard_33 : decode cX12_laysHard 33 = .ok (.if_icmp .ne 7, 3) := by decide +kernel
theorem dX12_laysHard_36 : decode cX12_laysHard 36 = .ok (.iconst 0, 1) := by decide +kernel
theorem dX12_laysHard_37 : decode cX12_laysHard 37 = .ok (.goto 6, 3) := by decide +kernel
theorem dX12_laysHard_40 : decode cX12_laysHard 40 = .ok (.ldc_w 349, 3) := by decide +kernel
theorem dX12_laysHard_43 : decode cX12_laysHard 43 = .ok (.iastore, 1) := by decide +kernel
theorem dX12_laysHard_44 : decode cX12_laysHard 44 = .ok (.iinc 3 1, 3) := by decide +kernel
theorem dX12_laysHard_47 : decode cX12_laysHard 47 = .ok (.goto (-45), 3) := by decide +kernel
theorem dX12_laysHard_50 : decode cX12_laysHard 50 = .ok (.iconst 1, 1) := by decide +kernel
theorem dX12_laysHard_51 : decode cX12_laysHard 51 = .ok (.istore_n 3, 1) := by decide +kernel
theorem dX12_laysHard_52 : decode cX12_laysHard 52 = .ok (.iload_n 3, 1) := by decide +kernel
theorem dX12_laysHard_53 : decode cX12_laysHard 53 = .ok (.ifCond .eq 134, 3) := by decide +kernel
theorem dX12_laysHard_56 : decode cX12_laysHard 56 = .ok (.iconst 0, 1) := by decide +kernel
theorem dX12_laysHard_57 : decode cX12_laysHard 57 = .ok (.istore_n 3, 1) := by decide +kernel
theorem dX12_laysHard_58 : decode cX12_laysHard 58 = .ok (.iconst 0, 1) := by decide +kernel
theorem dX12_laysHard_59 : decode cX12_laysHard 59 = .ok (.istore 4, 2) := by decide +kernel
theorem dX12_laysHard_61 : decode cX12_laysHard 61 = .ok (.iload 4, 2) := by decide +kernel
theorem dX12_laysHard_63 : decode cX12_laysHard 63 = .ok (.sipush 144, 3) := by decide +kernel
theorem dX12_laysHard_66 : decode cX12_laysHard 66 = .ok (.if_icmp .ge 118, 3) := by decide +kernel
theorem dX12_laysHard_69 : decode cX12_laysHard 69 = .ok (.aload_n 0, 1) := by decide +kernel
theorem dX12_laysHard_70 : decode cX12_laysHard 70 = .ok (.getfield 88, 3) := by decide +kernel
theorem dX12_laysHard_73 : decode cX12_laysHard 73 = .ok (.iload 4, 2) := by decide +kernel
theorem dX12_laysHard_75 : decode cX12_laysHard 75 = .ok (.iaload, 1) := by decide +kernel
theorem dX12_laysHard_76 : decode cX12_laysHard 76 = .ok (.ifCond .lt 102, 3) := by decide +kernel
theorem dX12_laysHard_79 : decode cX12_laysHard 79 = .ok (.iload 4, 2) := by decide +kernel
theorem dX12_laysHard_81 : decode cX12_laysHard 81 = .ok (.iconst 4, 1) := by decide +kernel
theorem dX12_laysHard_82 : decode cX12_laysHard 82 = .ok (.idiv, 1) := by decide +kernel
theorem dX12_laysHard_83 : decode cX12_laysHard 83 = .ok (.istore 5, 2) := by decide +kernel
theorem dX12_laysHard_85 : decode cX12_laysHard 85 = .ok (.aload_n 0, 1) := by decide +kernel
theorem dX12_laysHard_86 : decode cX12_laysHard 86 = .ok (.iload 5, 2) := by decide +kernel
theorem dX12_laysHard_88 : decode cX12_laysHard 88 = .ok (.iload 4, 2) := by decide +kernel
theorem dX12_laysHard_90 : decode cX12_laysHard 90 = .ok (.iconst 4, 1) := by decide +kernel
theorem dX12_laysHard_91 : decode cX12_laysHard 91 = .ok (.irem, 1) := by decide +kernel
theorem dX12_laysHard_92 : decode cX12_laysHard 92 = .ok (.invokevirtual 283, 3) := by decide +kernel
theorem dX12_laysHard_95 : decode cX12_laysHard 95 = .ok (.istore 6, 2) := by decide +kernel
theorem dX12_laysHard_97 : decode cX12_laysHard 97 = .ok (.aload_n 0, 1) := by decide +kernel
theorem dX12_laysHard_98 : decode cX12_laysHard 98 = .ok (.iload 4, 2) := by decide +kernel
theorem dX12_laysHard_100 : decode cX12_laysHard 100 = .ok (.iload 6, 2) := by decide +kernel
theorem dX12_laysHard_102 : decode cX12_laysHard 102 = .ok (.iload_n 2, 1) := by decide +kernel
theorem dX12_laysHard_103 : decode cX12_laysHard 103 = .ok (.invokevirtual 350, 3) := by decide +kernel
theorem dX12_laysHard_106 : decode cX12_laysHard 106 = .ok (.istore 7, 2) := by decide +kernel
theorem dX12_laysHard_108 : decode cX12_laysHard 108 = .ok (.iload 7, 2) := by decide +kernel
theorem dX12_laysHard_110 : decode cX12_laysHard 110 = .ok (.aload_n 0, 1) := by decide +kernel
theorem dX12_laysHard_111 : decode cX12_laysHard 111 = .ok (.getfield 82, 3) := by decide +kernel
theorem dX12_laysHard_114 : decode cX12_laysHard 114 = .ok (.iload 5, 2) := by decide +kernel
theorem dX12_laysHard_116 : decode cX12_laysHard 116 = .ok (.iaload, 1) := by decide +kernel
theorem dX12_laysHard_117 : decode cX12_laysHard 117 = .ok (.if_icmp .lt 34, 3) := by decide +kernel
theorem dX12_laysHard_120 : decode cX12_laysHard 120 = .ok (.iload 7, 2) := by decide +kernel
theorem dX12_laysHard_122 : decode cX12_laysHard 122 = .ok (.aload_n 0, 1) := by decide +kernel
theorem dX12_laysHard_123 : decode cX12_laysHard 123 = .ok (.getfield 82, 3) := by decide +kernel
theorem dX12_laysHard_126 : decode cX12_laysHard 126 = .ok (.iload 5, 2) := by decide +kernel
theorem dX12_laysHard_128 : decode cX12_laysHard 128 = .ok (.iaload, 1) := by decide +kernel
theorem dX12_laysHard_129 : decode cX12_laysHard 129 = .ok (.if_icmp .ne 49, 3) := by decide +kernel
theorem dX12_laysHard_132 : decode cX12_laysHard 132 = .ok (.aload_n 0, 1) := by decide +kernel
theorem dX12_laysHard_133 : decode cX12_laysHard 133 = .ok (.getfield 85, 3) := by decide +kernel
theorem dX12_laysHard_136 : decode cX12_laysHard 136 = .ok (.iload 6, 2) := by decide +kernel
theorem dX12_laysHard_138 : decode cX12_laysHard 138 = .ok (.iaload, 1) := by decide +kernel
theorem dX12_laysHard_139 : decode cX12_laysHard 139 = .ok (.iconst 1, 1) := by decide +kernel
theorem dX12_laysHard_140 : decode cX12_laysHard 140 = .ok (.iadd, 1) := by decide +kernel
theorem dX12_laysHard_141 : decode cX12_laysHard 141 = .ok (.aload_n 0, 1) := by decide +kernel
theorem dX12_laysHard_142 : decode cX12_laysHard 142 = .ok (.getfield 85, 3) := by decide +kernel
theorem dX12_laysHard_145 : decode cX12_laysHard 145 = .ok (.iload 5, 2) := by decide +kernel
theorem dX12_laysHard_147 : decode cX12_laysHard 147 = .ok (.iaload, 1) := by decide +kernel
theorem dX12_laysHard_148 : decode cX12_laysHard 148 = .ok (.if_icmp .ge 30, 3) := by decide +kernel
theorem dX12_laysHard_151 : decode cX12_laysHard 151 = .ok (.aload_n 0, 1) := by decide +kernel
theorem dX12_laysHard_152 : decode cX12_laysHard 152 = .ok (.getfield 82, 3) := by decide +kernel
theorem dX12_laysHard_155 : decode cX12_laysHard 155 = .ok (.iload 5, 2) := by decide +kernel
theorem dX12_laysHard_157 : decode cX12_laysHard 157 = .ok (.iload 7, 2) := by decide +kernel
theorem dX12_laysHard_159 : decode cX12_laysHard 159 = .ok (.iastore, 1) := by decide +kernel
theorem dX12_laysHard_160 : decode cX12_laysHard 160 = .ok (.aload_n 0, 1) := by decide +kernel
theorem dX12_laysHard_161 : decode cX12_laysHard 161 = .ok (.getfield 85, 3) := by decide +kernel
theorem dX12_laysHard_164 : decode cX12_laysHard 164 = .ok (.iload 5, 2) := by decide +kernel
theorem dX12_laysHard_166 : decode cX12_laysHard 166 = .ok (.aload_n 0, 1) := by decide +kernel
theorem dX12_laysHard_167 : decode cX12_laysHard 167 = .ok (.getfield 85, 3) := by decide +kernel
theorem dX12_laysHard_170 : decode cX12_laysHard 170 = .ok (.iload 6, 2) := by decide +kernel
theorem dX12_laysHard_172 : decode cX12_laysHard 172 = .ok (.iaload, 1) := by decide +kernel
theorem dX12_laysHard_173 : decode cX12_laysHard 173 = .ok (.iconst 1, 1) := by decide +kernel
theorem dX12_laysHard_174 : decode cX12_laysHard 174 = .ok (.iadd, 1) := by decide +kernel
theorem dX12_laysHard_175 : decode cX12_laysHard 175 = .ok (.iastore, 1) := by decide +kernel
theorem dX12_laysHard_176 : decode cX12_laysHard 176 = .ok (.iconst 1, 1) := by decide +kernel
theorem dX12_laysHard_177 : decode cX12_laysHard 177 = .ok (.istore_n 3, 1) := by decide +kernel
theorem dX12_laysHard_178 : decode cX12_laysHard 178 = .ok (.iinc 4 1, 3) := by decide +kernel
theorem dX12_laysHard_181 : decode cX12_laysHard 181 = .ok (.goto (-120), 3) := by decide +kernel
theorem dX12_laysHard_184 : decode cX12_laysHard 184 = .ok (.goto (-132), 3) := by decide +kernel
theorem dX12_laysHard_187 : decode cX12_laysHard 187 = .ok (.return_, 1) := by decide +kernel
theorem dX12_hardBy_0 : decode cX12_hardBy 0 = .ok (.aload_n 0, 1) := by decide +kernel
theorem dX12_hardBy_1 : decode cX12_hardBy 1 = .ok (.getfield 82, 3) := by decide +kernel
theorem dX12_hardBy_4 : decode cX12_hardBy 4 = .ok (.iload_n 2, 1) := by decide +kernel
theorem dX12_hardBy_5 : decode cX12_hardBy 5 = .ok (.iaload, 1) := by decide +kernel
theorem dX12_hardBy_6 : decode cX12_hardBy 6 = .ok (.ldc_w 349, 3) := by decide +kernel
theorem dX12_hardBy_9 : decode cX12_hardBy 9 = .ok (.if_icmp .lt 9, 3) := by decide +kernel
theorem dX12_hardBy_12 : decode cX12_hardBy 12 = .ok (.ldc_w 349, 3) := by decide +kernel
theorem dX12_hardBy_15 : decode cX12_hardBy 15 = .ok (.goto 38, 3) := by decide +kernel
theorem dX12_hardBy_18 : decode cX12_hardBy 18 = .ok (.iload_n 3, 1) := by decide +kernel
theorem dX12_hardBy_19 : decode cX12_hardBy 19 = .ok (.ifCond .eq 19, 3) := by decide +kernel
theorem dX12_hardBy_22 : decode cX12_hardBy 22 = .ok (.aload_n 0, 1) := by decide +kernel
theorem dX12_hardBy_23 : decode cX12_hardBy 23 = .ok (.getfield 82, 3) := by decide +kernel
theorem dX12_hardBy_26 : decode cX12_hardBy 26 = .ok (.iload_n 2, 1) := by decide +kernel
theorem dX12_hardBy_27 : decode cX12_hardBy 27 = .ok (.iaload, 1) := by decide +kernel
theorem dX12_hardBy_28 : decode cX12_hardBy 28 = .ok (.aload_n 0, 1) := by decide +kernel
theorem dX12_hardBy_29 : decode cX12_hardBy 29 = .ok (.getfield 88, 3) := by decide +kernel
theorem dX12_hardBy_32 : decode cX12_hardBy 32 = .ok (.iload_n 1, 1) := by decide +kernel
theorem dX12_hardBy_33 : decode cX12_hardBy 33 = .ok (.iaload, 1) := by decide +kernel
theorem dX12_hardBy_34 : decode cX12_hardBy 34 = .ok (.iadd, 1) := by decide +kernel
theorem dX12_hardBy_35 : decode cX12_hardBy 35 = .ok (.goto 18, 3) := by decide +kernel
theorem dX12_hardBy_38 : decode cX12_hardBy 38 = .ok (.aload_n 0, 1) := by decide +kernel
theorem dX12_hardBy_39 : decode cX12_hardBy 39 = .ok (.getfield 82, 3) := by decide +kernel
theorem dX12_hardBy_42 : decode cX12_hardBy 42 = .ok (.iload_n 2, 1) := by decide +kernel
theorem dX12_hardBy_43 : decode cX12_hardBy 43 = .ok (.iaload, 1) := by decide +kernel
theorem dX12_hardBy_44 : decode cX12_hardBy 44 = .ok (.aload_n 0, 1) := by decide +kernel
theorem dX12_hardBy_45 : decode cX12_hardBy 45 = .ok (.getfield 88, 3) := by decide +kernel
theorem dX12_hardBy_48 : decode cX12_hardBy 48 = .ok (.iload_n 1, 1) := by decide +kernel
theorem dX12_hardBy_49 : decode cX12_hardBy 49 = .ok (.iaload, 1) := by decide +kernel
theorem dX12_hardBy_50 : decode cX12_hardBy 50 = .ok (.invokestatic 258, 3) := by decide +kernel
theorem dX12_hardBy_53 : decode cX12_hardBy 53 = .ok (.ireturn, 1) := by decide +kernel
theorem dX12_laysMany_0 : decode cX12_laysMany 0 = .ok (.iconst 0, 1) := by decide +kernel
theorem dX12_laysMany_1 : decode cX12_laysMany 1 = .ok (.istore_n 3, 1) := by decide +kernel
theorem dX12_laysMany_2 : decode cX12_laysMany 2 = .ok (.iload_n 3, 1) := by decide +kernel
theorem dX12_laysMany_3 : decode cX12_laysMany 3 = .ok (.bipush 36, 2) := by decide +kernel
theorem dX12_laysMany_5 : decode cX12_laysMany 5 = .ok (.if_icmp .ge 27, 3) := by decide +kernel
theorem dX12_laysMany_8 : decode cX12_laysMany 8 = .ok (.aload_n 0, 1) := by decide +kernel
theorem dX12_laysMany_9 : decode cX12_laysMany 9 = .ok (.getfield 85, 3) := by decide +kernel
theorem dX12_laysMany_12 : decode cX12_laysMany 12 = .ok (.iload_n 3, 1) := by decide +kernel
theorem dX12_laysMany_13 : decode cX12_laysMany 13 = .ok (.iload_n 3, 1) := by decide +kernel
theorem dX12_laysMany_14 : decode cX12_laysMany 14 = .ok (.iload_n 1, 1) := by decide +kernel
theorem dX12_laysMany_15 : decode cX12_laysMany 15 = .ok (.if_icmp .ne 7, 3) := by decide +kernel
theorem dX12_laysMany_18 : decode cX12_laysMany 18 = .ok (.iconst 0, 1) := by decide +kernel
theorem dX12_laysMany_19 : decode cX12_laysMany 19 = .ok (.goto 6, 3) := by decide +kernel
theorem dX12_laysMany_22 : decode cX12_laysMany 22 = .ok (.ldc_w 349, 3) := by decide +kernel
theorem dX12_laysMany_25 : decode cX12_laysMany 25 = .ok (.iastore, 1) := by decide +kernel
theorem dX12_laysMany_26 : decode cX12_laysMany 26 = .ok (.iinc 3 1, 3) := by decide +kernel
theorem dX12_laysMany_29 : decode cX12_laysMany 29 = .ok (.goto (-27), 3) := by decide +kernel
theorem dX12_laysMany_32 : decode cX12_laysMany 32 = .ok (.iconst 1, 1) := by decide +kernel
theorem dX12_laysMany_33 : decode cX12_laysMany 33 = .ok (.istore_n 3, 1) := by decide +kernel
theorem dX12_laysMany_34 : decode cX12_laysMany 34 = .ok (.iload_n 3, 1) := by decide +kernel
theorem dX12_laysMany_35 : decode cX12_laysMany 35 = .ok (.ifCond .eq 107, 3) := by decide +kernel
theorem dX12_laysMany_38 : decode cX12_laysMany 38 = .ok (.iconst 0, 1) := by decide +kernel
theorem dX12_laysMany_39 : decode cX12_laysMany 39 = .ok (.istore_n 3, 1) := by decide +kernel
theorem dX12_laysMany_40 : decode cX12_laysMany 40 = .ok (.iconst 0, 1) := by decide +kernel
theorem dX12_laysMany_41 : decode cX12_laysMany 41 = .ok (.istore 4, 2) := by decide +kernel
theorem dX12_laysMany_43 : decode cX12_laysMany 43 = .ok (.iload 4, 2) := by decide +kernel
theorem dX12_laysMany_45 : decode cX12_laysMany 45 = .ok (.sipush 144, 3) := by decide +kernel
theorem dX12_laysMany_48 : decode cX12_laysMany 48 = .ok (.if_icmp .ge 91, 3) := by decide +kernel
theorem dX12_laysMany_51 : decode cX12_laysMany 51 = .ok (.aload_n 0, 1) := by decide +kernel
theorem dX12_laysMany_52 : decode cX12_laysMany 52 = .ok (.getfield 88, 3) := by decide +kernel
theorem dX12_laysMany_55 : decode cX12_laysMany 55 = .ok (.iload 4, 2) := by decide +kernel
theorem dX12_laysMany_57 : decode cX12_laysMany 57 = .ok (.iaload, 1) := by decide +kernel
theorem dX12_laysMany_58 : decode cX12_laysMany 58 = .ok (.ifCond .lt 75, 3) := by decide +kernel
theorem dX12_laysMany_61 : decode cX12_laysMany 61 = .ok (.aload_n 0, 1) := by decide +kernel
theorem dX12_laysMany_62 : decode cX12_laysMany 62 = .ok (.getfield 88, 3) := by decide +kernel
theorem dX12_laysMany_65 : decode cX12_laysMany 65 = .ok (.iload 4, 2) := by decide +kernel
theorem dX12_laysMany_67 : decode cX12_laysMany 67 = .ok (.iaload, 1) := by decide +kernel
theorem dX12_laysMany_68 : decode cX12_laysMany 68 = .ok (.iload_n 2, 1) := by decide +kernel
theorem dX12_laysMany_69 : decode cX12_laysMany 69 = .ok (.if_icmp .gt 64, 3) := by decide +kernel
theorem dX12_laysMany_72 : decode cX12_laysMany 72 = .ok (.aload_n 0, 1) := by decide +kernel
theorem dX12_laysMany_73 : decode cX12_laysMany 73 = .ok (.getfield 85, 3) := by decide +kernel
theorem dX12_laysMany_76 : decode cX12_laysMany 76 = .ok (.aload_n 0, 1) := by decide +kernel
theorem dX12_laysMany_77 : decode cX12_laysMany 77 = .ok (.iload 4, 2) := by decide +kernel
theorem dX12_laysMany_79 : decode cX12_laysMany 79 = .ok (.iconst 4, 1) := by decide +kernel
theorem dX12_laysMany_80 : decode cX12_laysMany 80 = .ok (.idiv, 1) := by decide +kernel
theorem dX12_laysMany_81 : decode cX12_laysMany 81 = .ok (.iload 4, 2) := by decide +kernel
theorem dX12_laysMany_83 : decode cX12_laysMany 83 = .ok (.iconst 4, 1) := by decide +kernel
theorem dX12_laysMany_84 : decode cX12_laysMany 84 = .ok (.irem, 1) := by decide +kernel
theorem dX12_laysMany_85 : decode cX12_laysMany 85 = .ok (.invokevirtual 283, 3) := by decide +kernel
theorem dX12_laysMany_88 : decode cX12_laysMany 88 = .ok (.iaload, 1) := by decide +kernel
theorem dX12_laysMany_89 : decode cX12_laysMany 89 = .ok (.iconst 1, 1) := by decide +kernel
theorem dX12_laysMany_90 : decode cX12_laysMany 90 = .ok (.iadd, 1) := by decide +kernel
theorem dX12_laysMany_91 : decode cX12_laysMany 91 = .ok (.aload_n 0, 1) := by decide +kernel
theorem dX12_laysMany_92 : decode cX12_laysMany 92 = .ok (.getfield 85, 3) := by decide +kernel
theorem dX12_laysMany_95 : decode cX12_laysMany 95 = .ok (.iload 4, 2) := by decide +kernel
theorem dX12_laysMany_97 : decode cX12_laysMany 97 = .ok (.iconst 4, 1) := by decide +kernel
theorem dX12_laysMany_98 : decode cX12_laysMany 98 = .ok (.idiv, 1) := by decide +kernel
theorem dX12_laysMany_99 : decode cX12_laysMany 99 = .ok (.iaload, 1) := by decide +kernel
theorem dX12_laysMany_100 : decode cX12_laysMany 100 = .ok (.if_icmp .ge 33, 3) := by decide +kernel
theorem dX12_laysMany_103 : decode cX12_laysMany 103 = .ok (.aload_n 0, 1) := by decide +kernel
theorem dX12_laysMany_104 : decode cX12_laysMany 104 = .ok (.getfield 85, 3) := by decide +kernel
theorem dX12_laysMany_107 : decode cX12_laysMany 107 = .ok (.iload 4, 2) := by decide +kernel
theorem dX12_laysMany_109 : decode cX12_laysMany 109 = .ok (.iconst 4, 1) := by decide +kernel
theorem dX12_laysMany_110 : decode cX12_laysMany 110 = .ok (.idiv, 1) := by decide +kernel
theorem dX12_laysMany_111 : decode cX12_laysMany 111 = .ok (.aload_n 0, 1) := by decide +kernel
theorem dX12_laysMany_112 : decode cX12_laysMany 112 = .ok (.getfield 85, 3) := by decide +kernel
theorem dX12_laysMany_115 : decode cX12_laysMany 115 = .ok (.aload_n 0, 1) := by decide +kernel
theorem dX12_laysMany_116 : decode cX12_laysMany 116 = .ok (.iload 4, 2) := by decide +kernel
theorem dX12_laysMany_118 : decode cX12_laysMany 118 = .ok (.iconst 4, 1) := by decide +kernel
theorem dX12_laysMany_119 : decode cX12_laysMany 119 = .ok (.idiv, 1) := by decide +kernel
theorem dX12_laysMany_120 : decode cX12_laysMany 120 = .ok (.iload 4, 2) := by decide +kernel
theorem dX12_laysMany_122 : decode cX12_laysMany 122 = .ok (.iconst 4, 1) := by decide +kernel
theorem dX12_laysMany_123 : decode cX12_laysMany 123 = .ok (.irem, 1) := by decide +kernel
theorem dX12_laysMany_124 : decode cX12_laysMany 124 = .ok (.invokevirtual 283, 3) := by decide +kernel
theorem dX12_laysMany_127 : decode cX12_laysMany 127 = .ok (.iaload, 1) := by decide +kernel
theorem dX12_laysMany_128 : decode cX12_laysMany 128 = .ok (.iconst 1, 1) := by decide +kernel
theorem dX12_laysMany_129 : decode cX12_laysMany 129 = .ok (.iadd, 1) := by decide +kernel
theorem dX12_laysMany_130 : decode cX12_laysMany 130 = .ok (.iastore, 1) := by decide +kernel
theorem dX12_laysMany_131 : decode cX12_laysMany 131 = .ok (.iconst 1, 1) := by decide +kernel
theorem dX12_laysMany_132 : decode cX12_laysMany 132 = .ok (.istore_n 3, 1) := by decide +kernel
theorem dX12_laysMany_133 : decode cX12_laysMany 133 = .ok (.iinc 4 1, 3) := by decide +kernel
theorem dX12_laysMany_136 : decode cX12_laysMany 136 = .ok (.goto (-93), 3) := by decide +kernel
theorem dX12_laysMany_139 : decode cX12_laysMany 139 = .ok (.goto (-105), 3) := by decide +kernel
theorem dX12_laysMany_142 : decode cX12_laysMany 142 = .ok (.return_, 1) := by decide +kernel
theorem dX12_isWeighed_0 : decode cX12_isWeighed 0 = .ok (.iload_n 1, 1) := by decide +kernel
theorem dX12_isWeighed_1 : decode cX12_isWeighed 1 = .ok (.i2l, 1) := by decide +kernel
theorem dX12_isWeighed_2 : decode cX12_isWeighed 2 = .ok (.lconst 1, 1) := by decide +kernel
theorem dX12_isWeighed_3 : decode cX12_isWeighed 3 = .ok (.ldc2_w 353, 3) := by decide +kernel
theorem dX12_isWeighed_6 : decode cX12_isWeighed 6 = .ok (.invokestatic 126, 3) := by decide +kernel
theorem dX12_isWeighed_9 : decode cX12_isWeighed 9 = .ok (.ifCond .eq 23, 3) := by decide +kernel
theorem dX12_isWeighed_12 : decode cX12_isWeighed 12 = .ok (.aload_n 0, 1) := by decide +kernel
theorem dX12_isWeighed_13 : decode cX12_isWeighed 13 = .ok (.iload_n 2, 1) := by decide +kernel
theorem dX12_isWeighed_14 : decode cX12_isWeighed 14 = .ok (.invokevirtual 210, 3) := by decide +kernel
theorem dX12_isWeighed_17 : decode cX12_isWeighed 17 = .ok (.ifCond .eq 15, 3) := by decide +kernel
theorem dX12_isWeighed_20 : decode cX12_isWeighed 20 = .ok (.aload_n 0, 1) := by decide +kernel
theorem dX12_isWeighed_21 : decode cX12_isWeighed 21 = .ok (.iload_n 3, 1) := by decide +kernel
theorem dX12_isWeighed_22 : decode cX12_isWeighed 22 = .ok (.invokevirtual 210, 3) := by decide +kernel
theorem dX12_isWeighed_25 : decode cX12_isWeighed 25 = .ok (.ifCond .eq 7, 3) := by decide +kernel
theorem dX12_isWeighed_28 : decode cX12_isWeighed 28 = .ok (.iconst 1, 1) := by decide +kernel
theorem dX12_isWeighed_29 : decode cX12_isWeighed 29 = .ok (.goto 4, 3) := by decide +kernel
theorem dX12_isWeighed_32 : decode cX12_isWeighed 32 = .ok (.iconst 0, 1) := by decide +kernel
theorem dX12_isWeighed_33 : decode cX12_isWeighed 33 = .ok (.ireturn, 1) := by decide +kernel
theorem dX12_isRock_0 : decode cX12_isRock 0 = .ok (.aload_n 0, 1) := by decide +kernel
theorem dX12_isRock_1 : decode cX12_isRock 1 = .ok (.getfield 30, 3) := by decide +kernel
theorem dX12_isRock_4 : decode cX12_isRock 4 = .ok (.iload_n 1, 1) := by decide +kernel
theorem dX12_isRock_5 : decode cX12_isRock 5 = .ok (.iaload, 1) := by decide +kernel
theorem dX12_isRock_6 : decode cX12_isRock 6 = .ok (.iconst 3, 1) := by decide +kernel
theorem dX12_isRock_7 : decode cX12_isRock 7 = .ok (.if_icmp .eq 13, 3) := by decide +kernel
theorem dX12_isRock_10 : decode cX12_isRock 10 = .ok (.aload_n 0, 1) := by decide +kernel
theorem dX12_isRock_11 : decode cX12_isRock 11 = .ok (.getfield 30, 3) := by decide +kernel
theorem dX12_isRock_14 : decode cX12_isRock 14 = .ok (.iload_n 2, 1) := by decide +kernel
theorem dX12_isRock_15 : decode cX12_isRock 15 = .ok (.iaload, 1) := by decide +kernel
theorem dX12_isRock_16 : decode cX12_isRock 16 = .ok (.iconst 3, 1) := by decide +kernel
theorem dX12_isRock_17 : decode cX12_isRock 17 = .ok (.if_icmp .ne 7, 3) := by decide +kernel
theorem dX12_isRock_20 : decode cX12_isRock 20 = .ok (.iconst 1, 1) := by decide +kernel
theorem dX12_isRock_21 : decode cX12_isRock 21 = .ok (.goto 4, 3) := by decide +kernel
theorem dX12_isRock_24 : decode cX12_isRock 24 = .ok (.iconst 0, 1) := by decide +kernel
theorem dX12_isRock_25 : decode cX12_isRock 25 = .ok (.ireturn, 1) := by decide +kernel
theorem dX12_way_0 : decode cX12_way 0 = .ok (.aload_n 0, 1) := by decide +kernel
theorem dX12_way_1 : decode cX12_way 1 = .ok (.iconst 0, 1) := by decide +kernel
theorem dX12_way_2 : decode cX12_way 2 = .ok (.putfield 3, 3) := by decide +kernel
theorem dX12_way_5 : decode cX12_way 5 = .ok (.aload_n 0, 1) := by decide +kernel
theorem dX12_way_6 : decode cX12_way 6 = .ok (.iload_n 1, 1) := by decide +kernel
theorem dX12_way_7 : decode cX12_way 7 = .ok (.iload_n 2, 1) := by decide +kernel
theorem dX12_way_8 : decode cX12_way 8 = .ok (.iload_n 3, 1) := by decide +kernel
theorem dX12_way_9 : decode cX12_way 9 = .ok (.invokevirtual 355, 3) := by decide +kernel
theorem dX12_way_12 : decode cX12_way 12 = .ok (.ifCond .ne 5, 3) := by decide +kernel
theorem dX12_way_15 : decode cX12_way 15 = .ok (.iconst (-1), 1) := by decide +kernel
theorem dX12_way_16 : decode cX12_way 16 = .ok (.ireturn, 1) := by decide +kernel
theorem dX12_way_17 : decode cX12_way 17 = .ok (.aload_n 0, 1) := by decide +kernel
theorem dX12_way_18 : decode cX12_way 18 = .ok (.aload_n 0, 1) := by decide +kernel
theorem dX12_way_19 : decode cX12_way 19 = .ok (.getfield 43, 3) := by decide +kernel
theorem dX12_way_22 : decode cX12_way 22 = .ok (.iload_n 1, 1) := by decide +kernel
theorem dX12_way_23 : decode cX12_way 23 = .ok (.aload_n 0, 1) := by decide +kernel
theorem dX12_way_24 : decode cX12_way 24 = .ok (.getfield 43, 3) := by decide +kernel
theorem dX12_way_27 : decode cX12_way 27 = .ok (.bipush 46, 2) := by decide +kernel
theorem dX12_way_29 : decode cX12_way 29 = .ok (.iaload, 1) := by decide +kernel
theorem dX12_way_30 : decode cX12_way 30 = .ok (.aload_n 0, 1) := by decide +kernel
theorem dX12_way_31 : decode cX12_way 31 = .ok (.getfield 43, 3) := by decide +kernel
theorem dX12_way_34 : decode cX12_way 34 = .ok (.bipush 47, 2) := by decide +kernel
theorem dX12_way_36 : decode cX12_way 36 = .ok (.iaload, 1) := by decide +kernel
theorem dX12_way_37 : decode cX12_way 37 = .ok (.invokevirtual 359, 3) := by decide +kernel
theorem dX12_way_40 : decode cX12_way 40 = .ok (.aload_n 0, 1) := by decide +kernel
theorem dX12_way_41 : decode cX12_way 41 = .ok (.iload_n 3, 1) := by decide +kernel
theorem dX12_way_42 : decode cX12_way 42 = .ok (.iconst 0, 1) := by decide +kernel
theorem dX12_way_43 : decode cX12_way 43 = .ok (.invokevirtual 363, 3) := by decide +kernel
theorem dX12_way_46 : decode cX12_way 46 = .ok (.aload_n 0, 1) := by decide +kernel
theorem dX12_way_47 : decode cX12_way 47 = .ok (.iload_n 2, 1) := by decide +kernel
theorem dX12_way_48 : decode cX12_way 48 = .ok (.iload_n 3, 1) := by decide +kernel
theorem dX12_way_49 : decode cX12_way 49 = .ok (.invokevirtual 367, 3) := by decide +kernel
theorem dX12_way_52 : decode cX12_way 52 = .ok (.ifCond .ne 15, 3) := by decide +kernel
theorem dX12_way_55 : decode cX12_way 55 = .ok (.aload_n 0, 1) := by decide +kernel
theorem dX12_way_56 : decode cX12_way 56 = .ok (.getfield 82, 3) := by decide +kernel
theorem dX12_way_59 : decode cX12_way 59 = .ok (.iload_n 2, 1) := by decide +kernel
theorem dX12_way_60 : decode cX12_way 60 = .ok (.iaload, 1) := by decide +kernel
theorem dX12_way_61 : decode cX12_way 61 = .ok (.ldc_w 349, 3) := by decide +kernel
theorem dX12_way_64 : decode cX12_way 64 = .ok (.if_icmp .lt 6, 3) := by decide +kernel
theorem dX12_way_67 : decode cX12_way 67 = .ok (.bipush (-2), 2) := by decide +kernel
theorem dX12_way_69 : decode cX12_way 69 = .ok (.ireturn, 1) := by decide +kernel
theorem dX12_way_70 : decode cX12_way 70 = .ok (.aload_n 0, 1) := by decide +kernel
theorem dX12_way_71 : decode cX12_way 71 = .ok (.getfield 82, 3) := by decide +kernel
theorem dX12_way_74 : decode cX12_way 74 = .ok (.iload_n 2, 1) := by decide +kernel
theorem dX12_way_75 : decode cX12_way 75 = .ok (.iaload, 1) := by decide +kernel
theorem dX12_way_76 : decode cX12_way 76 = .ok (.istore 4, 2) := by decide +kernel
theorem dX12_way_78 : decode cX12_way 78 = .ok (.aload_n 0, 1) := by decide +kernel
theorem dX12_way_79 : decode cX12_way 79 = .ok (.iload_n 3, 1) := by decide +kernel
theorem dX12_way_80 : decode cX12_way 80 = .ok (.iload 4, 2) := by decide +kernel
theorem dX12_way_82 : decode cX12_way 82 = .ok (.invokevirtual 370, 3) := by decide +kernel
theorem dX12_way_85 : decode cX12_way 85 = .ok (.aload_n 0, 1) := by decide +kernel
theorem dX12_way_86 : decode cX12_way 86 = .ok (.iconst 0, 1) := by decide +kernel
theorem dX12_way_87 : decode cX12_way 87 = .ok (.putfield 15, 3) := by decide +kernel
theorem dX12_way_90 : decode cX12_way 90 = .ok (.iload_n 2, 1) := by decide +kernel
theorem dX12_way_91 : decode cX12_way 91 = .ok (.istore 5, 2) := by decide +kernel
theorem dX12_way_93 : decode cX12_way 93 = .ok (.aload_n 0, 1) := by decide +kernel
theorem dX12_way_94 : decode cX12_way 94 = .ok (.iload 5, 2) := by decide +kernel
theorem dX12_way_96 : decode cX12_way 96 = .ok (.i2l, 1) := by decide +kernel
theorem dX12_way_97 : decode cX12_way 97 = .ok (.invokevirtual 326, 3) := by decide +kernel
theorem dX12_way_100 : decode cX12_way 100 = .ok (.iload 5, 2) := by decide +kernel
theorem dX12_way_102 : decode cX12_way 102 = .ok (.iload_n 3, 1) := by decide +kernel
theorem dX12_way_103 : decode cX12_way 103 = .ok (.if_icmp .eq 123, 3) := by decide +kernel
theorem dX12_way_106 : decode cX12_way 106 = .ok (.bipush 36, 2) := by decide +kernel
theorem dX12_way_108 : decode cX12_way 108 = .ok (.istore 6, 2) := by decide +kernel
theorem dX12_way_110 : decode cX12_way 110 = .ok (.iconst 0, 1) := by decide +kernel
theorem dX12_way_111 : decode cX12_way 111 = .ok (.istore 7, 2) := by decide +kernel
theorem dX12_way_113 : decode cX12_way 113 = .ok (.iload 7, 2) := by decide +kernel
theorem dX12_way_115 : decode cX12_way 115 = .ok (.iconst 4, 1) := by decide +kernel
theorem dX12_way_116 : decode cX12_way 116 = .ok (.if_icmp .ge 96, 3) := by decide +kernel
theorem dX12_way_119 : decode cX12_way 119 = .ok (.aload_n 0, 1) := by decide +kernel
theorem dX12_way_120 : decode cX12_way 120 = .ok (.iload 5, 2) := by decide +kernel
theorem dX12_way_122 : decode cX12_way 122 = .ok (.iload 7, 2) := by decide +kernel
theorem dX12_way_124 : decode cX12_way 124 = .ok (.invokevirtual 283, 3) := by decide +kernel
theorem dX12_way_127 : decode cX12_way 127 = .ok (.istore 8, 2) := by decide +kernel
theorem dX12_way_129 : decode cX12_way 129 = .ok (.aload_n 0, 1) := by decide +kernel
theorem dX12_way_130 : decode cX12_way 130 = .ok (.getfield 88, 3) := by decide +kernel
theorem dX12_way_133 : decode cX12_way 133 = .ok (.iconst 4, 1) := by decide +kernel
theorem dX12_way_134 : decode cX12_way 134 = .ok (.iload 5, 2) := by decide +kernel
theorem dX12_way_136 : decode cX12_way 136 = .ok (.imul, 1) := by decide +kernel
theorem dX12_way_137 : decode cX12_way 137 = .ok (.iload 7, 2) := by decide +kernel
theorem dX12_way_139 : decode cX12_way 139 = .ok (.iadd, 1) := by decide +kernel
theorem dX12_way_140 : decode cX12_way 140 = .ok (.iaload, 1) := by decide +kernel
theorem dX12_way_141 : decode cX12_way 141 = .ok (.ifCond .lt 43, 3) := by decide +kernel
theorem dX12_way_144 : decode cX12_way 144 = .ok (.aload_n 0, 1) := by decide +kernel
theorem dX12_way_145 : decode cX12_way 145 = .ok (.getfield 88, 3) := by decide +kernel
theorem dX12_way_148 : decode cX12_way 148 = .ok (.iconst 4, 1) := by decide +kernel
theorem dX12_way_149 : decode cX12_way 149 = .ok (.iload 5, 2) := by decide +kernel
theorem dX12_way_151 : decode cX12_way 151 = .ok (.imul, 1) := by decide +kernel
theorem dX12_way_152 : decode cX12_way 152 = .ok (.iload 7, 2) := by decide +kernel
theorem dX12_way_154 : decode cX12_way 154 = .ok (.iadd, 1) := by decide +kernel
theorem dX12_way_155 : decode cX12_way 155 = .ok (.iaload, 1) := by decide +kernel
theorem dX12_way_156 : decode cX12_way 156 = .ok (.iload 4, 2) := by decide +kernel
theorem dX12_way_158 : decode cX12_way 158 = .ok (.if_icmp .gt 26, 3) := by decide +kernel
theorem dX12_way_161 : decode cX12_way 161 = .ok (.aload_n 0, 1) := by decide +kernel
theorem dX12_way_162 : decode cX12_way 162 = .ok (.getfield 85, 3) := by decide +kernel
