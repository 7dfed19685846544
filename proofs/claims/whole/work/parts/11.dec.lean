/-! instructions, decoded -/
theorem dX11_readLine_47 : decode cX11_readLine 47 = .ok (.invokevirtual 166, 3) := by decide +kernel
theorem dX11_readLine_50 : decode cX11_readLine 50 = .ok (.istore_n 3, 1) := by decide +kernel
theorem dX11_readLine_51 : decode cX11_readLine 51 = .ok (.iload_n 3, 1) := by decide +kernel
theorem dX11_readLine_52 : decode cX11_readLine 52 = .ok (.iconst (-1), 1) := by decide +kernel
theorem dX11_readLine_53 : decode cX11_readLine 53 = .ok (.if_icmp .ne 5, 3) := by decide +kernel
theorem dX11_readLine_56 : decode cX11_readLine 56 = .ok (.iconst 0, 1) := by decide +kernel
theorem dX11_readLine_57 : decode cX11_readLine 57 = .ok (.ireturn, 1) := by decide +kernel
theorem dX11_readLine_58 : decode cX11_readLine 58 = .ok (.aload_n 0, 1) := by decide +kernel
theorem dX11_readLine_59 : decode cX11_readLine 59 = .ok (.getfield 85, 3) := by decide +kernel
theorem dX11_readLine_62 : decode cX11_readLine 62 = .ok (.iload_n 3, 1) := by decide +kernel
theorem dX11_readLine_63 : decode cX11_readLine 63 = .ok (.invokevirtual 169, 3) := by decide +kernel
theorem dX11_readLine_66 : decode cX11_readLine 66 = .ok (.ifCond .eq 15, 3) := by decide +kernel
theorem dX11_readLine_69 : decode cX11_readLine 69 = .ok (.aload_n 0, 1) := by decide +kernel
theorem dX11_readLine_70 : decode cX11_readLine 70 = .ok (.getfield 85, 3) := by decide +kernel
theorem dX11_readLine_73 : decode cX11_readLine 73 = .ok (.iload_n 3, 1) := by decide +kernel
theorem dX11_readLine_74 : decode cX11_readLine 74 = .ok (.invokevirtual 172, 3) := by decide +kernel
theorem dX11_readLine_77 : decode cX11_readLine 77 = .ok (.iconst 1, 1) := by decide +kernel
theorem dX11_readLine_78 : decode cX11_readLine 78 = .ok (.if_icmp .eq 12, 3) := by decide +kernel
theorem dX11_readLine_81 : decode cX11_readLine 81 = .ok (.aload_n 0, 1) := by decide +kernel
theorem dX11_readLine_82 : decode cX11_readLine 82 = .ok (.getfield 10, 3) := by decide +kernel
theorem dX11_readLine_85 : decode cX11_readLine 85 = .ok (.invokevirtual 163, 3) := by decide +kernel
theorem dX11_readLine_88 : decode cX11_readLine 88 = .ok (.iconst 0, 1) := by decide +kernel
theorem dX11_readLine_89 : decode cX11_readLine 89 = .ok (.ireturn, 1) := by decide +kernel
theorem dX11_readLine_90 : decode cX11_readLine 90 = .ok (.aload_n 0, 1) := by decide +kernel
theorem dX11_readLine_91 : decode cX11_readLine 91 = .ok (.getfield 40, 3) := by decide +kernel
theorem dX11_readLine_94 : decode cX11_readLine 94 = .ok (.iload_n 1, 1) := by decide +kernel
theorem dX11_readLine_95 : decode cX11_readLine 95 = .ok (.iload_n 2, 1) := by decide +kernel
theorem dX11_readLine_96 : decode cX11_readLine 96 = .ok (.iastore, 1) := by decide +kernel
theorem dX11_readLine_97 : decode cX11_readLine 97 = .ok (.aload_n 0, 1) := by decide +kernel
theorem dX11_readLine_98 : decode cX11_readLine 98 = .ok (.getfield 26, 3) := by decide +kernel
theorem dX11_readLine_101 : decode cX11_readLine 101 = .ok (.iload_n 1, 1) := by decide +kernel
theorem dX11_readLine_102 : decode cX11_readLine 102 = .ok (.iload_n 3, 1) := by decide +kernel
theorem dX11_readLine_103 : decode cX11_readLine 103 = .ok (.invokevirtual 175, 3) := by decide +kernel
theorem dX11_readLine_106 : decode cX11_readLine 106 = .ok (.iconst 1, 1) := by decide +kernel
theorem dX11_readLine_107 : decode cX11_readLine 107 = .ok (.ireturn, 1) := by decide +kernel
theorem dX11_rule_0 : decode cX11_rule 0 = .ok (.aload_n 0, 1) := by decide +kernel
theorem dX11_rule_1 : decode cX11_rule 1 = .ok (.getfield 58, 3) := by decide +kernel
theorem dX11_rule_4 : decode cX11_rule 4 = .ok (.aload_n 0, 1) := by decide +kernel
theorem dX11_rule_5 : decode cX11_rule 5 = .ok (.getfield 10, 3) := by decide +kernel
theorem dX11_rule_8 : decode cX11_rule 8 = .ok (.invokevirtual 179, 3) := by decide +kernel
theorem dX11_rule_11 : decode cX11_rule 11 = .ok (.istore_n 1, 1) := by decide +kernel
theorem dX11_rule_12 : decode cX11_rule 12 = .ok (.iconst (-1), 1) := by decide +kernel
theorem dX11_rule_13 : decode cX11_rule 13 = .ok (.aload_n 0, 1) := by decide +kernel
theorem dX11_rule_14 : decode cX11_rule 14 = .ok (.getfield 10, 3) := by decide +kernel
theorem dX11_rule_17 : decode cX11_rule 17 = .ok (.getfield 123, 3) := by decide +kernel
theorem dX11_rule_20 : decode cX11_rule 20 = .ok (.isub, 1) := by decide +kernel
theorem dX11_rule_21 : decode cX11_rule 21 = .ok (.istore_n 2, 1) := by decide +kernel
theorem dX11_rule_22 : decode cX11_rule 22 = .ok (.iload_n 1, 1) := by decide +kernel
theorem dX11_rule_23 : decode cX11_rule 23 = .ok (.ifCond .eq 16, 3) := by decide +kernel
theorem dX11_rule_26 : decode cX11_rule 26 = .ok (.aload_n 0, 1) := by decide +kernel
theorem dX11_rule_27 : decode cX11_rule 27 = .ok (.getfield 54, 3) := by decide +kernel
theorem dX11_rule_30 : decode cX11_rule 30 = .ok (.aload_n 0, 1) := by decide +kernel
theorem dX11_rule_31 : decode cX11_rule 31 = .ok (.getfield 58, 3) := by decide +kernel
theorem dX11_rule_34 : decode cX11_rule 34 = .ok (.invokevirtual 182, 3) := by decide +kernel
theorem dX11_rule_37 : decode cX11_rule 37 = .ok (.iconst 0, 1) := by decide +kernel
theorem dX11_rule_38 : decode cX11_rule 38 = .ok (.istore_n 2, 1) := by decide +kernel
theorem dX11_rule_39 : decode cX11_rule 39 = .ok (.aload_n 0, 1) := by decide +kernel
theorem dX11_rule_40 : decode cX11_rule 40 = .ok (.getfield 10, 3) := by decide +kernel
theorem dX11_rule_43 : decode cX11_rule 43 = .ok (.invokevirtual 136, 3) := by decide +kernel
theorem dX11_rule_46 : decode cX11_rule 46 = .ok (.iload_n 2, 1) := by decide +kernel
theorem dX11_rule_47 : decode cX11_rule 47 = .ok (.ireturn, 1) := by decide +kernel
theorem dX11_field_0 : decode cX11_field 0 = .ok (.aload_n 0, 1) := by decide +kernel
theorem dX11_field_1 : decode cX11_field 1 = .ok (.getfield 85, 3) := by decide +kernel
theorem dX11_field_4 : decode cX11_field 4 = .ok (.iload_n 1, 1) := by decide +kernel
theorem dX11_field_5 : decode cX11_field 5 = .ok (.invokevirtual 169, 3) := by decide +kernel
theorem dX11_field_8 : decode cX11_field 8 = .ok (.ifCond .ne 13, 3) := by decide +kernel
theorem dX11_field_21 : decode cX11_field 21 = .ok (.iload_n 2, 1) := by decide +kernel
theorem dX11_field_22 : decode cX11_field 22 = .ok (.tableswitch 66 0 3 #[30, 39, 48, 57], 30) := by decide +kernel
theorem dX11_field_52 : decode cX11_field 52 = .ok (.aload_n 0, 1) := by decide +kernel
theorem dX11_field_53 : decode cX11_field 53 = .ok (.getfield 85, 3) := by decide +kernel
theorem dX11_field_56 : decode cX11_field 56 = .ok (.iload_n 1, 1) := by decide +kernel
theorem dX11_field_57 : decode cX11_field 57 = .ok (.invokevirtual 172, 3) := by decide +kernel
theorem dX11_field_60 : decode cX11_field 60 = .ok (.ireturn, 1) := by decide +kernel
theorem dX11_field_61 : decode cX11_field 61 = .ok (.aload_n 0, 1) := by decide +kernel
theorem dX11_field_62 : decode cX11_field 62 = .ok (.getfield 85, 3) := by decide +kernel
theorem dX11_field_65 : decode cX11_field 65 = .ok (.iload_n 1, 1) := by decide +kernel
theorem dX11_field_66 : decode cX11_field 66 = .ok (.invokevirtual 193, 3) := by decide +kernel
theorem dX11_field_69 : decode cX11_field 69 = .ok (.ireturn, 1) := by decide +kernel
theorem dX11_field_70 : decode cX11_field 70 = .ok (.aload_n 0, 1) := by decide +kernel
theorem dX11_field_71 : decode cX11_field 71 = .ok (.getfield 26, 3) := by decide +kernel
theorem dX11_field_74 : decode cX11_field 74 = .ok (.iload_n 1, 1) := by decide +kernel
theorem dX11_field_75 : decode cX11_field 75 = .ok (.invokevirtual 196, 3) := by decide +kernel
theorem dX11_field_78 : decode cX11_field 78 = .ok (.ireturn, 1) := by decide +kernel
theorem dX11_field_79 : decode cX11_field 79 = .ok (.aload_n 0, 1) := by decide +kernel
theorem dX11_field_80 : decode cX11_field 80 = .ok (.getfield 26, 3) := by decide +kernel
theorem dX11_field_83 : decode cX11_field 83 = .ok (.iload_n 1, 1) := by decide +kernel
theorem dX11_field_84 : decode cX11_field 84 = .ok (.invokevirtual 199, 3) := by decide +kernel
theorem dX11_field_87 : decode cX11_field 87 = .ok (.ireturn, 1) := by decide +kernel
theorem dX11_ship_0 : decode cX11_ship 0 = .ok (.aload_n 0, 1) := by decide +kernel
theorem dX11_ship_1 : decode cX11_ship 1 = .ok (.iload_n 1, 1) := by decide +kernel
theorem dX11_ship_2 : decode cX11_ship 2 = .ok (.invokevirtual 204, 3) := by decide +kernel
theorem dX11_ship_5 : decode cX11_ship 5 = .ok (.ifCond .ne 13, 3) := by decide +kernel
theorem dX11_ship_18 : decode cX11_ship 18 = .ok (.iload_n 2, 1) := by decide +kernel
theorem dX11_ship_19 : decode cX11_ship 19 = .ok (.tableswitch 76 0 3 #[29, 36, 45, 62], 29) := by decide +kernel
theorem dX11_ship_48 : decode cX11_ship 48 = .ok (.aload_n 0, 1) := by decide +kernel
theorem dX11_ship_49 : decode cX11_ship 49 = .ok (.getfield 40, 3) := by decide +kernel
theorem dX11_ship_52 : decode cX11_ship 52 = .ok (.iload_n 1, 1) := by decide +kernel
theorem dX11_ship_53 : decode cX11_ship 53 = .ok (.iaload, 1) := by decide +kernel
theorem dX11_ship_54 : decode cX11_ship 54 = .ok (.ireturn, 1) := by decide +kernel
theorem dX11_ship_55 : decode cX11_ship 55 = .ok (.aload_n 0, 1) := by decide +kernel
theorem dX11_ship_56 : decode cX11_ship 56 = .ok (.getfield 26, 3) := by decide +kernel
theorem dX11_ship_59 : decode cX11_ship 59 = .ok (.iload_n 1, 1) := by decide +kernel
theorem dX11_ship_60 : decode cX11_ship 60 = .ok (.invokevirtual 209, 3) := by decide +kernel
theorem dX11_ship_63 : decode cX11_ship 63 = .ok (.ireturn, 1) := by decide +kernel
theorem dX11_ship_64 : decode cX11_ship 64 = .ok (.aload_n 0, 1) := by decide +kernel
theorem dX11_ship_65 : decode cX11_ship 65 = .ok (.getfield 26, 3) := by decide +kernel
theorem dX11_ship_68 : decode cX11_ship 68 = .ok (.iload_n 1, 1) := by decide +kernel
theorem dX11_ship_69 : decode cX11_ship 69 = .ok (.invokevirtual 212, 3) := by decide +kernel
theorem dX11_ship_72 : decode cX11_ship 72 = .ok (.ifCond .eq 7, 3) := by decide +kernel
theorem dX11_ship_75 : decode cX11_ship 75 = .ok (.iconst 1, 1) := by decide +kernel
theorem dX11_ship_76 : decode cX11_ship 76 = .ok (.goto 4, 3) := by decide +kernel
theorem dX11_ship_79 : decode cX11_ship 79 = .ok (.iconst 0, 1) := by decide +kernel
theorem dX11_ship_80 : decode cX11_ship 80 = .ok (.ireturn, 1) := by decide +kernel
theorem dX11_ship_81 : decode cX11_ship 81 = .ok (.aload_n 0, 1) := by decide +kernel
theorem dX11_ship_82 : decode cX11_ship 82 = .ok (.iload_n 1, 1) := by decide +kernel
theorem dX11_ship_83 : decode cX11_ship 83 = .ok (.invokevirtual 215, 3) := by decide +kernel
theorem dX11_ship_86 : decode cX11_ship 86 = .ok (.ifCond .eq 7, 3) := by decide +kernel
theorem dX11_ship_89 : decode cX11_ship 89 = .ok (.iconst 1, 1) := by decide +kernel
theorem dX11_ship_90 : decode cX11_ship 90 = .ok (.goto 4, 3) := by decide +kernel
theorem dX11_ship_93 : decode cX11_ship 93 = .ok (.iconst 0, 1) := by decide +kernel
theorem dX11_ship_94 : decode cX11_ship 94 = .ok (.ireturn, 1) := by decide +kernel
theorem dX11_hasShip_0 : decode cX11_hasShip 0 = .ok (.iload_n 1, 1) := by decide +kernel
theorem dX11_hasShip_1 : decode cX11_hasShip 1 = .ok (.ifCond .lt 24, 3) := by decide +kernel
theorem dX11_hasShip_4 : decode cX11_hasShip 4 = .ok (.iload_n 1, 1) := by decide +kernel
theorem dX11_hasShip_5 : decode cX11_hasShip 5 = .ok (.aload_n 0, 1) := by decide +kernel
theorem dX11_hasShip_6 : decode cX11_hasShip 6 = .ok (.getfield 26, 3) := by decide +kernel
theorem dX11_hasShip_9 : decode cX11_hasShip 9 = .ok (.getfield 102, 3) := by decide +kernel
theorem dX11_hasShip_12 : decode cX11_hasShip 12 = .ok (.if_icmp .ge 13, 3) := by decide +kernel
theorem dX11_hasShip_15 : decode cX11_hasShip 15 = .ok (.iload_n 1, 1) := by decide +kernel
theorem dX11_hasShip_16 : decode cX11_hasShip 16 = .ok (.bipush 8, 2) := by decide +kernel
theorem dX11_hasShip_18 : decode cX11_hasShip 18 = .ok (.if_icmp .ge 7, 3) := by decide +kernel
theorem dX11_hasShip_21 : decode cX11_hasShip 21 = .ok (.iconst 1, 1) := by decide +kernel
theorem dX11_hasShip_22 : decode cX11_hasShip 22 = .ok (.goto 4, 3) := by decide +kernel
theorem dX11_hasShip_25 : decode cX11_hasShip 25 = .ok (.iconst 0, 1) := by decide +kernel
theorem dX11_hasShip_26 : decode cX11_hasShip 26 = .ok (.ireturn, 1) := by decide +kernel
theorem dX11_isOver_0 : decode cX11_isOver 0 = .ok (.aload_n 0, 1) := by decide +kernel
theorem dX11_isOver_1 : decode cX11_isOver 1 = .ok (.getfield 85, 3) := by decide +kernel
theorem dX11_isOver_4 : decode cX11_isOver 4 = .ok (.aload_n 0, 1) := by decide +kernel
theorem dX11_isOver_5 : decode cX11_isOver 5 = .ok (.getfield 26, 3) := by decide +kernel
theorem dX11_isOver_8 : decode cX11_isOver 8 = .ok (.iload_n 1, 1) := by decide +kernel
theorem dX11_isOver_9 : decode cX11_isOver 9 = .ok (.invokevirtual 209, 3) := by decide +kernel
theorem dX11_isOver_12 : decode cX11_isOver 12 = .ok (.invokevirtual 172, 3) := by decide +kernel
theorem dX11_isOver_15 : decode cX11_isOver 15 = .ok (.iconst 2, 1) := by decide +kernel
theorem dX11_isOver_16 : decode cX11_isOver 16 = .ok (.if_icmp .ne 7, 3) := by decide +kernel
theorem dX11_isOver_19 : decode cX11_isOver 19 = .ok (.iconst 1, 1) := by decide +kernel
theorem dX11_isOver_20 : decode cX11_isOver 20 = .ok (.goto 4, 3) := by decide +kernel
theorem dX11_isOver_23 : decode cX11_isOver 23 = .ok (.iconst 0, 1) := by decide +kernel
theorem dX11_isOver_24 : decode cX11_isOver 24 = .ok (.ireturn, 1) := by decide +kernel
theorem dX11_shipsOver_0 : decode cX11_shipsOver 0 = .ok (.iconst 0, 1) := by decide +kernel
theorem dX11_shipsOver_1 : decode cX11_shipsOver 1 = .ok (.istore_n 1, 1) := by decide +kernel
theorem dX11_shipsOver_2 : decode cX11_shipsOver 2 = .ok (.iconst 0, 1) := by decide +kernel
theorem dX11_shipsOver_3 : decode cX11_shipsOver 3 = .ok (.istore_n 2, 1) := by decide +kernel
theorem dX11_shipsOver_4 : decode cX11_shipsOver 4 = .ok (.iload_n 2, 1) := by decide +kernel
theorem dX11_shipsOver_5 : decode cX11_shipsOver 5 = .ok (.aload_n 0, 1) := by decide +kernel
theorem dX11_shipsOver_6 : decode cX11_shipsOver 6 = .ok (.getfield 26, 3) := by decide +kernel
theorem dX11_shipsOver_9 : decode cX11_shipsOver 9 = .ok (.getfield 102, 3) := by decide +kernel
theorem dX11_shipsOver_12 : decode cX11_shipsOver 12 = .ok (.if_icmp .ge 23, 3) := by decide +kernel
theorem dX11_shipsOver_15 : decode cX11_shipsOver 15 = .ok (.aload_n 0, 1) := by decide +kernel
theorem dX11_shipsOver_16 : decode cX11_shipsOver 16 = .ok (.iload_n 2, 1) := by decide +kernel
theorem dX11_shipsOver_17 : decode cX11_shipsOver 17 = .ok (.invokevirtual 215, 3) := by decide +kernel
theorem dX11_shipsOver_20 : decode cX11_shipsOver 20 = .ok (.ifCond .eq 9, 3) := by decide +kernel
theorem dX11_shipsOver_23 : decode cX11_shipsOver 23 = .ok (.iload_n 1, 1) := by decide +kernel
theorem dX11_shipsOver_24 : decode cX11_shipsOver 24 = .ok (.iconst 1, 1) := by decide +kernel
theorem dX11_shipsOver_25 : decode cX11_shipsOver 25 = .ok (.iload_n 2, 1) := by decide +kernel
theorem dX11_shipsOver_26 : decode cX11_shipsOver 26 = .ok (.ishl, 1) := by decide +kernel
theorem dX11_shipsOver_27 : decode cX11_shipsOver 27 = .ok (.ior, 1) := by decide +kernel
theorem dX11_shipsOver_28 : decode cX11_shipsOver 28 = .ok (.istore_n 1, 1) := by decide +kernel
theorem dX11_shipsOver_29 : decode cX11_shipsOver 29 = .ok (.iinc 2 1, 3) := by decide +kernel
theorem dX11_shipsOver_32 : decode cX11_shipsOver 32 = .ok (.goto (-28), 3) := by decide +kernel
theorem dX11_shipsOver_35 : decode cX11_shipsOver 35 = .ok (.iload_n 1, 1) := by decide +kernel
theorem dX11_shipsOver_36 : decode cX11_shipsOver 36 = .ok (.ireturn, 1) := by decide +kernel
theorem dX11_pull_0 : decode cX11_pull 0 = .ok (.aload_n 0, 1) := by decide +kernel
theorem dX11_pull_1 : decode cX11_pull 1 = .ok (.iload_n 1, 1) := by decide +kernel
theorem dX11_pull_2 : decode cX11_pull 2 = .ok (.iload_n 2, 1) := by decide +kernel
theorem dX11_pull_3 : decode cX11_pull 3 = .ok (.invokevirtual 220, 3) := by decide +kernel
theorem dX11_pull_6 : decode cX11_pull 6 = .ok (.ireturn, 1) := by decide +kernel
theorem dX11_pullOf_0 : decode cX11_pullOf 0 = .ok (.aload_n 0, 1) := by decide +kernel
theorem dX11_pullOf_1 : decode cX11_pullOf 1 = .ok (.iload_n 1, 1) := by decide +kernel
theorem dX11_pullOf_2 : decode cX11_pullOf 2 = .ok (.invokevirtual 204, 3) := by decide +kernel
theorem dX11_pullOf_5 : decode cX11_pullOf 5 = .ok (.ifCond .eq 12, 3) := by decide +kernel
theorem dX11_pullOf_8 : decode cX11_pullOf 8 = .ok (.iload_n 2, 1) := by decide +kernel
theorem dX11_pullOf_9 : decode cX11_pullOf 9 = .ok (.ifCond .lt 8, 3) := by decide +kernel
theorem dX11_pullOf_12 : decode cX11_pullOf 12 = .ok (.iload_n 2, 1) := by decide +kernel
theorem dX11_pullOf_13 : decode cX11_pullOf 13 = .ok (.iconst 4, 1) := by decide +kernel
theorem dX11_pullOf_14 : decode cX11_pullOf 14 = .ok (.if_icmp .lt 5, 3) := by decide +kernel
theorem dX11_pullOf_17 : decode cX11_pullOf 17 = .ok (.iconst (-1), 1) := by decide +kernel
theorem dX11_pullOf_18 : decode cX11_pullOf 18 = .ok (.ireturn, 1) := by decide +kernel
theorem dX11_pullOf_19 : decode cX11_pullOf 19 = .ok (.aload_n 0, 1) := by decide +kernel
theorem dX11_pullOf_20 : decode cX11_pullOf 20 = .ok (.getfield 26, 3) := by decide +kernel
theorem dX11_pullOf_23 : decode cX11_pullOf 23 = .ok (.iload_n 1, 1) := by decide +kernel
theorem dX11_pullOf_24 : decode cX11_pullOf 24 = .ok (.invokevirtual 209, 3) := by decide +kernel
theorem dX11_pullOf_27 : decode cX11_pullOf 27 = .ok (.istore_n 3, 1) := by decide +kernel
theorem dX11_pullOf_28 : decode cX11_pullOf 28 = .ok (.aload_n 0, 1) := by decide +kernel
theorem dX11_pullOf_29 : decode cX11_pullOf 29 = .ok (.getfield 85, 3) := by decide +kernel
theorem dX11_pullOf_32 : decode cX11_pullOf 32 = .ok (.iload_n 3, 1) := by decide +kernel
theorem dX11_pullOf_33 : decode cX11_pullOf 33 = .ok (.iload_n 2, 1) := by decide +kernel
theorem dX11_pullOf_34 : decode cX11_pullOf 34 = .ok (.invokevirtual 224, 3) := by decide +kernel
theorem dX11_pullOf_37 : decode cX11_pullOf 37 = .ok (.istore 4, 2) := by decide +kernel
theorem dX11_pullOf_39 : decode cX11_pullOf 39 = .ok (.iload 4, 2) := by decide +kernel
theorem dX11_pullOf_41 : decode cX11_pullOf 41 = .ok (.iconst (-1), 1) := by decide +kernel
theorem dX11_pullOf_42 : decode cX11_pullOf 42 = .ok (.if_icmp .eq 27, 3) := by decide +kernel
theorem dX11_pullOf_45 : decode cX11_pullOf 45 = .ok (.aload_n 0, 1) := by decide +kernel
theorem dX11_pullOf_46 : decode cX11_pullOf 46 = .ok (.getfield 85, 3) := by decide +kernel
theorem dX11_pullOf_49 : decode cX11_pullOf 49 = .ok (.iload 4, 2) := by decide +kernel
theorem dX11_pullOf_51 : decode cX11_pullOf 51 = .ok (.invokevirtual 172, 3) := by decide +kernel
theorem dX11_pullOf_54 : decode cX11_pullOf 54 = .ok (.ifCond .ne 18, 3) := by decide +kernel
theorem dX11_pullOf_57 : decode cX11_pullOf 57 = .ok (.aload_n 0, 1) := by decide +kernel
theorem dX11_pullOf_58 : decode cX11_pullOf 58 = .ok (.getfield 26, 3) := by decide +kernel
theorem dX11_pullOf_61 : decode cX11_pullOf 61 = .ok (.iload 4, 2) := by decide +kernel
theorem dX11_pullOf_63 : decode cX11_pullOf 63 = .ok (.invokevirtual 199, 3) := by decide +kernel
theorem dX11_pullOf_66 : decode cX11_pullOf 66 = .ok (.ifCond .eq 6, 3) := by decide +kernel
theorem dX11_pullOf_69 : decode cX11_pullOf 69 = .ok (.bipush (-2), 2) := by decide +kernel
theorem dX11_pullOf_71 : decode cX11_pullOf 71 = .ok (.ireturn, 1) := by decide +kernel
theorem dX11_pullOf_72 : decode cX11_pullOf 72 = .ok (.aload_n 0, 1) := by decide +kernel
theorem dX11_pullOf_73 : decode cX11_pullOf 73 = .ok (.getfield 85, 3) := by decide +kernel
theorem dX11_pullOf_76 : decode cX11_pullOf 76 = .ok (.iload 4, 2) := by decide +kernel
theorem dX11_pullOf_78 : decode cX11_pullOf 78 = .ok (.invokevirtual 193, 3) := by decide +kernel
theorem dX11_pullOf_81 : decode cX11_pullOf 81 = .ok (.aload_n 0, 1) := by decide +kernel
theorem dX11_pullOf_82 : decode cX11_pullOf 82 = .ok (.getfield 85, 3) := by decide +kernel
theorem dX11_pullOf_85 : decode cX11_pullOf 85 = .ok (.iload_n 3, 1) := by decide +kernel
theorem dX11_pullOf_86 : decode cX11_pullOf 86 = .ok (.invokevirtual 193, 3) := by decide +kernel
theorem dX11_pullOf_89 : decode cX11_pullOf 89 = .ok (.isub, 1) := by decide +kernel
theorem dX11_pullOf_90 : decode cX11_pullOf 90 = .ok (.istore 5, 2) := by decide +kernel
theorem dX11_pullOf_92 : decode cX11_pullOf 92 = .ok (.aload_n 0, 1) := by decide +kernel
theorem dX11_pullOf_93 : decode cX11_pullOf 93 = .ok (.getfield 54, 3) := by decide +kernel
theorem dX11_pullOf_96 : decode cX11_pullOf 96 = .ok (.aload_n 0, 1) := by decide +kernel
theorem dX11_pullOf_97 : decode cX11_pullOf 97 = .ok (.getfield 40, 3) := by decide +kernel
theorem dX11_pullOf_100 : decode cX11_pullOf 100 = .ok (.iload_n 1, 1) := by decide +kernel
theorem dX11_pullOf_101 : decode cX11_pullOf 101 = .ok (.iaload, 1) := by decide +kernel
theorem dX11_pullOf_102 : decode cX11_pullOf 102 = .ok (.iload 5, 2) := by decide +kernel
theorem dX11_pullOf_104 : decode cX11_pullOf 104 = .ok (.aload_n 0, 1) := by decide +kernel
theorem dX11_pullOf_105 : decode cX11_pullOf 105 = .ok (.getfield 26, 3) := by decide +kernel
theorem dX11_pullOf_108 : decode cX11_pullOf 108 = .ok (.iload 4, 2) := by decide +kernel
theorem dX11_pullOf_110 : decode cX11_pullOf 110 = .ok (.invokevirtual 196, 3) := by decide +kernel
theorem dX11_pullOf_113 : decode cX11_pullOf 113 = .ok (.aload_n 0, 1) := by decide +kernel
theorem dX11_pullOf_114 : decode cX11_pullOf 114 = .ok (.getfield 26, 3) := by decide +kernel
theorem dX11_pullOf_117 : decode cX11_pullOf 117 = .ok (.getfield 227, 3) := by decide +kernel
theorem dX11_pullOf_120 : decode cX11_pullOf 120 = .ok (.invokevirtual 230, 3) := by decide +kernel
theorem dX11_pullOf_123 : decode cX11_pullOf 123 = .ok (.istore 6, 2) := by decide +kernel
theorem dX11_pullOf_125 : decode cX11_pullOf 125 = .ok (.iload 6, 2) := by decide +kernel
theorem dX11_pullOf_127 : decode cX11_pullOf 127 = .ok (.aload_n 0, 1) := by decide +kernel
theorem dX11_pullOf_128 : decode cX11_pullOf 128 = .ok (.getfield 26, 3) := by decide +kernel
theorem dX11_pullOf_131 : decode cX11_pullOf 131 = .ok (.getfield 234, 3) := by decide +kernel
theorem dX11_pullOf_134 : decode cX11_pullOf 134 = .ok (.invokestatic 237, 3) := by decide +kernel
theorem dX11_pullOf_137 : decode cX11_pullOf 137 = .ok (.invokestatic 238, 3) := by decide +kernel
theorem dX11_pullOf_140 : decode cX11_pullOf 140 = .ok (.ireturn, 1) := by decide +kernel
theorem dX11_kindOf_0 : decode cX11_kindOf 0 = .ok (.iload_n 0, 1) := by decide +kernel
theorem dX11_kindOf_1 : decode cX11_kindOf 1 = .ok (.iconst 4, 1) := by decide +kernel
theorem dX11_kindOf_2 : decode cX11_kindOf 2 = .ok (.invokestatic 241, 3) := by decide +kernel
theorem dX11_kindOf_5 : decode cX11_kindOf 5 = .ok (.ireturn, 1) := by decide +kernel
theorem dX11_pullBy_0 : decode cX11_pullBy 0 = .ok (.iload_n 1, 1) := by decide +kernel
theorem dX11_pullBy_1 : decode cX11_pullBy 1 = .ok (.iconst 3, 1) := by decide +kernel
theorem dX11_pullBy_2 : decode cX11_pullBy 2 = .ok (.if_icmp .ne 11, 3) := by decide +kernel
theorem dX11_pullBy_5 : decode cX11_pullBy 5 = .ok (.iload_n 0, 1) := by decide +kernel
theorem dX11_pullBy_6 : decode cX11_pullBy 6 = .ok (.iload_n 0, 1) := by decide +kernel
theorem dX11_pullBy_7 : decode cX11_pullBy 7 = .ok (.iconst 2, 1) := by decide +kernel
theorem dX11_pullBy_8 : decode cX11_pullBy 8 = .ok (.idiv, 1) := by decide +kernel
theorem dX11_pullBy_9 : decode cX11_pullBy 9 = .ok (.iadd, 1) := by decide +kernel
theorem dX11_pullBy_10 : decode cX11_pullBy 10 = .ok (.goto 4, 3) := by decide +kernel
theorem dX11_pullBy_13 : decode cX11_pullBy 13 = .ok (.iload_n 0, 1) := by decide +kernel
theorem dX11_pullBy_14 : decode cX11_pullBy 14 = .ok (.ireturn, 1) := by decide +kernel
theorem dX11_noiseOf_0 : decode cX11_noiseOf 0 = .ok (.iload_n 0, 1) := by decide +kernel
theorem dX11_noiseOf_1 : decode cX11_noiseOf 1 = .ok (.bipush 10, 2) := by decide +kernel
theorem dX11_noiseOf_3 : decode cX11_noiseOf 3 = .ok (.idiv, 1) := by decide +kernel
theorem dX11_noiseOf_4 : decode cX11_noiseOf 4 = .ok (.istore_n 2, 1) := by decide +kernel
theorem dX11_noiseOf_5 : decode cX11_noiseOf 5 = .ok (.iload_n 1, 1) := by decide +kernel
theorem dX11_noiseOf_6 : decode cX11_noiseOf 6 = .ok (.iconst 1, 1) := by decide +kernel
theorem dX11_noiseOf_7 : decode cX11_noiseOf 7 = .ok (.if_icmp .ne 7, 3) := by decide +kernel
theorem dX11_noiseOf_10 : decode cX11_noiseOf 10 = .ok (.iload_n 2, 1) := by decide +kernel
theorem dX11_noiseOf_11 : decode cX11_noiseOf 11 = .ok (.iconst 2, 1) := by decide +kernel
theorem dX11_noiseOf_12 : decode cX11_noiseOf 12 = .ok (.idiv, 1) := by decide +kernel
theorem dX11_noiseOf_13 : decode cX11_noiseOf 13 = .ok (.ireturn, 1) := by decide +kernel
theorem dX11_noiseOf_14 : decode cX11_noiseOf 14 = .ok (.iload_n 1, 1) := by decide +kernel
theorem dX11_noiseOf_15 : decode cX11_noiseOf 15 = .ok (.iconst 2, 1) := by decide +kernel
theorem dX11_noiseOf_16 : decode cX11_noiseOf 16 = .ok (.if_icmp .ne 9, 3) := by decide +kernel
theorem dX11_noiseOf_19 : decode cX11_noiseOf 19 = .ok (.iload_n 2, 1) := by decide +kernel
theorem dX11_noiseOf_20 : decode cX11_noiseOf 20 = .ok (.iconst 2, 1) := by decide +kernel
theorem dX11_noiseOf_21 : decode cX11_noiseOf 21 = .ok (.imul, 1) := by decide +kernel
theorem dX11_noiseOf_22 : decode cX11_noiseOf 22 = .ok (.goto 4, 3) := by decide +kernel
theorem dX11_noiseOf_25 : decode cX11_noiseOf 25 = .ok (.iload_n 2, 1) := by decide +kernel
theorem dX11_noiseOf_26 : decode cX11_noiseOf 26 = .ok (.ireturn, 1) := by decide +kernel
theorem dX11_set_0 : decode cX11_set 0 = .ok (.iload_n 2, 1) := by decide +kernel
theorem dX11_set_1 : decode cX11_set 1 = .ok (.ifCond .lt 10, 3) := by decide +kernel
theorem dX11_set_4 : decode cX11_set 4 = .ok (.iload_n 2, 1) := by decide +kernel
theorem dX11_set_5 : decode cX11_set 5 = .ok (.sipush 999, 3) := by decide +kernel
theorem dX11_set_8 : decode cX11_set 8 = .ok (.if_icmp .le 5, 3) := by decide +kernel
theorem dX11_set_11 : decode cX11_set 11 = .ok (.iconst (-1), 1) := by decide +kernel
theorem dX11_set_12 : decode cX11_set 12 = .ok (.ireturn, 1) := by decide +kernel
theorem dX11_set_13 : decode cX11_set 13 = .ok (.iload_n 1, 1) := by decide +kernel
theorem dX11_set_14 : decode cX11_set 14 = .ok (.ifCond .ne 26, 3) := by decide +kernel
theorem dX11_set_17 : decode cX11_set 17 = .ok (.iload_n 2, 1) := by decide +kernel
theorem dX11_set_18 : decode cX11_set 18 = .ok (.aload_n 0, 1) := by decide +kernel
theorem dX11_set_19 : decode cX11_set 19 = .ok (.getfield 26, 3) := by decide +kernel
theorem dX11_set_22 : decode cX11_set 22 = .ok (.getfield 246, 3) := by decide +kernel
theorem dX11_set_25 : decode cX11_set 25 = .ok (.if_icmp .lt 15, 3) := by decide +kernel
theorem dX11_set_28 : decode cX11_set 28 = .ok (.aload_n 0, 1) := by decide +kernel
theorem dX11_set_29 : decode cX11_set 29 = .ok (.getfield 44, 3) := by decide +kernel
theorem dX11_set_32 : decode cX11_set 32 = .ok (.istore_n 3, 1) := by decide +kernel
theorem dX11_set_33 : decode cX11_set 33 = .ok (.aload_n 0, 1) := by decide +kernel
theorem dX11_set_34 : decode cX11_set 34 = .ok (.iload_n 2, 1) := by decide +kernel
theorem dX11_set_35 : decode cX11_set 35 = .ok (.putfield 44, 3) := by decide +kernel
theorem dX11_set_38 : decode cX11_set 38 = .ok (.iload_n 3, 1) := by decide +kernel
theorem dX11_set_39 : decode cX11_set 39 = .ok (.ireturn, 1) := by decide +kernel
theorem dX11_set_40 : decode cX11_set 40 = .ok (.iload_n 1, 1) := by decide +kernel
theorem dX11_set_41 : decode cX11_set 41 = .ok (.iconst 1, 1) := by decide +kernel
theorem dX11_set_42 : decode cX11_set 42 = .ok (.if_icmp .ne 15, 3) := by decide +kernel
theorem dX11_set_45 : decode cX11_set 45 = .ok (.aload_n 0, 1) := by decide +kernel
theorem dX11_set_46 : decode cX11_set 46 = .ok (.getfield 48, 3) := by decide +kernel
theorem dX11_set_49 : decode cX11_set 49 = .ok (.istore_n 3, 1) := by decide +kernel
theorem dX11_set_50 : decode cX11_set 50 = .ok (.aload_n 0, 1) := by decide +kernel
theorem dX11_set_51 : decode cX11_set 51 = .ok (.iload_n 2, 1) := by decide +kernel
theorem dX11_set_52 : decode cX11_set 52 = .ok (.putfield 48, 3) := by decide +kernel
theorem dX11_set_55 : decode cX11_set 55 = .ok (.iload_n 3, 1) := by decide +kernel
theorem dX11_set_56 : decode cX11_set 56 = .ok (.ireturn, 1) := by decide +kernel
theorem dX11_set_57 : decode cX11_set 57 = .ok (.iconst (-1), 1) := by decide +kernel
theorem dX11_set_58 : decode cX11_set 58 = .ok (.ireturn, 1) := by decide +kernel
theorem dX11_sheet_0 : decode cX11_sheet 0 = .ok (.iload_n 1, 1) := by decide +kernel
theorem dX11_sheet_1 : decode cX11_sheet 1 = .ok (.ifCond .lt 14, 3) := by decide +kernel
theorem dX11_sheet_4 : decode cX11_sheet 4 = .ok (.iload_n 1, 1) := by decide +kernel
theorem dX11_sheet_5 : decode cX11_sheet 5 = .ok (.iconst 3, 1) := by decide +kernel
theorem dX11_sheet_6 : decode cX11_sheet 6 = .ok (.if_icmp .gt 9, 3) := by decide +kernel
theorem dX11_sheet_9 : decode cX11_sheet 9 = .ok (.iload_n 2, 1) := by decide +kernel
theorem dX11_sheet_10 : decode cX11_sheet 10 = .ok (.bipush 8, 2) := by decide +kernel
theorem dX11_sheet_12 : decode cX11_sheet 12 = .ok (.if_icmp .le 5, 3) := by decide +kernel
theorem dX11_sheet_15 : decode cX11_sheet 15 = .ok (.iconst (-1), 1) := by decide +kernel
theorem dX11_sheet_16 : decode cX11_sheet 16 = .ok (.ireturn, 1) := by decide +kernel
theorem dX11_sheet_17 : decode cX11_sheet 17 = .ok (.iload_n 1, 1) := by decide +kernel
theorem dX11_sheet_18 : decode cX11_sheet 18 = .ok (.iconst 3, 1) := by decide +kernel
theorem dX11_sheet_19 : decode cX11_sheet 19 = .ok (.if_icmp .ne 16, 3) := by decide +kernel
theorem dX11_sheet_22 : decode cX11_sheet 22 = .ok (.aload_n 0, 1) := by decide +kernel
theorem dX11_sheet_23 : decode cX11_sheet 23 = .ok (.iload_n 1, 1) := by decide +kernel
theorem dX11_sheet_24 : decode cX11_sheet 24 = .ok (.iconst 0, 1) := by decide +kernel
theorem dX11_sheet_25 : decode cX11_sheet 25 = .ok (.iload_n 3, 1) := by decide +kernel
theorem dX11_sheet_26 : decode cX11_sheet 26 = .ok (.iload 4, 2) := by decide +kernel
theorem dX11_sheet_28 : decode cX11_sheet 28 = .ok (.invokevirtual 249, 3) := by decide +kernel
theorem dX11_sheet_31 : decode cX11_sheet 31 = .ok (.pop, 1) := by decide +kernel
theorem dX11_sheet_32 : decode cX11_sheet 32 = .ok (.bipush (-3), 2) := by decide +kernel
theorem dX11_sheet_34 : decode cX11_sheet 34 = .ok (.ireturn, 1) := by decide +kernel
theorem dX11_sheet_35 : decode cX11_sheet 35 = .ok (.iload_n 2, 1) := by decide +kernel
theorem dX11_sheet_36 : decode cX11_sheet 36 = .ok (.ifCond .ge 8, 3) := by decide +kernel
theorem dX11_sheet_39 : decode cX11_sheet 39 = .ok (.bipush (-2), 2) := by decide +kernel
theorem dX11_sheet_41 : decode cX11_sheet 41 = .ok (.goto 12, 3) := by decide +kernel
theorem dX11_sheet_44 : decode cX11_sheet 44 = .ok (.aload_n 0, 1) := by decide +kernel
theorem dX11_sheet_45 : decode cX11_sheet 45 = .ok (.iload_n 1, 1) := by decide +kernel
theorem dX11_sheet_46 : decode cX11_sheet 46 = .ok (.iload_n 2, 1) := by decide +kernel
theorem dX11_sheet_47 : decode cX11_sheet 47 = .ok (.iload_n 3, 1) := by decide +kernel
theorem dX11_sheet_48 : decode cX11_sheet 48 = .ok (.iload 4, 2) := by decide +kernel
theorem dX11_sheet_50 : decode cX11_sheet 50 = .ok (.invokevirtual 249, 3) := by decide +kernel
theorem dX11_sheet_53 : decode cX11_sheet 53 = .ok (.ireturn, 1) := by decide +kernel
theorem dX11_weigh_0 : decode cX11_weigh 0 = .ok (.iconst 0, 1) := by decide +kernel
theorem dX11_weigh_1 : decode cX11_weigh 1 = .ok (.istore 5, 2) := by decide +kernel
theorem dX11_weigh_3 : decode cX11_weigh 3 = .ok (.iconst 0, 1) := by decide +kernel
theorem dX11_weigh_4 : decode cX11_weigh 4 = .ok (.istore 6, 2) := by decide +kernel
theorem dX11_weigh_6 : decode cX11_weigh 6 = .ok (.iload 6, 2) := by decide +kernel
theorem dX11_weigh_8 : decode cX11_weigh 8 = .ok (.aload_n 0, 1) := by decide +kernel
theorem dX11_weigh_9 : decode cX11_weigh 9 = .ok (.getfield 26, 3) := by decide +kernel
theorem dX11_weigh_12 : decode cX11_weigh 12 = .ok (.getfield 102, 3) := by decide +kernel
theorem dX11_weigh_15 : decode cX11_weigh 15 = .ok (.if_icmp .ge 56, 3) := by decide +kernel
theorem dX11_weigh_18 : decode cX11_weigh 18 = .ok (.iload 6, 2) := by decide +kernel
theorem dX11_weigh_20 : decode cX11_weigh 20 = .ok (.bipush 8, 2) := by decide +kernel
theorem dX11_weigh_22 : decode cX11_weigh 22 = .ok (.if_icmp .ge 49, 3) := by decide +kernel
theorem dX11_weigh_25 : decode cX11_weigh 25 = .ok (.aload_n 0, 1) := by decide +kernel
theorem dX11_weigh_26 : decode cX11_weigh 26 = .ok (.getfield 40, 3) := by decide +kernel
theorem dX11_weigh_29 : decode cX11_weigh 29 = .ok (.iload 6, 2) := by decide +kernel
theorem dX11_weigh_31 : decode cX11_weigh 31 = .ok (.iload 6, 2) := by decide +kernel
theorem dX11_weigh_33 : decode cX11_weigh 33 = .ok (.iload_n 2, 1) := by decide +kernel
theorem dX11_weigh_34 : decode cX11_weigh 34 = .ok (.if_icmp .ge 17, 3) := by decide +kernel
theorem dX11_weigh_37 : decode cX11_weigh 37 = .ok (.iload_n 1, 1) := by decide +kernel
theorem dX11_weigh_38 : decode cX11_weigh 38 = .ok (.iload_n 3, 1) := by decide +kernel
theorem dX11_weigh_39 : decode cX11_weigh 39 = .ok (.iload 6, 2) := by decide +kernel
theorem dX11_weigh_41 : decode cX11_weigh 41 = .ok (.iload 4, 2) := by decide +kernel
theorem dX11_weigh_43 : decode cX11_weigh 43 = .ok (.imul, 1) := by decide +kernel
theorem dX11_weigh_44 : decode cX11_weigh 44 = .ok (.iadd, 1) := by decide +kernel
theorem dX11_weigh_45 : decode cX11_weigh 45 = .ok (.invokestatic 252, 3) := by decide +kernel
theorem dX11_weigh_48 : decode cX11_weigh 48 = .ok (.goto 4, 3) := by decide +kernel
theorem dX11_weigh_51 : decode cX11_weigh 51 = .ok (.iconst 1, 1) := by decide +kernel
theorem dX11_weigh_52 : decode cX11_weigh 52 = .ok (.iastore, 1) := by decide +kernel
theorem dX11_weigh_53 : decode cX11_weigh 53 = .ok (.iload 5, 2) := by decide +kernel
theorem dX11_weigh_55 : decode cX11_weigh 55 = .ok (.aload_n 0, 1) := by decide +kernel
theorem dX11_weigh_56 : decode cX11_weigh 56 = .ok (.getfield 40, 3) := by decide +kernel
theorem dX11_weigh_59 : decode cX11_weigh 59 = .ok (.iload 6, 2) := by decide +kernel
theorem dX11_weigh_61 : decode cX11_weigh 61 = .ok (.iaload, 1) := by decide +kernel
theorem dX11_weigh_62 : decode cX11_weigh 62 = .ok (.iadd, 1) := by decide +kernel
theorem dX11_weigh_63 : decode cX11_weigh 63 = .ok (.istore 5, 2) := by decide +kernel
theorem dX11_weigh_65 : decode cX11_weigh 65 = .ok (.iinc 6 1, 3) := by decide +kernel
theorem dX11_weigh_68 : decode cX11_weigh 68 = .ok (.goto (-62), 3) := by decide +kernel
theorem dX11_weigh_71 : decode cX11_weigh 71 = .ok (.iload 5, 2) := by decide +kernel
theorem dX11_weigh_73 : decode cX11_weigh 73 = .ok (.ireturn, 1) := by decide +kernel
theorem dX11_entryOf_0 : decode cX11_entryOf 0 = .ok (.iload_n 1, 1) := by decide +kernel
theorem dX11_entryOf_1 : decode cX11_entryOf 1 = .ok (.istore_n 2, 1) := by decide +kernel
theorem dX11_entryOf_2 : decode cX11_entryOf 2 = .ok (.iload_n 0, 1) := by decide +kernel
theorem dX11_entryOf_3 : decode cX11_entryOf 3 = .ok (.ifCond .ne 9, 3) := by decide +kernel
theorem dX11_entryOf_6 : decode cX11_entryOf 6 = .ok (.iload_n 1, 1) := by decide +kernel
theorem dX11_entryOf_7 : decode cX11_entryOf 7 = .ok (.i2b, 1) := by decide +kernel
theorem dX11_entryOf_8 : decode cX11_entryOf 8 = .ok (.istore_n 2, 1) := by decide +kernel
theorem dX11_entryOf_9 : decode cX11_entryOf 9 = .ok (.goto 11, 3) := by decide +kernel
theorem dX11_entryOf_12 : decode cX11_entryOf 12 = .ok (.iload_n 0, 1) := by decide +kernel
theorem dX11_entryOf_13 : decode cX11_entryOf 13 = .ok (.iconst 1, 1) := by decide +kernel
theorem dX11_entryOf_14 : decode cX11_entryOf 14 = .ok (.if_icmp .ne 6, 3) := by decide +kernel
theorem dX11_entryOf_17 : decode cX11_entryOf 17 = .ok (.iload_n 1, 1) := by decide +kernel
theorem dX11_entryOf_18 : decode cX11_entryOf 18 = .ok (.i2s, 1) := by decide +kernel
theorem dX11_entryOf_19 : decode cX11_entryOf 19 = .ok (.istore_n 2, 1) := by decide +kernel
theorem dX11_entryOf_20 : decode cX11_entryOf 20 = .ok (.iconst 1, 1) := by decide +kernel
theorem dX11_entryOf_21 : decode cX11_entryOf 21 = .ok (.bipush 99, 2) := by decide +kernel
theorem dX11_entryOf_23 : decode cX11_entryOf 23 = .ok (.iload_n 2, 1) := by decide +kernel
theorem dX11_entryOf_24 : decode cX11_entryOf 24 = .ok (.invokestatic 255, 3) := by decide +kernel
theorem dX11_entryOf_27 : decode cX11_entryOf 27 = .ok (.invokestatic 258, 3) := by decide +kernel
theorem dX11_entryOf_30 : decode cX11_entryOf 30 = .ok (.ireturn, 1) := by decide +kernel
theorem dX11_drag_0 : decode cX11_drag 0 = .ok (.aload_n 0, 1) := by decide +kernel
theorem dX11_drag_1 : decode cX11_drag 1 = .ok (.getfield 30, 3) := by decide +kernel
theorem dX11_drag_4 : decode cX11_drag 4 = .ok (.aload_n 0, 1) := by decide +kernel
theorem dX11_drag_5 : decode cX11_drag 5 = .ok (.getfield 26, 3) := by decide +kernel
theorem dX11_drag_8 : decode cX11_drag 8 = .ok (.invokevirtual 261, 3) := by decide +kernel
theorem dX11_drag_11 : decode cX11_drag 11 = .ok (.aload_n 0, 1) := by decide +kernel
theorem dX11_drag_12 : decode cX11_drag 12 = .ok (.aload_n 0, 1) := by decide +kernel
theorem dX11_drag_13 : decode cX11_drag 13 = .ok (.iload_n 1, 1) := by decide +kernel
theorem dX11_drag_14 : decode cX11_drag 14 = .ok (.iload_n 2, 1) := by decide +kernel
theorem dX11_drag_15 : decode cX11_drag 15 = .ok (.invokevirtual 264, 3) := by decide +kernel
theorem dX11_drag_18 : decode cX11_drag 18 = .ok (.invokevirtual 267, 3) := by decide +kernel
theorem dX11_drag_21 : decode cX11_drag 21 = .ok (.ireturn, 1) := by decide +kernel
theorem dX11_plank_0 : decode cX11_plank 0 = .ok (.aload_n 0, 1) := by decide +kernel
theorem dX11_plank_1 : decode cX11_plank 1 = .ok (.getfield 30, 3) := by decide +kernel
theorem dX11_plank_4 : decode cX11_plank 4 = .ok (.aload_n 0, 1) := by decide +kernel
theorem dX11_plank_5 : decode cX11_plank 5 = .ok (.getfield 26, 3) := by decide +kernel
theorem dX11_plank_8 : decode cX11_plank 8 = .ok (.invokevirtual 261, 3) := by decide +kernel
theorem dX11_plank_11 : decode cX11_plank 11 = .ok (.aload_n 0, 1) := by decide +kernel
theorem dX11_plank_12 : decode cX11_plank 12 = .ok (.aload_n 0, 1) := by decide +kernel
theorem dX11_plank_13 : decode cX11_plank 13 = .ok (.iload_n 1, 1) := by decide +kernel
theorem dX11_plank_14 : decode cX11_plank 14 = .ok (.invokevirtual 270, 3) := by decide +kernel
theorem dX11_plank_17 : decode cX11_plank 17 = .ok (.invokevirtual 267, 3) := by decide +kernel
theorem dX11_plank_20 : decode cX11_plank 20 = .ok (.ireturn, 1) := by decide +kernel
theorem dX11_hours_0 : decode cX11_hours 0 = .ok (.aload_n 0, 1) := by decide +kernel
theorem dX11_hours_1 : decode cX11_hours 1 = .ok (.getfield 30, 3) := by decide +kernel
theorem dX11_hours_4 : decode cX11_hours 4 = .ok (.aload_n 0, 1) := by decide +kernel
theorem dX11_hours_5 : decode cX11_hours 5 = .ok (.getfield 26, 3) := by decide +kernel
theorem dX11_hours_8 : decode cX11_hours 8 = .ok (.invokevirtual 261, 3) := by decide +kernel
theorem dX11_hours_11 : decode cX11_hours 11 = .ok (.aload_n 0, 1) := by decide +kernel
theorem dX11_hours_12 : decode cX11_hours 12 = .ok (.aload_n 0, 1) := by decide +kernel
theorem dX11_hours_13 : decode cX11_hours 13 = .ok (.iload_n 1, 1) := by decide +kernel
theorem dX11_hours_14 : decode cX11_hours 14 = .ok (.bipush 30, 2) := by decide +kernel
theorem dX11_hours_16 : decode cX11_hours 16 = .ok (.invokevirtual 273, 3) := by decide +kernel
theorem dX11_hours_19 : decode cX11_hours 19 = .ok (.invokevirtual 267, 3) := by decide +kernel
theorem dX11_hours_22 : decode cX11_hours 22 = .ok (.istore_n 2, 1) := by decide +kernel
theorem dX11_hours_23 : decode cX11_hours 23 = .ok (.iload_n 2, 1) := by decide +kernel
theorem dX11_hours_24 : decode cX11_hours 24 = .ok (.ifCond .lt 26, 3) := by decide +kernel
theorem dX11_hours_27 : decode cX11_hours 27 = .ok (.aload_n 0, 1) := by decide +kernel
theorem dX11_hours_28 : decode cX11_hours 28 = .ok (.getfield 19, 3) := by decide +kernel
theorem dX11_hours_31 : decode cX11_hours 31 = .ok (.aload_n 0, 1) := by decide +kernel
theorem dX11_hours_32 : decode cX11_hours 32 = .ok (.getfield 26, 3) := by decide +kernel
theorem dX11_hours_35 : decode cX11_hours 35 = .ok (.getfield 276, 3) := by decide +kernel
theorem dX11_hours_38 : decode cX11_hours 38 = .ok (.aload_n 0, 1) := by decide +kernel
theorem dX11_hours_39 : decode cX11_hours 39 = .ok (.getfield 30, 3) := by decide +kernel
theorem dX11_hours_42 : decode cX11_hours 42 = .ok (.getfield 276, 3) := by decide +kernel
theorem dX11_hours_45 : decode cX11_hours 45 = .ok (.isub, 1) := by decide +kernel
theorem dX11_hours_46 : decode cX11_hours 46 = .ok (.i2l, 1) := by decide +kernel
theorem dX11_hours_47 : decode cX11_hours 47 = .ok (.invokevirtual 279, 3) := by decide +kernel
theorem dX11_hours_50 : decode cX11_hours 50 = .ok (.iload_n 2, 1) := by decide +kernel
theorem dX11_hours_51 : decode cX11_hours 51 = .ok (.ireturn, 1) := by decide +kernel
theorem dX11_remembered_0 : decode cX11_remembered 0 = .ok (.iload_n 1, 1) := by decide +kernel
theorem dX11_remembered_1 : decode cX11_remembered 1 = .ok (.ifCond .lt 14, 3) := by decide +kernel
theorem dX11_remembered_4 : decode cX11_remembered 4 = .ok (.aload_n 0, 1) := by decide +kernel
theorem dX11_remembered_5 : decode cX11_remembered 5 = .ok (.getfield 36, 3) := by decide +kernel
theorem dX11_remembered_8 : decode cX11_remembered 8 = .ok (.aload_n 0, 1) := by decide +kernel
theorem dX11_remembered_9 : decode cX11_remembered 9 = .ok (.getfield 30, 3) := by decide +kernel
theorem dX11_remembered_12 : decode cX11_remembered 12 = .ok (.invokevirtual 283, 3) := by decide +kernel
theorem dX11_remembered_15 : decode cX11_remembered 15 = .ok (.iload_n 1, 1) := by decide +kernel
theorem dX11_remembered_16 : decode cX11_remembered 16 = .ok (.ireturn, 1) := by decide +kernel
theorem dX11_dragShip_0 : decode cX11_dragShip 0 = .ok (.aload_n 0, 1) := by decide +kernel
theorem dX11_dragShip_1 : decode cX11_dragShip 1 = .ok (.iload_n 1, 1) := by decide +kernel
theorem dX11_dragShip_2 : decode cX11_dragShip 2 = .ok (.iload_n 2, 1) := by decide +kernel
theorem dX11_dragShip_3 : decode cX11_dragShip 3 = .ok (.invokevirtual 220, 3) := by decide +kernel
theorem dX11_dragShip_6 : decode cX11_dragShip 6 = .ok (.istore_n 3, 1) := by decide +kernel
theorem dX11_dragShip_7 : decode cX11_dragShip 7 = .ok (.iload_n 3, 1) := by decide +kernel
theorem dX11_dragShip_8 : decode cX11_dragShip 8 = .ok (.ifCond .ge 5, 3) := by decide +kernel
theorem dX11_dragShip_11 : decode cX11_dragShip 11 = .ok (.iload_n 3, 1) := by decide +kernel
theorem dX11_dragShip_12 : decode cX11_dragShip 12 = .ok (.ireturn, 1) := by decide +kernel
theorem dX11_dragShip_13 : decode cX11_dragShip 13 = .ok (.aload_n 0, 1) := by decide +kernel
theorem dX11_dragShip_14 : decode cX11_dragShip 14 = .ok (.getfield 26, 3) := by decide +kernel
theorem dX11_dragShip_17 : decode cX11_dragShip 17 = .ok (.iload_n 1, 1) := by decide +kernel
theorem dX11_dragShip_18 : decode cX11_dragShip 18 = .ok (.invokevirtual 212, 3) := by decide +kernel
theorem dX11_dragShip_21 : decode cX11_dragShip 21 = .ok (.ifCond .eq 6, 3) := by decide +kernel
theorem dX11_dragShip_24 : decode cX11_dragShip 24 = .ok (.bipush (-3), 2) := by decide +kernel
theorem dX11_dragShip_26 : decode cX11_dragShip 26 = .ok (.ireturn, 1) := by decide +kernel
theorem dX11_dragShip_27 : decode cX11_dragShip 27 = .ok (.aload_n 0, 1) := by decide +kernel
theorem dX11_dragShip_28 : decode cX11_dragShip 28 = .ok (.getfield 44, 3) := by decide +kernel
theorem dX11_dragShip_31 : decode cX11_dragShip 31 = .ok (.aload_n 0, 1) := by decide +kernel
theorem dX11_dragShip_32 : decode cX11_dragShip 32 = .ok (.getfield 26, 3) := by decide +kernel
theorem dX11_dragShip_35 : decode cX11_dragShip 35 = .ok (.getfield 246, 3) := by decide +kernel
theorem dX11_dragShip_38 : decode cX11_dragShip 38 = .ok (.isub, 1) := by decide +kernel
theorem dX11_dragShip_39 : decode cX11_dragShip 39 = .ok (.iload_n 3, 1) := by decide +kernel
theorem dX11_dragShip_40 : decode cX11_dragShip 40 = .ok (.if_icmp .ge 6, 3) := by decide +kernel
theorem dX11_dragShip_43 : decode cX11_dragShip 43 = .ok (.bipush (-4), 2) := by decide +kernel
theorem dX11_dragShip_45 : decode cX11_dragShip 45 = .ok (.ireturn, 1) := by decide +kernel
theorem dX11_dragShip_46 : decode cX11_dragShip 46 = .ok (.aload_n 0, 1) := by decide +kernel
theorem dX11_dragShip_47 : decode cX11_dragShip 47 = .ok (.getfield 26, 3) := by decide +kernel
theorem dX11_dragShip_50 : decode cX11_dragShip 50 = .ok (.iload_n 1, 1) := by decide +kernel
theorem dX11_dragShip_51 : decode cX11_dragShip 51 = .ok (.aload_n 0, 1) := by decide +kernel
theorem dX11_dragShip_52 : decode cX11_dragShip 52 = .ok (.getfield 85, 3) := by decide +kernel
theorem dX11_dragShip_55 : decode cX11_dragShip 55 = .ok (.aload_n 0, 1) := by decide +kernel
theorem dX11_dragShip_56 : decode cX11_dragShip 56 = .ok (.getfield 26, 3) := by decide +kernel
theorem dX11_dragShip_59 : decode cX11_dragShip 59 = .ok (.iload_n 1, 1) := by decide +kernel
theorem dX11_dragShip_60 : decode cX11_dragShip 60 = .ok (.invokevirtual 209, 3) := by decide +kernel
theorem dX11_dragShip_63 : decode cX11_dragShip 63 = .ok (.iload_n 2, 1) := by decide +kernel
theorem dX11_dragShip_64 : decode cX11_dragShip 64 = .ok (.invokevirtual 224, 3) := by decide +kernel
theorem dX11_dragShip_67 : decode cX11_dragShip 67 = .ok (.invokevirtual 175, 3) := by decide +kernel
theorem dX11_dragShip_70 : decode cX11_dragShip 70 = .ok (.aload_n 0, 1) := by decide +kernel
theorem dX11_dragShip_71 : decode cX11_dragShip 71 = .ok (.getfield 26, 3) := by decide +kernel
theorem dX11_dragShip_74 : decode cX11_dragShip 74 = .ok (.dup, 1) := by decide +kernel
theorem dX11_dragShip_75 : decode cX11_dragShip 75 = .ok (.getfield 286, 3) := by decide +kernel
theorem dX11_dragShip_78 : decode cX11_dragShip 78 = .ok (.iconst 1, 1) := by decide +kernel
theorem dX11_dragShip_79 : decode cX11_dragShip 79 = .ok (.iload_n 1, 1) := by decide +kernel
theorem dX11_dragShip_80 : decode cX11_dragShip 80 = .ok (.ishl, 1) := by decide +kernel
theorem dX11_dragShip_81 : decode cX11_dragShip 81 = .ok (.ior, 1) := by decide +kernel
theorem dX11_dragShip_82 : decode cX11_dragShip 82 = .ok (.putfield 286, 3) := by decide +kernel
theorem dX11_dragShip_85 : decode cX11_dragShip 85 = .ok (.aload_n 0, 1) := by decide +kernel
theorem dX11_dragShip_86 : decode cX11_dragShip 86 = .ok (.getfield 26, 3) := by decide +kernel
theorem dX11_dragShip_89 : decode cX11_dragShip 89 = .ok (.dup, 1) := by decide +kernel
theorem dX11_dragShip_90 : decode cX11_dragShip 90 = .ok (.getfield 246, 3) := by decide +kernel
theorem dX11_dragShip_93 : decode cX11_dragShip 93 = .ok (.iload_n 3, 1) := by decide +kernel
theorem dX11_dragShip_94 : decode cX11_dragShip 94 = .ok (.iadd, 1) := by decide +kernel
theorem dX11_dragShip_95 : decode cX11_dragShip 95 = .ok (.putfield 246, 3) := by decide +kernel
theorem dX11_dragShip_98 : decode cX11_dragShip 98 = .ok (.aload_n 0, 1) := by decide +kernel
theorem dX11_dragShip_99 : decode cX11_dragShip 99 = .ok (.getfield 26, 3) := by decide +kernel
theorem dX11_dragShip_102 : decode cX11_dragShip 102 = .ok (.dup, 1) := by decide +kernel
theorem dX11_dragShip_103 : decode cX11_dragShip 103 = .ok (.getfield 289, 3) := by decide +kernel
theorem dX11_dragShip_106 : decode cX11_dragShip 106 = .ok (.iload_n 3, 1) := by decide +kernel
theorem dX11_dragShip_107 : decode cX11_dragShip 107 = .ok (.aload_n 0, 1) := by decide +kernel
theorem dX11_dragShip_108 : decode cX11_dragShip 108 = .ok (.getfield 26, 3) := by decide +kernel
theorem dX11_dragShip_111 : decode cX11_dragShip 111 = .ok (.getfield 234, 3) := by decide +kernel
theorem dX11_dragShip_114 : decode cX11_dragShip 114 = .ok (.invokestatic 237, 3) := by decide +kernel
theorem dX11_dragShip_117 : decode cX11_dragShip 117 = .ok (.invokestatic 292, 3) := by decide +kernel
theorem dX11_dragShip_120 : decode cX11_dragShip 120 = .ok (.iadd, 1) := by decide +kernel
theorem dX11_dragShip_121 : decode cX11_dragShip 121 = .ok (.putfield 289, 3) := by decide +kernel
theorem dX11_dragShip_124 : decode cX11_dragShip 124 = .ok (.aload_n 0, 1) := by decide +kernel
theorem dX11_dragShip_125 : decode cX11_dragShip 125 = .ok (.getfield 44, 3) := by decide +kernel
theorem dX11_dragShip_128 : decode cX11_dragShip 128 = .ok (.aload_n 0, 1) := by decide +kernel
theorem dX11_dragShip_129 : decode cX11_dragShip 129 = .ok (.getfield 26, 3) := by decide +kernel
theorem dX11_dragShip_132 : decode cX11_dragShip 132 = .ok (.getfield 246, 3) := by decide +kernel
theorem dX11_dragShip_135 : decode cX11_dragShip 135 = .ok (.isub, 1) := by decide +kernel
theorem dX11_dragShip_136 : decode cX11_dragShip 136 = .ok (.ireturn, 1) := by decide +kernel
theorem dX11_turnPlanks_0 : decode cX11_turnPlanks 0 = .ok (.aload_n 0, 1) := by decide +kernel
theorem dX11_turnPlanks_1 : decode cX11_turnPlanks 1 = .ok (.getfield 85, 3) := by decide +kernel
theorem dX11_turnPlanks_4 : decode cX11_turnPlanks 4 = .ok (.iload_n 1, 1) := by decide +kernel
theorem dX11_turnPlanks_5 : decode cX11_turnPlanks 5 = .ok (.invokevirtual 169, 3) := by decide +kernel
theorem dX11_turnPlanks_8 : decode cX11_turnPlanks 8 = .ok (.ifCond .ne 5, 3) := by decide +kernel
theorem dX11_turnPlanks_11 : decode cX11_turnPlanks 11 = .ok (.iconst (-1), 1) := by decide +kernel
theorem dX11_turnPlanks_12 : decode cX11_turnPlanks 12 = .ok (.ireturn, 1) := by decide +kernel
theorem dX11_turnPlanks_13 : decode cX11_turnPlanks 13 = .ok (.aload_n 0, 1) := by decide +kernel
theorem dX11_turnPlanks_14 : decode cX11_turnPlanks 14 = .ok (.getfield 85, 3) := by decide +kernel
theorem dX11_turnPlanks_17 : decode cX11_turnPlanks 17 = .ok (.iload_n 1, 1) := by decide +kernel
theorem dX11_turnPlanks_18 : decode cX11_turnPlanks 18 = .ok (.invokevirtual 172, 3) := by decide +kernel
theorem dX11_turnPlanks_21 : decode cX11_turnPlanks 21 = .ok (.ifCond .eq 6, 3) := by decide +kernel
theorem dX11_turnPlanks_24 : decode cX11_turnPlanks 24 = .ok (.bipush (-2), 2) := by decide +kernel
theorem dX11_turnPlanks_26 : decode cX11_turnPlanks 26 = .ok (.ireturn, 1) := by decide +kernel
theorem dX11_turnPlanks_27 : decode cX11_turnPlanks 27 = .ok (.aload_n 0, 1) := by decide +kernel
theorem dX11_turnPlanks_28 : decode cX11_turnPlanks 28 = .ok (.getfield 26, 3) := by decide +kernel
theorem dX11_turnPlanks_31 : decode cX11_turnPlanks 31 = .ok (.dup, 1) := by decide +kernel
theorem dX11_turnPlanks_32 : decode cX11_turnPlanks 32 = .ok (.getfield 295, 3) := by decide +kernel
theorem dX11_turnPlanks_35 : decode cX11_turnPlanks 35 = .ok (.lconst 1, 1) := by decide +kernel
theorem dX11_turnPlanks_36 : decode cX11_turnPlanks 36 = .ok (.iload_n 1, 1) := by decide +kernel
theorem dX11_turnPlanks_37 : decode cX11_turnPlanks 37 = .ok (.lshl, 1) := by decide +kernel
theorem dX11_turnPlanks_38 : decode cX11_turnPlanks 38 = .ok (.lxor, 1) := by decide +kernel
theorem dX11_turnPlanks_39 : decode cX11_turnPlanks 39 = .ok (.putfield 295, 3) := by decide +kernel
theorem dX11_turnPlanks_42 : decode cX11_turnPlanks 42 = .ok (.aload_n 0, 1) := by decide +kernel
theorem dX11_turnPlanks_43 : decode cX11_turnPlanks 43 = .ok (.getfield 26, 3) := by decide +kernel
theorem dX11_turnPlanks_46 : decode cX11_turnPlanks 46 = .ok (.getfield 295, 3) := by decide +kernel
theorem dX11_turnPlanks_49 : decode cX11_turnPlanks 49 = .ok (.invokestatic 299, 3) := by decide +kernel
theorem dX11_turnPlanks_52 : decode cX11_turnPlanks 52 = .ok (.ireturn, 1) := by decide +kernel
theorem dX11_letPass_0 : decode cX11_letPass 0 = .ok (.iload_n 1, 1) := by decide +kernel
theorem dX11_letPass_1 : decode cX11_letPass 1 = .ok (.iconst 1, 1) := by decide +kernel
theorem dX11_letPass_2 : decode cX11_letPass 2 = .ok (.if_icmp .lt 8, 3) := by decide +kernel
theorem dX11_letPass_5 : decode cX11_letPass 5 = .ok (.iload_n 1, 1) := by decide +kernel
theorem dX11_letPass_6 : decode cX11_letPass 6 = .ok (.iload_n 2, 1) := by decide +kernel
theorem dX11_letPass_7 : decode cX11_letPass 7 = .ok (.if_icmp .le 5, 3) := by decide +kernel
theorem dX11_letPass_10 : decode cX11_letPass 10 = .ok (.iconst (-1), 1) := by decide +kernel
theorem dX11_letPass_11 : decode cX11_letPass 11 = .ok (.ireturn, 1) := by decide +kernel
theorem dX11_letPass_12 : decode cX11_letPass 12 = .ok (.iconst 0, 1) := by decide +kernel
theorem dX11_letPass_13 : decode cX11_letPass 13 = .ok (.istore_n 3, 1) := by decide +kernel
theorem dX11_letPass_14 : decode cX11_letPass 14 = .ok (.iload_n 3, 1) := by decide +kernel
theorem dX11_letPass_15 : decode cX11_letPass 15 = .ok (.iload_n 1, 1) := by decide +kernel
theorem dX11_letPass_16 : decode cX11_letPass 16 = .ok (.if_icmp .ge 20, 3) := by decide +kernel
theorem dX11_letPass_19 : decode cX11_letPass 19 = .ok (.aload_n 0, 1) := by decide +kernel
theorem dX11_letPass_20 : decode cX11_letPass 20 = .ok (.getfield 26, 3) := by decide +kernel
theorem dX11_letPass_23 : decode cX11_letPass 23 = .ok (.aload_n 0, 1) := by decide +kernel
theorem dX11_letPass_24 : decode cX11_letPass 24 = .ok (.getfield 48, 3) := by decide +kernel
theorem dX11_letPass_27 : decode cX11_letPass 27 = .ok (.invokevirtual 305, 3) := by decide +kernel
theorem dX11_letPass_30 : decode cX11_letPass 30 = .ok (.iinc 3 1, 3) := by decide +kernel
theorem dX11_letPass_33 : decode cX11_letPass 33 = .ok (.goto (-19), 3) := by decide +kernel
theorem dX11_letPass_36 : decode cX11_letPass 36 = .ok (.bipush 10, 2) := by decide +kernel
theorem dX11_letPass_38 : decode cX11_letPass 38 = .ok (.aload_n 0, 1) := by decide +kernel
theorem dX11_letPass_39 : decode cX11_letPass 39 = .ok (.getfield 26, 3) := by decide +kernel
theorem dX11_letPass_42 : decode cX11_letPass 42 = .ok (.getfield 234, 3) := by decide +kernel
theorem dX11_letPass_45 : decode cX11_letPass 45 = .ok (.imul, 1) := by decide +kernel
theorem dX11_letPass_46 : decode cX11_letPass 46 = .ok (.aload_n 0, 1) := by decide +kernel
theorem dX11_letPass_47 : decode cX11_letPass 47 = .ok (.getfield 26, 3) := by decide +kernel
theorem dX11_letPass_50 : decode cX11_letPass 50 = .ok (.getfield 227, 3) := by decide +kernel
theorem dX11_letPass_53 : decode cX11_letPass 53 = .ok (.iadd, 1) := by decide +kernel
theorem dX11_letPass_54 : decode cX11_letPass 54 = .ok (.ireturn, 1) := by decide +kernel
theorem dX11_siege_0 : decode cX11_siege 0 = .ok (.aload_n 0, 1) := by decide +kernel
theorem dX11_siege_1 : decode cX11_siege 1 = .ok (.invokevirtual 308, 3) := by decide +kernel
theorem dX11_siege_4 : decode cX11_siege 4 = .ok (.ifCond .ne 22, 3) := by decide +kernel
theorem dX11_siege_7 : decode cX11_siege 7 = .ok (.iconst (-1), 1) := by decide +kernel
theorem dX11_siege_8 : decode cX11_siege 8 = .ok (.aload_n 0, 1) := by decide +kernel
theorem dX11_siege_9 : decode cX11_siege 9 = .ok (.getfield 10, 3) := by decide +kernel
theorem dX11_siege_12 : decode cX11_siege 12 = .ok (.getfield 123, 3) := by decide +kernel
theorem dX11_siege_15 : decode cX11_siege 15 = .ok (.isub, 1) := by decide +kernel
theorem dX11_siege_16 : decode cX11_siege 16 = .ok (.istore_n 1, 1) := by decide +kernel
theorem dX11_siege_17 : decode cX11_siege 17 = .ok (.aload_n 0, 1) := by decide +kernel
theorem dX11_siege_18 : decode cX11_siege 18 = .ok (.getfield 10, 3) := by decide +kernel
theorem dX11_siege_21 : decode cX11_siege 21 = .ok (.invokevirtual 136, 3) := by decide +kernel
theorem dX11_siege_24 : decode cX11_siege 24 = .ok (.iload_n 1, 1) := by decide +kernel
theorem dX11_siege_25 : decode cX11_siege 25 = .ok (.ireturn, 1) := by decide +kernel
theorem dX11_siege_26 : decode cX11_siege 26 = .ok (.aload_n 0, 1) := by decide +kernel
theorem dX11_siege_27 : decode cX11_siege 27 = .ok (.getfield 30, 3) := by decide +kernel
theorem dX11_siege_30 : decode cX11_siege 30 = .ok (.aload_n 0, 1) := by decide +kernel
theorem dX11_siege_31 : decode cX11_siege 31 = .ok (.getfield 26, 3) := by decide +kernel
theorem dX11_siege_34 : decode cX11_siege 34 = .ok (.invokevirtual 261, 3) := by decide +kernel
theorem dX11_siege_37 : decode cX11_siege 37 = .ok (.aload_n 0, 1) := by decide +kernel
theorem dX11_siege_38 : decode cX11_siege 38 = .ok (.getfield 10, 3) := by decide +kernel
theorem dX11_siege_41 : decode cX11_siege 41 = .ok (.bipush 60, 2) := by decide +kernel
theorem dX11_siege_43 : decode cX11_siege 43 = .ok (.invokevirtual 115, 3) := by decide +kernel
theorem dX11_siege_46 : decode cX11_siege 46 = .ok (.iconst 0, 1) := by decide +kernel
theorem dX11_siege_47 : decode cX11_siege 47 = .ok (.istore_n 1, 1) := by decide +kernel
theorem dX11_siege_48 : decode cX11_siege 48 = .ok (.iconst 0, 1) := by decide +kernel
theorem dX11_siege_49 : decode cX11_siege 49 = .ok (.istore_n 2, 1) := by decide +kernel
theorem dX11_siege_50 : decode cX11_siege 50 = .ok (.iconst 0, 1) := by decide +kernel
theorem dX11_siege_51 : decode cX11_siege 51 = .ok (.istore_n 3, 1) := by decide +kernel
theorem dX11_siege_52 : decode cX11_siege 52 = .ok (.iload_n 3, 1) := by decide +kernel
theorem dX11_siege_53 : decode cX11_siege 53 = .ok (.bipush 60, 2) := by decide +kernel
theorem dX11_siege_55 : decode cX11_siege 55 = .ok (.if_icmp .ge 48, 3) := by decide +kernel
theorem dX11_siege_58 : decode cX11_siege 58 = .ok (.iload_n 2, 1) := by decide +kernel
theorem dX11_siege_59 : decode cX11_siege 59 = .ok (.ifCond .ne 44, 3) := by decide +kernel
theorem dX11_siege_62 : decode cX11_siege 62 = .ok (.aload_n 0, 1) := by decide +kernel
theorem dX11_siege_63 : decode cX11_siege 63 = .ok (.getfield 10, 3) := by decide +kernel
theorem dX11_siege_66 : decode cX11_siege 66 = .ok (.invokevirtual 144, 3) := by decide +kernel
theorem dX11_siege_69 : decode cX11_siege 69 = .ok (.ifCond .ne 34, 3) := by decide +kernel
theorem dX11_siege_72 : decode cX11_siege 72 = .ok (.aload_n 0, 1) := by decide +kernel
theorem dX11_siege_73 : decode cX11_siege 73 = .ok (.invokevirtual 311, 3) := by decide +kernel
theorem dX11_siege_76 : decode cX11_siege 76 = .ok (.ifCond .ge 7, 3) := by decide +kernel
theorem dX11_siege_79 : decode cX11_siege 79 = .ok (.iconst 1, 1) := by decide +kernel
theorem dX11_siege_80 : decode cX11_siege 80 = .ok (.goto 4, 3) := by decide +kernel
theorem dX11_siege_83 : decode cX11_siege 83 = .ok (.iconst 0, 1) := by decide +kernel
theorem dX11_siege_84 : decode cX11_siege 84 = .ok (.istore_n 2, 1) := by decide +kernel
theorem dX11_siege_85 : decode cX11_siege 85 = .ok (.iload_n 1, 1) := by decide +kernel
theorem dX11_siege_86 : decode cX11_siege 86 = .ok (.iload_n 2, 1) := by decide +kernel
theorem dX11_siege_87 : decode cX11_siege 87 = .ok (.ifCond .eq 7, 3) := by decide +kernel
theorem dX11_siege_90 : decode cX11_siege 90 = .ok (.iconst 0, 1) := by decide +kernel
theorem dX11_siege_91 : decode cX11_siege 91 = .ok (.goto 4, 3) := by decide +kernel
theorem dX11_siege_94 : decode cX11_siege 94 = .ok (.iconst 1, 1) := by decide +kernel
theorem dX11_siege_95 : decode cX11_siege 95 = .ok (.iadd, 1) := by decide +kernel
theorem dX11_siege_96 : decode cX11_siege 96 = .ok (.istore_n 1, 1) := by decide +kernel
theorem dX11_siege_97 : decode cX11_siege 97 = .ok (.iinc 3 1, 3) := by decide +kernel
theorem dX11_siege_100 : decode cX11_siege 100 = .ok (.goto (-48), 3) := by decide +kernel
theorem dX11_siege_103 : decode cX11_siege 103 = .ok (.aload_n 0, 1) := by decide +kernel
theorem dX11_siege_104 : decode cX11_siege 104 = .ok (.getfield 10, 3) := by decide +kernel
theorem dX11_siege_107 : decode cX11_siege 107 = .ok (.invokevirtual 136, 3) := by decide +kernel
theorem dX11_siege_110 : decode cX11_siege 110 = .ok (.iload_n 1, 1) := by decide +kernel
theorem dX11_siege_111 : decode cX11_siege 111 = .ok (.ifCond .le 14, 3) := by decide +kernel
theorem dX11_siege_114 : decode cX11_siege 114 = .ok (.aload_n 0, 1) := by decide +kernel
theorem dX11_siege_115 : decode cX11_siege 115 = .ok (.getfield 36, 3) := by decide +kernel
theorem dX11_siege_118 : decode cX11_siege 118 = .ok (.aload_n 0, 1) := by decide +kernel
theorem dX11_siege_119 : decode cX11_siege 119 = .ok (.getfield 30, 3) := by decide +kernel
theorem dX11_siege_122 : decode cX11_siege 122 = .ok (.invokevirtual 283, 3) := by decide +kernel
theorem dX11_siege_125 : decode cX11_siege 125 = .ok (.aload_n 0, 1) := by decide +kernel
theorem dX11_siege_126 : decode cX11_siege 126 = .ok (.getfield 19, 3) := by decide +kernel
theorem dX11_siege_129 : decode cX11_siege 129 = .ok (.iload_n 2, 1) := by decide +kernel
theorem dX11_siege_130 : decode cX11_siege 130 = .ok (.ifCond .eq 7, 3) := by decide +kernel
theorem dX11_siege_133 : decode cX11_siege 133 = .ok (.lconst 1, 1) := by decide +kernel
theorem dX11_siege_134 : decode cX11_siege 134 = .ok (.goto 4, 3) := by decide +kernel
theorem dX11_siege_137 : decode cX11_siege 137 = .ok (.lconst 0, 1) := by decide +kernel
theorem dX11_siege_138 : decode cX11_siege 138 = .ok (.aload_n 0, 1) := by decide +kernel
theorem dX11_siege_139 : decode cX11_siege 139 = .ok (.invokevirtual 314, 3) := by decide +kernel
theorem dX11_siege_142 : decode cX11_siege 142 = .ok (.invokestatic 317, 3) := by decide +kernel
theorem dX11_siege_145 : decode cX11_siege 145 = .ok (.i2l, 1) := by decide +kernel
theorem dX11_siege_146 : decode cX11_siege 146 = .ok (.invokevirtual 321, 3) := by decide +kernel
theorem dX11_siege_149 : decode cX11_siege 149 = .ok (.iload_n 1, 1) := by decide +kernel
theorem dX11_siege_150 : decode cX11_siege 150 = .ok (.ireturn, 1) := by decide +kernel
theorem dX11_canReadActs_0 : decode cX11_canReadActs 0 = .ok (.aload_n 0, 1) := by decide +kernel
theorem dX11_canReadActs_1 : decode cX11_canReadActs 1 = .ok (.getfield 10, 3) := by decide +kernel
theorem dX11_canReadActs_4 : decode cX11_canReadActs 4 = .ok (.bipush 60, 2) := by decide +kernel
theorem dX11_canReadActs_6 : decode cX11_canReadActs 6 = .ok (.invokevirtual 115, 3) := by decide +kernel
theorem dX11_canReadActs_9 : decode cX11_canReadActs 9 = .ok (.iconst 0, 1) := by decide +kernel
theorem dX11_canReadActs_10 : decode cX11_canReadActs 10 = .ok (.istore_n 1, 1) := by decide +kernel
theorem dX11_canReadActs_11 : decode cX11_canReadActs 11 = .ok (.iload_n 1, 1) := by decide +kernel
theorem dX11_canReadActs_12 : decode cX11_canReadActs 12 = .ok (.bipush 60, 2) := by decide +kernel
theorem dX11_canReadActs_14 : decode cX11_canReadActs 14 = .ok (.if_icmp .ge 139, 3) := by decide +kernel
theorem dX11_canReadActs_17 : decode cX11_canReadActs 17 = .ok (.aload_n 0, 1) := by decide +kernel
theorem dX11_canReadActs_18 : decode cX11_canReadActs 18 = .ok (.getfield 10, 3) := by decide +kernel
theorem dX11_canReadActs_21 : decode cX11_canReadActs 21 = .ok (.invokevirtual 144, 3) := by decide +kernel
theorem dX11_canReadActs_24 : decode cX11_canReadActs 24 = .ok (.ifCond .ne 129, 3) := by decide +kernel
theorem dX11_canReadActs_27 : decode cX11_canReadActs 27 = .ok (.iconst 0, 1) := by decide +kernel
theorem dX11_canReadActs_28 : decode cX11_canReadActs 28 = .ok (.istore_n 2, 1) := by decide +kernel
theorem dX11_canReadActs_29 : decode cX11_canReadActs 29 = .ok (.aload_n 0, 1) := by decide +kernel
theorem dX11_canReadActs_30 : decode cX11_canReadActs 30 = .ok (.getfield 10, 3) := by decide +kernel
theorem dX11_canReadActs_33 : decode cX11_canReadActs 33 = .ok (.bipush 100, 2) := by decide +kernel
theorem dX11_canReadActs_35 : decode cX11_canReadActs 35 = .ok (.invokevirtual 155, 3) := by decide +kernel
theorem dX11_canReadActs_38 : decode cX11_canReadActs 38 = .ok (.ifCond .eq 39, 3) := by decide +kernel
theorem dX11_canReadActs_41 : decode cX11_canReadActs 41 = .ok (.aload_n 0, 1) := by decide +kernel
theorem dX11_canReadActs_42 : decode cX11_canReadActs 42 = .ok (.getfield 10, 3) := by decide +kernel
theorem dX11_canReadActs_45 : decode cX11_canReadActs 45 = .ok (.iconst 0, 1) := by decide +kernel
theorem dX11_canReadActs_46 : decode cX11_canReadActs 46 = .ok (.bipush 9, 2) := by decide +kernel
theorem dX11_canReadActs_48 : decode cX11_canReadActs 48 = .ok (.invokevirtual 325, 3) := by decide +kernel
theorem dX11_canReadActs_51 : decode cX11_canReadActs 51 = .ok (.iconst (-1), 1) := by decide +kernel
theorem dX11_canReadActs_52 : decode cX11_canReadActs 52 = .ok (.if_icmp .eq 20, 3) := by decide +kernel
theorem dX11_canReadActs_55 : decode cX11_canReadActs 55 = .ok (.aload_n 0, 1) := by decide +kernel
theorem dX11_canReadActs_56 : decode cX11_canReadActs 56 = .ok (.getfield 10, 3) := by decide +kernel
theorem dX11_canReadActs_59 : decode cX11_canReadActs 59 = .ok (.iconst 0, 1) := by decide +kernel
theorem dX11_canReadActs_60 : decode cX11_canReadActs 60 = .ok (.iconst 3, 1) := by decide +kernel
theorem dX11_canReadActs_61 : decode cX11_canReadActs 61 = .ok (.invokevirtual 325, 3) := by decide +kernel
theorem dX11_canReadActs_64 : decode cX11_canReadActs 64 = .ok (.iconst (-1), 1) := by decide +kernel
theorem dX11_canReadActs_65 : decode cX11_canReadActs 65 = .ok (.if_icmp .eq 7, 3) := by decide +kernel
theorem dX11_canReadActs_68 : decode cX11_canReadActs 68 = .ok (.iconst 1, 1) := by decide +kernel
theorem dX11_canReadActs_69 : decode cX11_canReadActs 69 = .ok (.goto 4, 3) := by decide +kernel
theorem dX11_canReadActs_72 : decode cX11_canReadActs 72 = .ok (.iconst 0, 1) := by decide +kernel
theorem dX11_canReadActs_73 : decode cX11_canReadActs 73 = .ok (.istore_n 2, 1) := by decide +kernel
theorem dX11_canReadActs_74 : decode cX11_canReadActs 74 = .ok (.goto 67, 3) := by decide +kernel
theorem dX11_canReadActs_77 : decode cX11_canReadActs 77 = .ok (.aload_n 0, 1) := by decide +kernel
theorem dX11_canReadActs_78 : decode cX11_canReadActs 78 = .ok (.getfield 10, 3) := by decide +kernel
theorem dX11_canReadActs_81 : decode cX11_canReadActs 81 = .ok (.bipush 112, 2) := by decide +kernel
theorem dX11_canReadActs_83 : decode cX11_canReadActs 83 = .ok (.invokevirtual 155, 3) := by decide +kernel
theorem dX11_canReadActs_86 : decode cX11_canReadActs 86 = .ok (.ifCond .eq 23, 3) := by decide +kernel
theorem dX11_canReadActs_89 : decode cX11_canReadActs 89 = .ok (.aload_n 0, 1) := by decide +kernel
theorem dX11_canReadActs_90 : decode cX11_canReadActs 90 = .ok (.getfield 10, 3) := by decide +kernel
theorem dX11_canReadActs_93 : decode cX11_canReadActs 93 = .ok (.invokevirtual 166, 3) := by decide +kernel
theorem dX11_canReadActs_96 : decode cX11_canReadActs 96 = .ok (.iconst (-1), 1) := by decide +kernel
theorem dX11_canReadActs_97 : decode cX11_canReadActs 97 = .ok (.if_icmp .eq 7, 3) := by decide +kernel
theorem dX11_canReadActs_100 : decode cX11_canReadActs 100 = .ok (.iconst 1, 1) := by decide +kernel
theorem dX11_canReadActs_101 : decode cX11_canReadActs 101 = .ok (.goto 4, 3) := by decide +kernel
theorem dX11_canReadActs_104 : decode cX11_canReadActs 104 = .ok (.iconst 0, 1) := by decide +kernel
theorem dX11_canReadActs_105 : decode cX11_canReadActs 105 = .ok (.istore_n 2, 1) := by decide +kernel
theorem dX11_canReadActs_106 : decode cX11_canReadActs 106 = .ok (.goto 35, 3) := by decide +kernel
theorem dX11_canReadActs_109 : decode cX11_canReadActs 109 = .ok (.aload_n 0, 1) := by decide +kernel
theorem dX11_canReadActs_110 : decode cX11_canReadActs 110 = .ok (.getfield 10, 3) := by decide +kernel
theorem dX11_canReadActs_113 : decode cX11_canReadActs 113 = .ok (.bipush 104, 2) := by decide +kernel
theorem dX11_canReadActs_115 : decode cX11_canReadActs 115 = .ok (.invokevirtual 155, 3) := by decide +kernel
theorem dX11_canReadActs_118 : decode cX11_canReadActs 118 = .ok (.ifCond .eq 23, 3) := by decide +kernel
theorem dX11_canReadActs_121 : decode cX11_canReadActs 121 = .ok (.aload_n 0, 1) := by decide +kernel
theorem dX11_canReadActs_122 : decode cX11_canReadActs 122 = .ok (.getfield 10, 3) := by decide +kernel
theorem dX11_canReadActs_125 : decode cX11_canReadActs 125 = .ok (.iconst 1, 1) := by decide +kernel
theorem dX11_canReadActs_126 : decode cX11_canReadActs 126 = .ok (.bipush 9, 2) := by decide +kernel
theorem dX11_canReadActs_128 : decode cX11_canReadActs 128 = .ok (.invokevirtual 325, 3) := by decide +kernel
theorem dX11_canReadActs_131 : decode cX11_canReadActs 131 = .ok (.iconst (-1), 1) := by decide +kernel
theorem dX11_canReadActs_132 : decode cX11_canReadActs 132 = .ok (.if_icmp .eq 7, 3) := by decide +kernel
theorem dX11_canReadActs_135 : decode cX11_canReadActs 135 = .ok (.iconst 1, 1) := by decide +kernel
theorem dX11_canReadActs_136 : decode cX11_canReadActs 136 = .ok (.goto 4, 3) := by decide +kernel
theorem dX11_canReadActs_139 : decode cX11_canReadActs 139 = .ok (.iconst 0, 1) := by decide +kernel
theorem dX11_canReadActs_140 : decode cX11_canReadActs 140 = .ok (.istore_n 2, 1) := by decide +kernel
theorem dX11_canReadActs_141 : decode cX11_canReadActs 141 = .ok (.iload_n 2, 1) := by decide +kernel
theorem dX11_canReadActs_142 : decode cX11_canReadActs 142 = .ok (.ifCond .ne 5, 3) := by decide +kernel
theorem dX11_canReadActs_145 : decode cX11_canReadActs 145 = .ok (.iconst 0, 1) := by decide +kernel
theorem dX11_canReadActs_146 : decode cX11_canReadActs 146 = .ok (.ireturn, 1) := by decide +kernel
theorem dX11_canReadActs_147 : decode cX11_canReadActs 147 = .ok (.iinc 1 1, 3) := by decide +kernel
theorem dX11_canReadActs_150 : decode cX11_canReadActs 150 = .ok (.goto (-139), 3) := by decide +kernel
theorem dX11_canReadActs_153 : decode cX11_canReadActs 153 = .ok (.aload_n 0, 1) := by decide +kernel
theorem dX11_canReadActs_154 : decode cX11_canReadActs 154 = .ok (.getfield 10, 3) := by decide +kernel
theorem dX11_canReadActs_157 : decode cX11_canReadActs 157 = .ok (.invokevirtual 144, 3) := by decide +kernel
theorem dX11_canReadActs_160 : decode cX11_canReadActs 160 = .ok (.ireturn, 1) := by decide +kernel
theorem dX11_doAct_0 : decode cX11_doAct 0 = .ok (.aload_n 0, 1) := by decide +kernel
theorem dX11_doAct_1 : decode cX11_doAct 1 = .ok (.getfield 10, 3) := by decide +kernel
theorem dX11_doAct_4 : decode cX11_doAct 4 = .ok (.bipush 100, 2) := by decide +kernel
theorem dX11_doAct_6 : decode cX11_doAct 6 = .ok (.invokevirtual 155, 3) := by decide +kernel
theorem dX11_doAct_9 : decode cX11_doAct 9 = .ok (.ifCond .eq 30, 3) := by decide +kernel
theorem dX11_doAct_12 : decode cX11_doAct 12 = .ok (.aload_n 0, 1) := by decide +kernel
theorem dX11_doAct_13 : decode cX11_doAct 13 = .ok (.getfield 10, 3) := by decide +kernel
theorem dX11_doAct_16 : decode cX11_doAct 16 = .ok (.iconst 0, 1) := by decide +kernel
theorem dX11_doAct_17 : decode cX11_doAct 17 = .ok (.bipush 9, 2) := by decide +kernel
theorem dX11_doAct_19 : decode cX11_doAct 19 = .ok (.invokevirtual 325, 3) := by decide +kernel
theorem dX11_doAct_22 : decode cX11_doAct 22 = .ok (.istore_n 1, 1) := by decide +kernel
theorem dX11_doAct_23 : decode cX11_doAct 23 = .ok (.aload_n 0, 1) := by decide +kernel
theorem dX11_doAct_24 : decode cX11_doAct 24 = .ok (.iload_n 1, 1) := by decide +kernel
theorem dX11_doAct_25 : decode cX11_doAct 25 = .ok (.aload_n 0, 1) := by decide +kernel
theorem dX11_doAct_26 : decode cX11_doAct 26 = .ok (.getfield 10, 3) := by decide +kernel
theorem dX11_doAct_29 : decode cX11_doAct 29 = .ok (.iconst 0, 1) := by decide +kernel
theorem dX11_doAct_30 : decode cX11_doAct 30 = .ok (.bipush 9, 2) := by decide +kernel
theorem dX11_doAct_32 : decode cX11_doAct 32 = .ok (.invokevirtual 325, 3) := by decide +kernel
theorem dX11_doAct_35 : decode cX11_doAct 35 = .ok (.invokevirtual 264, 3) := by decide +kernel
theorem dX11_doAct_38 : decode cX11_doAct 38 = .ok (.ireturn, 1) := by decide +kernel
theorem dX11_doAct_39 : decode cX11_doAct 39 = .ok (.aload_n 0, 1) := by decide +kernel
theorem dX11_doAct_40 : decode cX11_doAct 40 = .ok (.getfield 10, 3) := by decide +kernel
theorem dX11_doAct_43 : decode cX11_doAct 43 = .ok (.bipush 112, 2) := by decide +kernel
theorem dX11_doAct_45 : decode cX11_doAct 45 = .ok (.invokevirtual 155, 3) := by decide +kernel
theorem dX11_doAct_48 : decode cX11_doAct 48 = .ok (.ifCond .eq 15, 3) := by decide +kernel
theorem dX11_doAct_51 : decode cX11_doAct 51 = .ok (.aload_n 0, 1) := by decide +kernel
theorem dX11_doAct_52 : decode cX11_doAct 52 = .ok (.aload_n 0, 1) := by decide +kernel
theorem dX11_doAct_53 : decode cX11_doAct 53 = .ok (.getfield 10, 3) := by decide +kernel
theorem dX11_doAct_56 : decode cX11_doAct 56 = .ok (.invokevirtual 166, 3) := by decide +kernel
theorem dX11_doAct_59 : decode cX11_doAct 59 = .ok (.invokevirtual 270, 3) := by decide +kernel
theorem dX11_doAct_62 : decode cX11_doAct 62 = .ok (.ireturn, 1) := by decide +kernel
theorem dX11_doAct_63 : decode cX11_doAct 63 = .ok (.aload_n 0, 1) := by decide +kernel
theorem dX11_doAct_64 : decode cX11_doAct 64 = .ok (.getfield 10, 3) := by decide +kernel
theorem dX11_doAct_67 : decode cX11_doAct 67 = .ok (.bipush 104, 2) := by decide +kernel
theorem dX11_doAct_69 : decode cX11_doAct 69 = .ok (.invokevirtual 155, 3) := by decide +kernel
theorem dX11_doAct_72 : decode cX11_doAct 72 = .ok (.ifCond .eq 20, 3) := by decide +kernel
theorem dX11_doAct_75 : decode cX11_doAct 75 = .ok (.aload_n 0, 1) := by decide +kernel
theorem dX11_doAct_76 : decode cX11_doAct 76 = .ok (.aload_n 0, 1) := by decide +kernel
theorem dX11_doAct_77 : decode cX11_doAct 77 = .ok (.getfield 10, 3) := by decide +kernel
theorem dX11_doAct_80 : decode cX11_doAct 80 = .ok (.iconst 0, 1) := by decide +kernel
theorem dX11_doAct_81 : decode cX11_doAct 81 = .ok (.bipush 9, 2) := by decide +kernel
theorem dX11_doAct_83 : decode cX11_doAct 83 = .ok (.invokevirtual 325, 3) := by decide +kernel
theorem dX11_doAct_86 : decode cX11_doAct 86 = .ok (.bipush 9, 2) := by decide +kernel
theorem dX11_doAct_88 : decode cX11_doAct 88 = .ok (.invokevirtual 273, 3) := by decide +kernel
theorem dX11_doAct_91 : decode cX11_doAct 91 = .ok (.ireturn, 1) := by decide +kernel
theorem dX11_doAct_92 : decode cX11_doAct 92 = .ok (.iconst (-1), 1) := by decide +kernel
theorem dX11_doAct_93 : decode cX11_doAct 93 = .ok (.ireturn, 1) := by decide +kernel
theorem dX11_undo_0 : decode cX11_undo 0 = .ok (.aload_n 0, 1) := by decide +kernel
theorem dX11_undo_1 : decode cX11_undo 1 = .ok (.getfield 36, 3) := by decide +kernel
theorem dX11_undo_4 : decode cX11_undo 4 = .ok (.aload_n 0, 1) := by decide +kernel
theorem dX11_undo_5 : decode cX11_undo 5 = .ok (.getfield 26, 3) := by decide +kernel
theorem dX11_undo_8 : decode cX11_undo 8 = .ok (.invokevirtual 328, 3) := by decide +kernel
theorem dX11_undo_11 : decode cX11_undo 11 = .ok (.ifCond .eq 13, 3) := by decide +kernel
theorem dX11_undo_14 : decode cX11_undo 14 = .ok (.aload_n 0, 1) := by decide +kernel
theorem dX11_undo_15 : decode cX11_undo 15 = .ok (.getfield 36, 3) := by decide +kernel
theorem dX11_undo_18 : decode cX11_undo 18 = .ok (.getfield 332, 3) := by decide +kernel
theorem dX11_undo_21 : decode cX11_undo 21 = .ok (.goto 4, 3) := by decide +kernel
theorem dX11_undo_24 : decode cX11_undo 24 = .ok (.iconst (-1), 1) := by decide +kernel
theorem dX11_undo_25 : decode cX11_undo 25 = .ok (.ireturn, 1) := by decide +kernel
theorem dX11_way_0 : decode cX11_way 0 = .ok (.aload_n 0, 1) := by decide +kernel
theorem dX11_way_1 : decode cX11_way 1 = .ok (.iload_n 1, 1) := by decide +kernel
theorem dX11_way_2 : decode cX11_way 2 = .ok (.iload_n 2, 1) := by decide +kernel
theorem dX11_way_3 : decode cX11_way 3 = .ok (.iload_n 3, 1) := by decide +kernel
theorem dX11_way_4 : decode cX11_way 4 = .ok (.invokevirtual 333, 3) := by decide +kernel
theorem dX11_way_7 : decode cX11_way 7 = .ok (.istore 4, 2) := by decide +kernel
theorem dX11_way_9 : decode cX11_way 9 = .ok (.iload 4, 2) := by decide +kernel
theorem dX11_way_11 : decode cX11_way 11 = .ok (.ifCond .eq 6, 3) := by decide +kernel
theorem dX11_way_14 : decode cX11_way 14 = .ok (.iload 4, 2) := by decide +kernel
theorem dX11_way_16 : decode cX11_way 16 = .ok (.ireturn, 1) := by decide +kernel
theorem dX11_way_17 : decode cX11_way 17 = .ok (.aload_n 0, 1) := by decide +kernel
theorem dX11_way_18 : decode cX11_way 18 = .ok (.iload_n 1, 1) := by decide +kernel
theorem dX11_way_19 : decode cX11_way 19 = .ok (.invokevirtual 337, 3) := by decide +kernel
theorem dX11_way_22 : decode cX11_way 22 = .ok (.aload_n 0, 1) := by decide +kernel
theorem dX11_way_23 : decode cX11_way 23 = .ok (.getfield 94, 3) := by decide +kernel
theorem dX11_way_26 : decode cX11_way 26 = .ok (.lconst 1, 1) := by decide +kernel
theorem dX11_way_27 : decode cX11_way 27 = .ok (.iload_n 2, 1) := by decide +kernel
theorem dX11_way_28 : decode cX11_way 28 = .ok (.lshl, 1) := by decide +kernel
theorem dX11_way_29 : decode cX11_way 29 = .ok (.lconst 1, 1) := by decide +kernel
theorem dX11_way_30 : decode cX11_way 30 = .ok (.iload_n 3, 1) := by decide +kernel
theorem dX11_way_31 : decode cX11_way 31 = .ok (.lshl, 1) := by decide +kernel
theorem dX11_way_32 : decode cX11_way 32 = .ok (.invokevirtual 340, 3) := by decide +kernel
theorem dX11_way_35 : decode cX11_way 35 = .ok (.istore 5, 2) := by decide +kernel
theorem dX11_way_37 : decode cX11_way 37 = .ok (.iload 5, 2) := by decide +kernel
theorem dX11_way_39 : decode cX11_way 39 = .ok (.iconst (-1), 1) := by decide +kernel
theorem dX11_way_40 : decode cX11_way 40 = .ok (.if_icmp .ne 6, 3) := by decide +kernel
theorem dX11_way_43 : decode cX11_way 43 = .ok (.bipush (-2), 2) := by decide +kernel
theorem dX11_way_45 : decode cX11_way 45 = .ok (.ireturn, 1) := by decide +kernel
theorem dX11_way_46 : decode cX11_way 46 = .ok (.aload_n 0, 1) := by decide +kernel
theorem dX11_way_47 : decode cX11_way 47 = .ok (.getfield 94, 3) := by decide +kernel
theorem dX11_way_50 : decode cX11_way 50 = .ok (.iload_n 3, 1) := by decide +kernel
theorem dX11_way_51 : decode cX11_way 51 = .ok (.iload 5, 2) := by decide +kernel
theorem dX11_way_53 : decode cX11_way 53 = .ok (.iconst 0, 1) := by decide +kernel
theorem dX11_way_54 : decode cX11_way 54 = .ok (.invokevirtual 344, 3) := by decide +kernel
theorem dX11_way_57 : decode cX11_way 57 = .ok (.aload_n 0, 1) := by decide +kernel
theorem dX11_way_58 : decode cX11_way 58 = .ok (.getfield 94, 3) := by decide +kernel
theorem dX11_way_61 : decode cX11_way 61 = .ok (.iload_n 2, 1) := by decide +kernel
theorem dX11_way_62 : decode cX11_way 62 = .ok (.iload 5, 2) := by decide +kernel
theorem dX11_way_64 : decode cX11_way 64 = .ok (.iconst 0, 1) := by decide +kernel
theorem dX11_way_65 : decode cX11_way 65 = .ok (.aload_n 0, 1) := by decide +kernel
theorem dX11_way_66 : decode cX11_way 66 = .ok (.getfield 19, 3) := by decide +kernel
theorem dX11_way_69 : decode cX11_way 69 = .ok (.invokevirtual 348, 3) := by decide +kernel
theorem dX11_way_72 : decode cX11_way 72 = .ok (.iload 5, 2) := by decide +kernel
theorem dX11_way_74 : decode cX11_way 74 = .ok (.ireturn, 1) := by decide +kernel
theorem dX11_easy_0 : decode cX11_easy 0 = .ok (.aload_n 0, 1) := by decide +kernel
theorem dX11_easy_1 : decode cX11_easy 1 = .ok (.iload_n 1, 1) := by decide +kernel
theorem dX11_easy_2 : decode cX11_easy 2 = .ok (.iload_n 2, 1) := by decide +kernel
theorem dX11_easy_3 : decode cX11_easy 3 = .ok (.iload_n 3, 1) := by decide +kernel
theorem dX11_easy_4 : decode cX11_easy 4 = .ok (.invokevirtual 333, 3) := by decide +kernel
theorem dX11_easy_7 : decode cX11_easy 7 = .ok (.istore 4, 2) := by decide +kernel
theorem dX11_easy_9 : decode cX11_easy 9 = .ok (.iload 4, 2) := by decide +kernel
theorem dX11_easy_11 : decode cX11_easy 11 = .ok (.ifCond .eq 6, 3) := by decide +kernel
theorem dX11_easy_14 : decode cX11_easy 14 = .ok (.iload 4, 2) := by decide +kernel
theorem dX11_easy_16 : decode cX11_easy 16 = .ok (.ireturn, 1) := by decide +kernel
theorem dX11_easy_17 : decode cX11_easy 17 = .ok (.aload_n 0, 1) := by decide +kernel
theorem dX11_easy_18 : decode cX11_easy 18 = .ok (.iload_n 1, 1) := by decide +kernel
theorem dX11_easy_19 : decode cX11_easy 19 = .ok (.invokevirtual 337, 3) := by decide +kernel
theorem dX11_easy_22 : decode cX11_easy 22 = .ok (.aload_n 0, 1) := by decide +kernel
theorem dX11_easy_23 : decode cX11_easy 23 = .ok (.getfield 94, 3) := by decide +kernel
theorem dX11_easy_26 : decode cX11_easy 26 = .ok (.iload_n 3, 1) := by decide +kernel
theorem dX11_easy_27 : decode cX11_easy 27 = .ok (.sipush 1498, 3) := by decide +kernel
theorem dX11_easy_30 : decode cX11_easy 30 = .ok (.bipush 64, 2) := by decide +kernel
theorem dX11_easy_32 : decode cX11_easy 32 = .ok (.invokevirtual 344, 3) := by decide +kernel
theorem dX11_easy_35 : decode cX11_easy 35 = .ok (.aload_n 0, 1) := by decide +kernel
theorem dX11_easy_36 : decode cX11_easy 36 = .ok (.getfield 94, 3) := by decide +kernel
theorem dX11_easy_39 : decode cX11_easy 39 = .ok (.iload_n 2, 1) := by decide +kernel
theorem dX11_easy_40 : decode cX11_easy 40 = .ok (.invokevirtual 352, 3) := by decide +kernel
theorem dX11_easy_43 : decode cX11_easy 43 = .ok (.istore 5, 2) := by decide +kernel
theorem dX11_easy_45 : decode cX11_easy 45 = .ok (.iload 5, 2) := by decide +kernel
theorem dX11_easy_47 : decode cX11_easy 47 = .ok (.ldc_w 355, 3) := by decide +kernel
theorem dX11_easy_50 : decode cX11_easy 50 = .ok (.if_icmp .ne 6, 3) := by decide +kernel
theorem dX11_easy_53 : decode cX11_easy 53 = .ok (.bipush (-2), 2) := by decide +kernel
theorem dX11_easy_55 : decode cX11_easy 55 = .ok (.ireturn, 1) := by decide +kernel
theorem dX11_easy_56 : decode cX11_easy 56 = .ok (.aload_n 0, 1) := by decide +kernel
theorem dX11_easy_57 : decode cX11_easy 57 = .ok (.getfield 94, 3) := by decide +kernel
theorem dX11_easy_60 : decode cX11_easy 60 = .ok (.iload_n 2, 1) := by decide +kernel
theorem dX11_easy_61 : decode cX11_easy 61 = .ok (.sipush 1498, 3) := by decide +kernel
theorem dX11_easy_64 : decode cX11_easy 64 = .ok (.bipush 64, 2) := by decide +kernel
theorem dX11_easy_66 : decode cX11_easy 66 = .ok (.aload_n 0, 1) := by decide +kernel
theorem dX11_easy_67 : decode cX11_easy 67 = .ok (.getfield 19, 3) := by decide +kernel
theorem dX11_easy_70 : decode cX11_easy 70 = .ok (.invokevirtual 348, 3) := by decide +kernel
theorem dX11_easy_73 : decode cX11_easy 73 = .ok (.iload 5, 2) := by decide +kernel
theorem dX11_easy_75 : decode cX11_easy 75 = .ok (.bipush 64, 2) := by decide +kernel
theorem dX11_easy_77 : decode cX11_easy 77 = .ok (.idiv, 1) := by decide +kernel
theorem dX11_easy_78 : decode cX11_easy 78 = .ok (.ireturn, 1) := by decide +kernel
theorem dX11_soon_0 : decode cX11_soon 0 = .ok (.aload_n 0, 1) := by decide +kernel
theorem dX11_soon_1 : decode cX11_soon 1 = .ok (.iload_n 1, 1) := by decide +kernel
theorem dX11_soon_2 : decode cX11_soon 2 = .ok (.iload_n 2, 1) := by decide +kernel
theorem dX11_soon_3 : decode cX11_soon 3 = .ok (.iload_n 3, 1) := by decide +kernel
theorem dX11_soon_4 : decode cX11_soon 4 = .ok (.invokevirtual 333, 3) := by decide +kernel
theorem dX11_soon_7 : decode cX11_soon 7 = .ok (.istore 4, 2) := by decide +kernel
theorem dX11_soon_9 : decode cX11_soon 9 = .ok (.iload 4, 2) := by decide +kernel
theorem dX11_soon_11 : decode cX11_soon 11 = .ok (.ifCond .eq 6, 3) := by decide +kernel
theorem dX11_soon_14 : decode cX11_soon 14 = .ok (.iload 4, 2) := by decide +kernel
theorem dX11_soon_16 : decode cX11_soon 16 = .ok (.ireturn, 1) := by decide +kernel
theorem dX11_soon_17 : decode cX11_soon 17 = .ok (.aload_n 0, 1) := by decide +kernel
theorem dX11_soon_18 : decode cX11_soon 18 = .ok (.iload_n 1, 1) := by decide +kernel
theorem dX11_soon_19 : decode cX11_soon 19 = .ok (.invokevirtual 337, 3) := by decide +kernel
theorem dX11_soon_22 : decode cX11_soon 22 = .ok (.aload_n 0, 1) := by decide +kernel
theorem dX11_soon_23 : decode cX11_soon 23 = .ok (.getfield 94, 3) := by decide +kernel
theorem dX11_soon_26 : decode cX11_soon 26 = .ok (.iload_n 3, 1) := by decide +kernel
theorem dX11_soon_27 : decode cX11_soon 27 = .ok (.aload_n 0, 1) := by decide +kernel
theorem dX11_soon_28 : decode cX11_soon 28 = .ok (.getfield 44, 3) := by decide +kernel
theorem dX11_soon_31 : decode cX11_soon 31 = .ok (.iconst 0, 1) := by decide +kernel
theorem dX11_soon_32 : decode cX11_soon 32 = .ok (.invokevirtual 344, 3) := by decide +kernel
theorem dX11_soon_35 : decode cX11_soon 35 = .ok (.aload_n 0, 1) := by decide +kernel
theorem dX11_soon_36 : decode cX11_soon 36 = .ok (.getfield 94, 3) := by decide +kernel
theorem dX11_soon_39 : decode cX11_soon 39 = .ok (.iload_n 2, 1) := by decide +kernel
theorem dX11_soon_40 : decode cX11_soon 40 = .ok (.invokevirtual 352, 3) := by decide +kernel
theorem dX11_soon_43 : decode cX11_soon 43 = .ok (.istore 5, 2) := by decide +kernel
theorem dX11_soon_45 : decode cX11_soon 45 = .ok (.iload 5, 2) := by decide +kernel
theorem dX11_soon_47 : decode cX11_soon 47 = .ok (.ldc_w 355, 3) := by decide +kernel
theorem dX11_soon_50 : decode cX11_soon 50 = .ok (.if_icmp .ne 8, 3) := by decide +kernel
theorem dX11_soon_53 : decode cX11_soon 53 = .ok (.bipush (-2), 2) := by decide +kernel
theorem dX11_soon_55 : decode cX11_soon 55 = .ok (.goto 5, 3) := by decide +kernel
theorem dX11_soon_58 : decode cX11_soon 58 = .ok (.iload 5, 2) := by decide +kernel
theorem dX11_soon_60 : decode cX11_soon 60 = .ok (.ireturn, 1) := by decide +kernel
theorem dX11_whyNoWay_0 : decode cX11_whyNoWay 0 = .ok (.iload_n 1, 1) := by decide +kernel
theorem dX11_whyNoWay_1 : decode cX11_whyNoWay 1 = .ok (.invokestatic 356, 3) := by decide +kernel
theorem dX11_whyNoWay_4 : decode cX11_whyNoWay 4 = .ok (.ifCond .eq 25, 3) := by decide +kernel
theorem dX11_whyNoWay_7 : decode cX11_whyNoWay 7 = .ok (.aload_n 0, 1) := by decide +kernel
theorem dX11_whyNoWay_8 : decode cX11_whyNoWay 8 = .ok (.getfield 85, 3) := by decide +kernel
theorem dX11_whyNoWay_11 : decode cX11_whyNoWay 11 = .ok (.iload_n 2, 1) := by decide +kernel
theorem dX11_whyNoWay_12 : decode cX11_whyNoWay 12 = .ok (.invokevirtual 169, 3) := by decide +kernel
theorem dX11_whyNoWay_15 : decode cX11_whyNoWay 15 = .ok (.ifCond .eq 14, 3) := by decide +kernel
theorem dX11_whyNoWay_18 : decode cX11_whyNoWay 18 = .ok (.aload_n 0, 1) := by decide +kernel
theorem dX11_whyNoWay_19 : decode cX11_whyNoWay 19 = .ok (.getfield 85, 3) := by decide +kernel
theorem dX11_whyNoWay_22 : decode cX11_whyNoWay 22 = .ok (.iload_n 3, 1) := by decide +kernel
theorem dX11_whyNoWay_23 : decode cX11_whyNoWay 23 = .ok (.invokevirtual 169, 3) := by decide +kernel
theorem dX11_whyNoWay_26 : decode cX11_whyNoWay 26 = .ok (.ifCond .ne 5, 3) := by decide +kernel
theorem dX11_whyNoWay_29 : decode cX11_whyNoWay 29 = .ok (.iconst (-1), 1) := by decide +kernel
theorem dX11_whyNoWay_30 : decode cX11_whyNoWay 30 = .ok (.ireturn, 1) := by decide +kernel
theorem dX11_whyNoWay_31 : decode cX11_whyNoWay 31 = .ok (.aload_n 0, 1) := by decide +kernel
theorem dX11_whyNoWay_32 : decode cX11_whyNoWay 32 = .ok (.getfield 85, 3) := by decide +kernel
theorem dX11_whyNoWay_35 : decode cX11_whyNoWay 35 = .ok (.iload_n 2, 1) := by decide +kernel
theorem dX11_whyNoWay_36 : decode cX11_whyNoWay 36 = .ok (.invokevirtual 172, 3) := by decide +kernel
theorem dX11_whyNoWay_39 : decode cX11_whyNoWay 39 = .ok (.iconst 3, 1) := by decide +kernel
theorem dX11_whyNoWay_40 : decode cX11_whyNoWay 40 = .ok (.if_icmp .eq 15, 3) := by decide +kernel
theorem dX11_whyNoWay_43 : decode cX11_whyNoWay 43 = .ok (.aload_n 0, 1) := by decide +kernel
theorem dX11_whyNoWay_44 : decode cX11_whyNoWay 44 = .ok (.getfield 85, 3) := by decide +kernel
theorem dX11_whyNoWay_47 : decode cX11_whyNoWay 47 = .ok (.iload_n 3, 1) := by decide +kernel
theorem dX11_whyNoWay_48 : decode cX11_whyNoWay 48 = .ok (.invokevirtual 172, 3) := by decide +kernel
theorem dX11_whyNoWay_51 : decode cX11_whyNoWay 51 = .ok (.iconst 3, 1) := by decide +kernel
theorem dX11_whyNoWay_52 : decode cX11_whyNoWay 52 = .ok (.if_icmp .ne 8, 3) := by decide +kernel
theorem dX11_whyNoWay_55 : decode cX11_whyNoWay 55 = .ok (.bipush (-2), 2) := by decide +kernel
theorem dX11_whyNoWay_57 : decode cX11_whyNoWay 57 = .ok (.goto 4, 3) := by decide +kernel
theorem dX11_whyNoWay_60 : decode cX11_whyNoWay 60 = .ok (.iconst 0, 1) := by decide +kernel
theorem dX11_whyNoWay_61 : decode cX11_whyNoWay 61 = .ok (.ireturn, 1) := by decide +kernel
theorem dX11_isWeight_0 : decode cX11_isWeight 0 = .ok (.iload_n 0, 1) := by decide +kernel
theorem dX11_isWeight_1 : decode cX11_isWeight 1 = .ok (.iconst 1, 1) := by decide +kernel
theorem dX11_isWeight_2 : decode cX11_isWeight 2 = .ok (.if_icmp .lt 13, 3) := by decide +kernel
theorem dX11_isWeight_5 : decode cX11_isWeight 5 = .ok (.iload_n 0, 1) := by decide +kernel
theorem dX11_isWeight_6 : decode cX11_isWeight 6 = .ok (.bipush 99, 2) := by decide +kernel
theorem dX11_isWeight_8 : decode cX11_isWeight 8 = .ok (.if_icmp .gt 7, 3) := by decide +kernel
theorem dX11_isWeight_11 : decode cX11_isWeight 11 = .ok (.iconst 1, 1) := by decide +kernel
theorem dX11_isWeight_12 : decode cX11_isWeight 12 = .ok (.goto 4, 3) := by decide +kernel
theorem dX11_isWeight_15 : decode cX11_isWeight 15 = .ok (.iconst 0, 1) := by decide +kernel
theorem dX11_isWeight_16 : decode cX11_isWeight 16 = .ok (.ireturn, 1) := by decide +kernel
theorem dX11_startWays_0 : decode cX11_startWays 0 = .ok (.aload_n 0, 1) := by decide +kernel
theorem dX11_startWays_1 : decode cX11_startWays 1 = .ok (.getfield 94, 3) := by decide +kernel
theorem dX11_startWays_4 : decode cX11_startWays 4 = .ok (.aload_n 0, 1) := by decide +kernel
theorem dX11_startWays_5 : decode cX11_startWays 5 = .ok (.getfield 54, 3) := by decide +kernel
theorem dX11_startWays_8 : decode cX11_startWays 8 = .ok (.iload_n 1, 1) := by decide +kernel
theorem dX11_startWays_9 : decode cX11_startWays 9 = .ok (.aload_n 0, 1) := by decide +kernel
theorem dX11_startWays_10 : decode cX11_startWays 10 = .ok (.getfield 26, 3) := by decide +kernel
theorem dX11_startWays_13 : decode cX11_startWays 13 = .ok (.getfield 295, 3) := by decide +kernel
theorem dX11_startWays_16 : decode cX11_startWays 16 = .ok (.invokevirtual 359, 3) := by decide +kernel
theorem dX11_startWays_19 : decode cX11_startWays 19 = .ok (.aload_n 0, 1) := by decide +kernel
theorem dX11_startWays_20 : decode cX11_startWays 20 = .ok (.getfield 94, 3) := by decide +kernel
theorem dX11_startWays_23 : decode cX11_startWays 23 = .ok (.aload_n 0, 1) := by decide +kernel
theorem dX11_startWays_24 : decode cX11_startWays 24 = .ok (.getfield 26, 3) := by decide +kernel
theorem dX11_startWays_27 : decode cX11_startWays 27 = .ok (.getfield 227, 3) := by decide +kernel
theorem dX11_startWays_30 : decode cX11_startWays 30 = .ok (.aload_n 0, 1) := by decide +kernel
theorem dX11_startWays_31 : decode cX11_startWays 31 = .ok (.getfield 26, 3) := by decide +kernel
theorem dX11_startWays_34 : decode cX11_startWays 34 = .ok (.getfield 234, 3) := by decide +kernel
theorem dX11_startWays_37 : decode cX11_startWays 37 = .ok (.invokestatic 237, 3) := by decide +kernel
theorem dX11_startWays_40 : decode cX11_startWays 40 = .ok (.invokevirtual 363, 3) := by decide +kernel
theorem dX11_startWays_43 : decode cX11_startWays 43 = .ok (.return_, 1) := by decide +kernel
theorem dX11_pass_0 : decode cX11_pass 0 = .ok (.iconst 0, 1) := by decide +kernel
theorem dX11_pass_1 : decode cX11_pass 1 = .ok (.istore_n 1, 1) := by decide +kernel
theorem dX11_pass_2 : decode cX11_pass 2 = .ok (.iload_n 1, 1) := by decide +kernel
theorem dX11_pass_3 : decode cX11_pass 3 = .ok (.bipush 9, 2) := by decide +kernel
theorem dX11_pass_5 : decode cX11_pass 5 = .ok (.if_icmp .gt 69, 3) := by decide +kernel
theorem dX11_pass_8 : decode cX11_pass 8 = .ok (.aload_n 0, 1) := by decide +kernel
theorem dX11_pass_9 : decode cX11_pass 9 = .ok (.getfield 85, 3) := by decide +kernel
theorem dX11_pass_12 : decode cX11_pass 12 = .ok (.iload_n 1, 1) := by decide +kernel
theorem dX11_pass_13 : decode cX11_pass 13 = .ok (.invokevirtual 366, 3) := by decide +kernel
theorem dX11_pass_16 : decode cX11_pass 16 = .ok (.lstore_n 2, 1) := by decide +kernel
theorem dX11_pass_17 : decode cX11_pass 17 = .ok (.aload_n 0, 1) := by decide +kernel
theorem dX11_pass_18 : decode cX11_pass 18 = .ok (.getfield 85, 3) := by decide +kernel
theorem dX11_pass_21 : decode cX11_pass 21 = .ok (.aload_n 0, 1) := by decide +kernel
theorem dX11_pass_22 : decode cX11_pass 22 = .ok (.getfield 85, 3) := by decide +kernel
theorem dX11_pass_25 : decode cX11_pass 25 = .ok (.getfield 370, 3) := by decide +kernel
theorem dX11_pass_28 : decode cX11_pass 28 = .ok (.lload_n 2, 1) := by decide +kernel
theorem dX11_pass_29 : decode cX11_pass 29 = .ok (.invokevirtual 373, 3) := by decide +kernel
theorem dX11_pass_32 : decode cX11_pass 32 = .ok (.aload_n 0, 1) := by decide +kernel
theorem dX11_pass_33 : decode cX11_pass 33 = .ok (.getfield 85, 3) := by decide +kernel
theorem dX11_pass_36 : decode cX11_pass 36 = .ok (.aload_n 0, 1) := by decide +kernel
theorem dX11_pass_37 : decode cX11_pass 37 = .ok (.getfield 85, 3) := by decide +kernel
theorem dX11_pass_40 : decode cX11_pass 40 = .ok (.getfield 377, 3) := by decide +kernel
theorem dX11_pass_43 : decode cX11_pass 43 = .ok (.lload_n 2, 1) := by decide +kernel
theorem dX11_pass_44 : decode cX11_pass 44 = .ok (.invokevirtual 373, 3) := by decide +kernel
theorem dX11_pass_47 : decode cX11_pass 47 = .ok (.land, 1) := by decide +kernel
theorem dX11_pass_48 : decode cX11_pass 48 = .ok (.lstore 4, 2) := by decide +kernel
theorem dX11_pass_50 : decode cX11_pass 50 = .ok (.lload 4, 2) := by decide +kernel
theorem dX11_pass_52 : decode cX11_pass 52 = .ok (.lconst 0, 1) := by decide +kernel
theorem dX11_pass_53 : decode cX11_pass 53 = .ok (.lcmp, 1) := by decide +kernel
theorem dX11_pass_54 : decode cX11_pass 54 = .ok (.ifCond .eq 14, 3) := by decide +kernel
theorem dX11_pass_57 : decode cX11_pass 57 = .ok (.aload_n 0, 1) := by decide +kernel
theorem dX11_pass_58 : decode cX11_pass 58 = .ok (.getfield 19, 3) := by decide +kernel
theorem dX11_pass_61 : decode cX11_pass 61 = .ok (.lload 4, 2) := by decide +kernel
theorem dX11_pass_63 : decode cX11_pass 63 = .ok (.invokevirtual 279, 3) := by decide +kernel
theorem dX11_pass_66 : decode cX11_pass 66 = .ok (.iload_n 1, 1) := by decide +kernel
theorem dX11_pass_67 : decode cX11_pass 67 = .ok (.ireturn, 1) := by decide +kernel
theorem dX11_pass_68 : decode cX11_pass 68 = .ok (.iinc 1 1, 3) := by decide +kernel
theorem dX11_pass_71 : decode cX11_pass 71 = .ok (.goto (-69), 3) := by decide +kernel
theorem dX11_pass_74 : decode cX11_pass 74 = .ok (.bipush (-2), 2) := by decide +kernel
theorem dX11_pass_76 : decode cX11_pass 76 = .ok (.ireturn, 1) := by decide +kernel
theorem dX11_oxen_0 : decode cX11_oxen 0 = .ok (.aload_n 0, 1) := by decide +kernel
theorem dX11_oxen_1 : decode cX11_oxen 1 = .ok (.iload_n 1, 1) := by decide +kernel
theorem dX11_oxen_2 : decode cX11_oxen 2 = .ok (.invokevirtual 204, 3) := by decide +kernel
theorem dX11_oxen_5 : decode cX11_oxen 5 = .ok (.ifCond .ne 5, 3) := by decide +kernel
theorem dX11_oxen_8 : decode cX11_oxen 8 = .ok (.iconst (-1), 1) := by decide +kernel
theorem dX11_oxen_9 : decode cX11_oxen 9 = .ok (.ireturn, 1) := by decide +kernel
theorem dX11_oxen_10 : decode cX11_oxen 10 = .ok (.aload_n 0, 1) := by decide +kernel
theorem dX11_oxen_11 : decode cX11_oxen 11 = .ok (.aload_n 0, 1) := by decide +kernel
theorem dX11_oxen_12 : decode cX11_oxen 12 = .ok (.getfield 40, 3) := by decide +kernel
theorem dX11_oxen_15 : decode cX11_oxen 15 = .ok (.iload_n 1, 1) := by decide +kernel
theorem dX11_oxen_16 : decode cX11_oxen 16 = .ok (.iaload, 1) := by decide +kernel
theorem dX11_oxen_17 : decode cX11_oxen 17 = .ok (.invokevirtual 337, 3) := by decide +kernel
theorem dX11_oxen_20 : decode cX11_oxen 20 = .ok (.lconst 1, 1) := by decide +kernel
theorem dX11_oxen_21 : decode cX11_oxen 21 = .ok (.aload_n 0, 1) := by decide +kernel
theorem dX11_oxen_22 : decode cX11_oxen 22 = .ok (.getfield 26, 3) := by decide +kernel
theorem dX11_oxen_25 : decode cX11_oxen 25 = .ok (.iload_n 1, 1) := by decide +kernel
theorem dX11_oxen_26 : decode cX11_oxen 26 = .ok (.invokevirtual 209, 3) := by decide +kernel
theorem dX11_oxen_29 : decode cX11_oxen 29 = .ok (.lshl, 1) := by decide +kernel
theorem dX11_oxen_30 : decode cX11_oxen 30 = .ok (.lstore_n 2, 1) := by decide +kernel
theorem dX11_oxen_31 : decode cX11_oxen 31 = .ok (.aload_n 0, 1) := by decide +kernel
theorem dX11_oxen_32 : decode cX11_oxen 32 = .ok (.getfield 94, 3) := by decide +kernel
theorem dX11_oxen_35 : decode cX11_oxen 35 = .ok (.lload_n 2, 1) := by decide +kernel
theorem dX11_oxen_36 : decode cX11_oxen 36 = .ok (.aload_n 0, 1) := by decide +kernel
theorem dX11_oxen_37 : decode cX11_oxen 37 = .ok (.getfield 85, 3) := by decide +kernel
theorem dX11_oxen_40 : decode cX11_oxen 40 = .ok (.getfield 377, 3) := by decide +kernel
theorem dX11_oxen_43 : decode cX11_oxen 43 = .ok (.invokevirtual 340, 3) := by decide +kernel
theorem dX11_oxen_46 : decode cX11_oxen 46 = .ok (.istore 4, 2) := by decide +kernel
theorem dX11_oxen_48 : decode cX11_oxen 48 = .ok (.iload 4, 2) := by decide +kernel
theorem dX11_oxen_50 : decode cX11_oxen 50 = .ok (.iconst (-1), 1) := by decide +kernel
theorem dX11_oxen_51 : decode cX11_oxen 51 = .ok (.if_icmp .ne 6, 3) := by decide +kernel
theorem dX11_oxen_54 : decode cX11_oxen 54 = .ok (.bipush (-2), 2) := by decide +kernel
theorem dX11_oxen_56 : decode cX11_oxen 56 = .ok (.ireturn, 1) := by decide +kernel
theorem dX11_oxen_57 : decode cX11_oxen 57 = .ok (.aload_n 0, 1) := by decide +kernel
theorem dX11_oxen_58 : decode cX11_oxen 58 = .ok (.getfield 19, 3) := by decide +kernel
theorem dX11_oxen_61 : decode cX11_oxen 61 = .ok (.aload_n 0, 1) := by decide +kernel
theorem dX11_oxen_62 : decode cX11_oxen 62 = .ok (.getfield 94, 3) := by decide +kernel
theorem dX11_oxen_65 : decode cX11_oxen 65 = .ok (.lload_n 2, 1) := by decide +kernel
theorem dX11_oxen_66 : decode cX11_oxen 66 = .ok (.iload 4, 2) := by decide +kernel
theorem dX11_oxen_68 : decode cX11_oxen 68 = .ok (.invokevirtual 380, 3) := by decide +kernel
theorem dX11_oxen_71 : decode cX11_oxen 71 = .ok (.aload_n 0, 1) := by decide +kernel
theorem dX11_oxen_72 : decode cX11_oxen 72 = .ok (.getfield 85, 3) := by decide +kernel
theorem dX11_oxen_75 : decode cX11_oxen 75 = .ok (.getfield 377, 3) := by decide +kernel
theorem dX11_oxen_78 : decode cX11_oxen 78 = .ok (.land, 1) := by decide +kernel
theorem dX11_oxen_79 : decode cX11_oxen 79 = .ok (.invokestatic 384, 3) := by decide +kernel
theorem dX11_oxen_82 : decode cX11_oxen 82 = .ok (.i2l, 1) := by decide +kernel
theorem dX11_oxen_83 : decode cX11_oxen 83 = .ok (.invokevirtual 279, 3) := by decide +kernel
theorem dX11_oxen_86 : decode cX11_oxen 86 = .ok (.iload 4, 2) := by decide +kernel
theorem dX11_oxen_88 : decode cX11_oxen 88 = .ok (.ireturn, 1) := by decide +kernel
theorem dX11_firstOf_0 : decode cX11_firstOf 0 = .ok (.iconst 0, 1) := by decide +kernel
theorem dX11_firstOf_1 : decode cX11_firstOf 1 = .ok (.istore_n 2, 1) := by decide +kernel
theorem dX11_firstOf_2 : decode cX11_firstOf 2 = .ok (.iload_n 2, 1) := by decide +kernel
theorem dX11_firstOf_3 : decode cX11_firstOf 3 = .ok (.bipush 36, 2) := by decide +kernel
theorem dX11_firstOf_5 : decode cX11_firstOf 5 = .ok (.if_icmp .ge 21, 3) := by decide +kernel
theorem dX11_firstOf_8 : decode cX11_firstOf 8 = .ok (.lload_n 0, 1) := by decide +kernel
theorem dX11_firstOf_9 : decode cX11_firstOf 9 = .ok (.iload_n 2, 1) := by decide +kernel
theorem dX11_firstOf_10 : decode cX11_firstOf 10 = .ok (.lushr, 1) := by decide +kernel
theorem dX11_firstOf_11 : decode cX11_firstOf 11 = .ok (.lconst 1, 1) := by decide +kernel
theorem dX11_firstOf_12 : decode cX11_firstOf 12 = .ok (.land, 1) := by decide +kernel
theorem dX11_firstOf_13 : decode cX11_firstOf 13 = .ok (.lconst 0, 1) := by decide +kernel
theorem dX11_firstOf_14 : decode cX11_firstOf 14 = .ok (.lcmp, 1) := by decide +kernel
theorem dX11_firstOf_15 : decode cX11_firstOf 15 = .ok (.ifCond .eq 5, 3) := by decide +kernel
theorem dX11_firstOf_18 : decode cX11_firstOf 18 = .ok (.iload_n 2, 1) := by decide +kernel
theorem dX11_firstOf_19 : decode cX11_firstOf 19 = .ok (.ireturn, 1) := by decide +kernel
theorem dX11_firstOf_20 : decode cX11_firstOf 20 = .ok (.iinc 2 1, 3) := by decide +kernel
theorem dX11_firstOf_23 : decode cX11_firstOf 23 = .ok (.goto (-21), 3) := by decide +kernel
theorem dX11_firstOf_26 : decode cX11_firstOf 26 = .ok (.iconst (-1), 1) := by decide +kernel
theorem dX11_firstOf_27 : decode cX11_firstOf 27 = .ok (.ireturn, 1) := by decide +kernel
theorem dX11_can_0 : decode cX11_can 0 = .ok (.iconst 0, 1) := by decide +kernel
theorem dX11_can_1 : decode cX11_can 1 = .ok (.istore_n 1, 1) := by decide +kernel
theorem dX11_can_2 : decode cX11_can 2 = .ok (.iconst 0, 1) := by decide +kernel
theorem dX11_can_3 : decode cX11_can 3 = .ok (.istore_n 2, 1) := by decide +kernel
theorem dX11_can_4 : decode cX11_can 4 = .ok (.iload_n 2, 1) := by decide +kernel
theorem dX11_can_5 : decode cX11_can 5 = .ok (.aload_n 0, 1) := by decide +kernel
theorem dX11_can_6 : decode cX11_can 6 = .ok (.getfield 26, 3) := by decide +kernel
theorem dX11_can_9 : decode cX11_can 9 = .ok (.getfield 102, 3) := by decide +kernel
theorem dX11_can_12 : decode cX11_can 12 = .ok (.if_icmp .ge 65, 3) := by decide +kernel
theorem dX11_can_15 : decode cX11_can 15 = .ok (.iload_n 2, 1) := by decide +kernel
theorem dX11_can_16 : decode cX11_can 16 = .ok (.bipush 8, 2) := by decide +kernel
theorem dX11_can_18 : decode cX11_can 18 = .ok (.if_icmp .ge 59, 3) := by decide +kernel
theorem dX11_can_21 : decode cX11_can 21 = .ok (.aload_n 0, 1) := by decide +kernel
theorem dX11_can_22 : decode cX11_can 22 = .ok (.aload_n 0, 1) := by decide +kernel
theorem dX11_can_23 : decode cX11_can 23 = .ok (.getfield 40, 3) := by decide +kernel
theorem dX11_can_26 : decode cX11_can 26 = .ok (.iload_n 2, 1) := by decide +kernel
theorem dX11_can_27 : decode cX11_can 27 = .ok (.iaload, 1) := by decide +kernel
theorem dX11_can_28 : decode cX11_can 28 = .ok (.invokevirtual 337, 3) := by decide +kernel
theorem dX11_can_31 : decode cX11_can 31 = .ok (.aload_n 0, 1) := by decide +kernel
theorem dX11_can_32 : decode cX11_can 32 = .ok (.getfield 94, 3) := by decide +kernel
theorem dX11_can_35 : decode cX11_can 35 = .ok (.lconst 1, 1) := by decide +kernel
theorem dX11_can_36 : decode cX11_can 36 = .ok (.aload_n 0, 1) := by decide +kernel
theorem dX11_can_37 : decode cX11_can 37 = .ok (.getfield 26, 3) := by decide +kernel
theorem dX11_can_40 : decode cX11_can 40 = .ok (.iload_n 2, 1) := by decide +kernel
theorem dX11_can_41 : decode cX11_can 41 = .ok (.invokevirtual 209, 3) := by decide +kernel
theorem dX11_can_44 : decode cX11_can 44 = .ok (.lshl, 1) := by decide +kernel
theorem dX11_can_45 : decode cX11_can 45 = .ok (.aload_n 0, 1) := by decide +kernel
theorem dX11_can_46 : decode cX11_can 46 = .ok (.getfield 44, 3) := by decide +kernel
theorem dX11_can_49 : decode cX11_can 49 = .ok (.invokevirtual 380, 3) := by decide +kernel
theorem dX11_can_52 : decode cX11_can 52 = .ok (.aload_n 0, 1) := by decide +kernel
theorem dX11_can_53 : decode cX11_can 53 = .ok (.getfield 85, 3) := by decide +kernel
theorem dX11_can_56 : decode cX11_can 56 = .ok (.getfield 377, 3) := by decide +kernel
theorem dX11_can_59 : decode cX11_can 59 = .ok (.land, 1) := by decide +kernel
theorem dX11_can_60 : decode cX11_can 60 = .ok (.lconst 0, 1) := by decide +kernel
theorem dX11_can_61 : decode cX11_can 61 = .ok (.lcmp, 1) := by decide +kernel
theorem dX11_can_62 : decode cX11_can 62 = .ok (.ifCond .eq 9, 3) := by decide +kernel
theorem dX11_can_65 : decode cX11_can 65 = .ok (.iload_n 1, 1) := by decide +kernel
theorem dX11_can_66 : decode cX11_can 66 = .ok (.iconst 1, 1) := by decide +kernel
theorem dX11_can_67 : decode cX11_can 67 = .ok (.iload_n 2, 1) := by decide +kernel
theorem dX11_can_68 : decode cX11_can 68 = .ok (.ishl, 1) := by decide +kernel
theorem dX11_can_69 : decode cX11_can 69 = .ok (.ior, 1) := by decide +kernel
theorem dX11_can_70 : decode cX11_can 70 = .ok (.istore_n 1, 1) := by decide +kernel
theorem dX11_can_71 : decode cX11_can 71 = .ok (.iinc 2 1, 3) := by decide +kernel
theorem dX11_can_74 : decode cX11_can 74 = .ok (.goto (-70), 3) := by decide +kernel
theorem dX11_can_77 : decode cX11_can 77 = .ok (.aload_n 0, 1) := by decide +kernel
theorem dX11_can_78 : decode cX11_can 78 = .ok (.getfield 19, 3) := by decide +kernel
theorem dX11_can_81 : decode cX11_can 81 = .ok (.iload_n 1, 1) := by decide +kernel
theorem dX11_can_82 : decode cX11_can 82 = .ok (.invokestatic 317, 3) := by decide +kernel
theorem dX11_can_85 : decode cX11_can 85 = .ok (.i2l, 1) := by decide +kernel
theorem dX11_can_86 : decode cX11_can 86 = .ok (.invokevirtual 279, 3) := by decide +kernel
theorem dX11_can_89 : decode cX11_can 89 = .ok (.iload_n 1, 1) := by decide +kernel
theorem dX11_can_90 : decode cX11_can 90 = .ok (.ireturn, 1) := by decide +kernel
theorem dX11_planks_0 : decode cX11_planks 0 = .ok (.iload_n 1, 1) := by decide +kernel
theorem dX11_planks_1 : decode cX11_planks 1 = .ok (.invokestatic 356, 3) := by decide +kernel
theorem dX11_planks_4 : decode cX11_planks 4 = .ok (.ifCond .eq 12, 3) := by decide +kernel
theorem dX11_planks_7 : decode cX11_planks 7 = .ok (.iload_n 2, 1) := by decide +kernel
theorem dX11_planks_8 : decode cX11_planks 8 = .ok (.ifCond .lt 8, 3) := by decide +kernel
theorem dX11_planks_11 : decode cX11_planks 11 = .ok (.iload_n 2, 1) := by decide +kernel
theorem dX11_planks_12 : decode cX11_planks 12 = .ok (.iconst 2, 1) := by decide +kernel
theorem dX11_planks_13 : decode cX11_planks 13 = .ok (.if_icmp .le 5, 3) := by decide +kernel
theorem dX11_planks_16 : decode cX11_planks 16 = .ok (.iconst (-1), 1) := by decide +kernel
theorem dX11_planks_17 : decode cX11_planks 17 = .ok (.ireturn, 1) := by decide +kernel
theorem dX11_planks_18 : decode cX11_planks 18 = .ok (.aload_n 0, 1) := by decide +kernel
theorem dX11_planks_19 : decode cX11_planks 19 = .ok (.getfield 85, 3) := by decide +kernel
theorem dX11_planks_22 : decode cX11_planks 22 = .ok (.getfield 387, 3) := by decide +kernel
theorem dX11_planks_25 : decode cX11_planks 25 = .ok (.aload_n 0, 1) := by decide +kernel
theorem dX11_planks_26 : decode cX11_planks 26 = .ok (.getfield 26, 3) := by decide +kernel
theorem dX11_planks_29 : decode cX11_planks 29 = .ok (.getfield 295, 3) := by decide +kernel
theorem dX11_planks_32 : decode cX11_planks 32 = .ok (.ldc2_w 390, 3) := by decide +kernel
theorem dX11_planks_35 : decode cX11_planks 35 = .ok (.lxor, 1) := by decide +kernel
theorem dX11_planks_36 : decode cX11_planks 36 = .ok (.land, 1) := by decide +kernel
theorem dX11_planks_37 : decode cX11_planks 37 = .ok (.lstore_n 3, 1) := by decide +kernel
theorem dX11_planks_38 : decode cX11_planks 38 = .ok (.aload_n 0, 1) := by decide +kernel
theorem dX11_planks_39 : decode cX11_planks 39 = .ok (.iload_n 1, 1) := by decide +kernel
theorem dX11_planks_40 : decode cX11_planks 40 = .ok (.invokevirtual 337, 3) := by decide +kernel
theorem dX11_planks_43 : decode cX11_planks 43 = .ok (.lload_n 3, 1) := by decide +kernel
theorem dX11_planks_44 : decode cX11_planks 44 = .ok (.invokestatic 299, 3) := by decide +kernel
theorem dX11_planks_47 : decode cX11_planks 47 = .ok (.iload_n 2, 1) := by decide +kernel
theorem dX11_planks_48 : decode cX11_planks 48 = .ok (.if_icmp .lt 16, 3) := by decide +kernel
theorem dX11_planks_51 : decode cX11_planks 51 = .ok (.aload_n 0, 1) := by decide +kernel
theorem dX11_planks_52 : decode cX11_planks 52 = .ok (.getfield 94, 3) := by decide +kernel
theorem dX11_planks_55 : decode cX11_planks 55 = .ok (.sipush 1498, 3) := by decide +kernel
theorem dX11_planks_58 : decode cX11_planks 58 = .ok (.invokevirtual 392, 3) := by decide +kernel
theorem dX11_planks_61 : decode cX11_planks 61 = .ok (.ifCond .ne 6, 3) := by decide +kernel
theorem dX11_planks_64 : decode cX11_planks 64 = .ok (.bipush (-2), 2) := by decide +kernel
theorem dX11_planks_66 : decode cX11_planks 66 = .ok (.ireturn, 1) := by decide +kernel
theorem dX11_planks_67 : decode cX11_planks 67 = .ok (.aload_n 0, 1) := by decide +kernel
theorem dX11_planks_68 : decode cX11_planks 68 = .ok (.getfield 94, 3) := by decide +kernel
theorem dX11_planks_71 : decode cX11_planks 71 = .ok (.invokevirtual 395, 3) := by decide +kernel
theorem dX11_planks_74 : decode cX11_planks 74 = .ok (.iload_n 2, 1) := by decide +kernel
theorem dX11_planks_75 : decode cX11_planks 75 = .ok (.ifCond .ne 18, 3) := by decide +kernel
theorem dX11_planks_78 : decode cX11_planks 78 = .ok (.aload_n 0, 1) := by decide +kernel
theorem dX11_planks_79 : decode cX11_planks 79 = .ok (.getfield 94, 3) := by decide +kernel
theorem dX11_planks_82 : decode cX11_planks 82 = .ok (.aload_n 0, 1) := by decide +kernel
theorem dX11_planks_83 : decode cX11_planks 83 = .ok (.getfield 26, 3) := by decide +kernel
theorem dX11_planks_86 : decode cX11_planks 86 = .ok (.getfield 295, 3) := by decide +kernel
theorem dX11_planks_89 : decode cX11_planks 89 = .ok (.lconst 0, 1) := by decide +kernel
theorem dX11_planks_90 : decode cX11_planks 90 = .ok (.invokevirtual 398, 3) := by decide +kernel
theorem dX11_planks_93 : decode cX11_planks 93 = .ok (.iconst 0, 1) := by decide +kernel
theorem dX11_planks_94 : decode cX11_planks 94 = .ok (.istore 5, 2) := by decide +kernel
theorem dX11_planks_96 : decode cX11_planks 96 = .ok (.iload 5, 2) := by decide +kernel
theorem dX11_planks_98 : decode cX11_planks 98 = .ok (.aload_n 0, 1) := by decide +kernel
theorem dX11_planks_99 : decode cX11_planks 99 = .ok (.getfield 85, 3) := by decide +kernel
theorem dX11_planks_102 : decode cX11_planks 102 = .ok (.getfield 133, 3) := by decide +kernel
theorem dX11_planks_105 : decode cX11_planks 105 = .ok (.if_icmp .ge 74, 3) := by decide +kernel
theorem dX11_planks_108 : decode cX11_planks 108 = .ok (.iconst 0, 1) := by decide +kernel
theorem dX11_planks_109 : decode cX11_planks 109 = .ok (.istore 6, 2) := by decide +kernel
theorem dX11_planks_111 : decode cX11_planks 111 = .ok (.iload 6, 2) := by decide +kernel
theorem dX11_planks_113 : decode cX11_planks 113 = .ok (.iload 5, 2) := by decide +kernel
theorem dX11_planks_115 : decode cX11_planks 115 = .ok (.if_icmp .gt 58, 3) := by decide +kernel
theorem dX11_planks_118 : decode cX11_planks 118 = .ok (.lconst 1, 1) := by decide +kernel
theorem dX11_planks_119 : decode cX11_planks 119 = .ok (.iload 5, 2) := by decide +kernel
theorem dX11_planks_121 : decode cX11_planks 121 = .ok (.lshl, 1) := by decide +kernel
theorem dX11_planks_122 : decode cX11_planks 122 = .ok (.lconst 1, 1) := by decide +kernel
theorem dX11_planks_123 : decode cX11_planks 123 = .ok (.iload 6, 2) := by decide +kernel
theorem dX11_planks_125 : decode cX11_planks 125 = .ok (.lshl, 1) := by decide +kernel
theorem dX11_planks_126 : decode cX11_planks 126 = .ok (.lor, 1) := by decide +kernel
theorem dX11_planks_127 : decode cX11_planks 127 = .ok (.lstore 7, 2) := by decide +kernel
theorem dX11_planks_129 : decode cX11_planks 129 = .ok (.lload 7, 2) := by decide +kernel
theorem dX11_planks_131 : decode cX11_planks 131 = .ok (.invokestatic 299, 3) := by decide +kernel
theorem dX11_planks_134 : decode cX11_planks 134 = .ok (.iload_n 2, 1) := by decide +kernel
theorem dX11_planks_135 : decode cX11_planks 135 = .ok (.if_icmp .ne 32, 3) := by decide +kernel
theorem dX11_planks_138 : decode cX11_planks 138 = .ok (.lload 7, 2) := by decide +kernel
theorem dX11_planks_140 : decode cX11_planks 140 = .ok (.lload_n 3, 1) := by decide +kernel
theorem dX11_planks_141 : decode cX11_planks 141 = .ok (.ldc2_w 390, 3) := by decide +kernel
theorem dX11_planks_144 : decode cX11_planks 144 = .ok (.lxor, 1) := by decide +kernel
theorem dX11_planks_145 : decode cX11_planks 145 = .ok (.land, 1) := by decide +kernel
theorem dX11_planks_146 : decode cX11_planks 146 = .ok (.lconst 0, 1) := by decide +kernel
theorem dX11_planks_147 : decode cX11_planks 147 = .ok (.lcmp, 1) := by decide +kernel
theorem dX11_planks_148 : decode cX11_planks 148 = .ok (.ifCond .ne 19, 3) := by decide +kernel
theorem dX11_planks_151 : decode cX11_planks 151 = .ok (.aload_n 0, 1) := by decide +kernel
theorem dX11_planks_152 : decode cX11_planks 152 = .ok (.getfield 94, 3) := by decide +kernel
theorem dX11_planks_155 : decode cX11_planks 155 = .ok (.aload_n 0, 1) := by decide +kernel
theorem dX11_planks_156 : decode cX11_planks 156 = .ok (.getfield 26, 3) := by decide +kernel
theorem dX11_planks_159 : decode cX11_planks 159 = .ok (.getfield 295, 3) := by decide +kernel
theorem dX11_planks_162 : decode cX11_planks 162 = .ok (.lload 7, 2) := by decide +kernel
theorem dX11_planks_164 : decode cX11_planks 164 = .ok (.invokevirtual 398, 3) := by decide +kernel
theorem dX11_planks_167 : decode cX11_planks 167 = .ok (.iinc 6 1, 3) := by decide +kernel
theorem dX11_planks_170 : decode cX11_planks 170 = .ok (.goto (-59), 3) := by decide +kernel
theorem dX11_planks_173 : decode cX11_planks 173 = .ok (.iinc 5 1, 3) := by decide +kernel
theorem dX11_planks_176 : decode cX11_planks 176 = .ok (.goto (-80), 3) := by decide +kernel
theorem dX11_planks_179 : decode cX11_planks 179 = .ok (.aload_n 0, 1) := by decide +kernel
theorem dX11_planks_180 : decode cX11_planks 180 = .ok (.getfield 19, 3) := by decide +kernel
theorem dX11_planks_183 : decode cX11_planks 183 = .ok (.aload_n 0, 1) := by decide +kernel
theorem dX11_planks_184 : decode cX11_planks 184 = .ok (.getfield 94, 3) := by decide +kernel
theorem dX11_planks_187 : decode cX11_planks 187 = .ok (.getfield 401, 3) := by decide +kernel
theorem dX11_planks_190 : decode cX11_planks 190 = .ok (.invokevirtual 279, 3) := by decide +kernel
theorem dX11_planks_193 : decode cX11_planks 193 = .ok (.aload_n 0, 1) := by decide +kernel
theorem dX11_planks_194 : decode cX11_planks 194 = .ok (.getfield 94, 3) := by decide +kernel
theorem dX11_planks_197 : decode cX11_planks 197 = .ok (.getfield 404, 3) := by decide +kernel
theorem dX11_planks_200 : decode cX11_planks 200 = .ok (.ireturn, 1) := by decide +kernel
theorem dX11_over_0 : decode cX11_over 0 = .ok (.aload_n 0, 1) := by decide +kernel
theorem dX11_over_1 : decode cX11_over 1 = .ok (.iload_n 1, 1) := by decide +kernel
theorem dX11_over_2 : decode cX11_over 2 = .ok (.invokevirtual 204, 3) := by decide +kernel
theorem dX11_over_5 : decode cX11_over 5 = .ok (.ifCond .ne 5, 3) := by decide +kernel
theorem dX11_over_8 : decode cX11_over 8 = .ok (.iconst (-1), 1) := by decide +kernel
theorem dX11_over_9 : decode cX11_over 9 = .ok (.ireturn, 1) := by decide +kernel
theorem dX11_over_10 : decode cX11_over 10 = .ok (.aload_n 0, 1) := by decide +kernel
theorem dX11_over_11 : decode cX11_over 11 = .ok (.aload_n 0, 1) := by decide +kernel
theorem dX11_over_12 : decode cX11_over 12 = .ok (.getfield 54, 3) := by decide +kernel
theorem dX11_over_15 : decode cX11_over 15 = .ok (.iload_n 1, 1) := by decide +kernel
theorem dX11_over_16 : decode cX11_over 16 = .ok (.invokevirtual 407, 3) := by decide +kernel
theorem dX11_over_19 : decode cX11_over 19 = .ok (.istore_n 2, 1) := by decide +kernel
theorem dX11_over_20 : decode cX11_over 20 = .ok (.iload_n 2, 1) := by decide +kernel
theorem dX11_over_21 : decode cX11_over 21 = .ok (.bipush 61, 2) := by decide +kernel
theorem dX11_over_23 : decode cX11_over 23 = .ok (.if_icmp .ne 8, 3) := by decide +kernel
theorem dX11_over_26 : decode cX11_over 26 = .ok (.bipush (-2), 2) := by decide +kernel
theorem dX11_over_28 : decode cX11_over 28 = .ok (.goto 4, 3) := by decide +kernel
theorem dX11_over_31 : decode cX11_over 31 = .ok (.iload_n 2, 1) := by decide +kernel
theorem dX11_over_32 : decode cX11_over 32 = .ok (.ireturn, 1) := by decide +kernel
theorem dX11_hoursOver_0 : decode cX11_hoursOver 0 = .ok (.aload_n 0, 1) := by decide +kernel
theorem dX11_hoursOver_1 : decode cX11_hoursOver 1 = .ok (.iload_n 2, 1) := by decide +kernel
theorem dX11_hoursOver_2 : decode cX11_hoursOver 2 = .ok (.invokevirtual 204, 3) := by decide +kernel
theorem dX11_hoursOver_5 : decode cX11_hoursOver 5 = .ok (.ifCond .ne 6, 3) := by decide +kernel
theorem dX11_hoursOver_8 : decode cX11_hoursOver 8 = .ok (.bipush 61, 2) := by decide +kernel
theorem dX11_hoursOver_10 : decode cX11_hoursOver 10 = .ok (.ireturn, 1) := by decide +kernel
theorem dX11_hoursOver_11 : decode cX11_hoursOver 11 = .ok (.aload_n 0, 1) := by decide +kernel
theorem dX11_hoursOver_12 : decode cX11_hoursOver 12 = .ok (.iload_n 2, 1) := by decide +kernel
theorem dX11_hoursOver_13 : decode cX11_hoursOver 13 = .ok (.invokevirtual 215, 3) := by decide +kernel
theorem dX11_hoursOver_16 : decode cX11_hoursOver 16 = .ok (.ifCond .eq 5, 3) := by decide +kernel
theorem dX11_hoursOver_19 : decode cX11_hoursOver 19 = .ok (.iconst 0, 1) := by decide +kernel
theorem dX11_hoursOver_20 : decode cX11_hoursOver 20 = .ok (.ireturn, 1) := by decide +kernel
theorem dX11_hoursOver_21 : decode cX11_hoursOver 21 = .ok (.aload_n 0, 1) := by decide +kernel
theorem dX11_hoursOver_22 : decode cX11_hoursOver 22 = .ok (.getfield 94, 3) := by decide +kernel
theorem dX11_hoursOver_25 : decode cX11_hoursOver 25 = .ok (.aload_n 1, 1) := by decide +kernel
theorem dX11_hoursOver_26 : decode cX11_hoursOver 26 = .ok (.aload_n 0, 1) := by decide +kernel
theorem dX11_hoursOver_27 : decode cX11_hoursOver 27 = .ok (.getfield 40, 3) := by decide +kernel
theorem dX11_hoursOver_30 : decode cX11_hoursOver 30 = .ok (.iload_n 2, 1) := by decide +kernel
theorem dX11_hoursOver_31 : decode cX11_hoursOver 31 = .ok (.iaload, 1) := by decide +kernel
theorem dX11_hoursOver_32 : decode cX11_hoursOver 32 = .ok (.aload_n 0, 1) := by decide +kernel
theorem dX11_hoursOver_33 : decode cX11_hoursOver 33 = .ok (.getfield 26, 3) := by decide +kernel
theorem dX11_hoursOver_36 : decode cX11_hoursOver 36 = .ok (.getfield 295, 3) := by decide +kernel
theorem dX11_hoursOver_39 : decode cX11_hoursOver 39 = .ok (.invokevirtual 359, 3) := by decide +kernel
theorem dX11_hoursOver_42 : decode cX11_hoursOver 42 = .ok (.lconst 1, 1) := by decide +kernel
theorem dX11_hoursOver_43 : decode cX11_hoursOver 43 = .ok (.aload_n 0, 1) := by decide +kernel
theorem dX11_hoursOver_44 : decode cX11_hoursOver 44 = .ok (.getfield 26, 3) := by decide +kernel
theorem dX11_hoursOver_47 : decode cX11_hoursOver 47 = .ok (.iload_n 2, 1) := by decide +kernel
theorem dX11_hoursOver_48 : decode cX11_hoursOver 48 = .ok (.invokevirtual 209, 3) := by decide +kernel
theorem dX11_hoursOver_51 : decode cX11_hoursOver 51 = .ok (.lshl, 1) := by decide +kernel
theorem dX11_hoursOver_52 : decode cX11_hoursOver 52 = .ok (.lstore_n 3, 1) := by decide +kernel
theorem dX11_hoursOver_53 : decode cX11_hoursOver 53 = .ok (.iconst 0, 1) := by decide +kernel
theorem dX11_hoursOver_54 : decode cX11_hoursOver 54 = .ok (.istore 5, 2) := by decide +kernel
theorem dX11_hoursOver_56 : decode cX11_hoursOver 56 = .ok (.iload 5, 2) := by decide +kernel
theorem dX11_hoursOver_58 : decode cX11_hoursOver 58 = .ok (.bipush 60, 2) := by decide +kernel
theorem dX11_hoursOver_60 : decode cX11_hoursOver 60 = .ok (.if_icmp .ge 84, 3) := by decide +kernel
theorem dX11_hoursOver_63 : decode cX11_hoursOver 63 = .ok (.aload_n 0, 1) := by decide +kernel
theorem dX11_hoursOver_64 : decode cX11_hoursOver 64 = .ok (.getfield 26, 3) := by decide +kernel
theorem dX11_hoursOver_67 : decode cX11_hoursOver 67 = .ok (.getfield 227, 3) := by decide +kernel
theorem dX11_hoursOver_70 : decode cX11_hoursOver 70 = .ok (.iload 5, 2) := by decide +kernel
theorem dX11_hoursOver_72 : decode cX11_hoursOver 72 = .ok (.iadd, 1) := by decide +kernel
theorem dX11_hoursOver_73 : decode cX11_hoursOver 73 = .ok (.istore 6, 2) := by decide +kernel
theorem dX11_hoursOver_75 : decode cX11_hoursOver 75 = .ok (.aload_n 0, 1) := by decide +kernel
theorem dX11_hoursOver_76 : decode cX11_hoursOver 76 = .ok (.getfield 94, 3) := by decide +kernel
theorem dX11_hoursOver_79 : decode cX11_hoursOver 79 = .ok (.iload 6, 2) := by decide +kernel
theorem dX11_hoursOver_81 : decode cX11_hoursOver 81 = .ok (.bipush 10, 2) := by decide +kernel
theorem dX11_hoursOver_83 : decode cX11_hoursOver 83 = .ok (.irem, 1) := by decide +kernel
theorem dX11_hoursOver_84 : decode cX11_hoursOver 84 = .ok (.aload_n 0, 1) := by decide +kernel
theorem dX11_hoursOver_85 : decode cX11_hoursOver 85 = .ok (.getfield 26, 3) := by decide +kernel
theorem dX11_hoursOver_88 : decode cX11_hoursOver 88 = .ok (.getfield 234, 3) := by decide +kernel
theorem dX11_hoursOver_91 : decode cX11_hoursOver 91 = .ok (.iload 6, 2) := by decide +kernel
theorem dX11_hoursOver_93 : decode cX11_hoursOver 93 = .ok (.bipush 10, 2) := by decide +kernel
theorem dX11_hoursOver_95 : decode cX11_hoursOver 95 = .ok (.idiv, 1) := by decide +kernel
theorem dX11_hoursOver_96 : decode cX11_hoursOver 96 = .ok (.iadd, 1) := by decide +kernel
theorem dX11_hoursOver_97 : decode cX11_hoursOver 97 = .ok (.invokestatic 237, 3) := by decide +kernel
theorem dX11_hoursOver_100 : decode cX11_hoursOver 100 = .ok (.invokevirtual 363, 3) := by decide +kernel
theorem dX11_hoursOver_103 : decode cX11_hoursOver 103 = .ok (.lload_n 3, 1) := by decide +kernel
theorem dX11_hoursOver_104 : decode cX11_hoursOver 104 = .ok (.aload_n 0, 1) := by decide +kernel
theorem dX11_hoursOver_105 : decode cX11_hoursOver 105 = .ok (.getfield 94, 3) := by decide +kernel
theorem dX11_hoursOver_108 : decode cX11_hoursOver 108 = .ok (.lload_n 3, 1) := by decide +kernel
theorem dX11_hoursOver_109 : decode cX11_hoursOver 109 = .ok (.lload_n 3, 1) := by decide +kernel
theorem dX11_hoursOver_110 : decode cX11_hoursOver 110 = .ok (.aload_n 0, 1) := by decide +kernel
theorem dX11_hoursOver_111 : decode cX11_hoursOver 111 = .ok (.getfield 44, 3) := by decide +kernel
theorem dX11_hoursOver_114 : decode cX11_hoursOver 114 = .ok (.invokevirtual 411, 3) := by decide +kernel
theorem dX11_hoursOver_117 : decode cX11_hoursOver 117 = .ok (.lor, 1) := by decide +kernel
theorem dX11_hoursOver_118 : decode cX11_hoursOver 118 = .ok (.lstore_n 3, 1) := by decide +kernel
theorem dX11_hoursOver_119 : decode cX11_hoursOver 119 = .ok (.lload_n 3, 1) := by decide +kernel
theorem dX11_hoursOver_120 : decode cX11_hoursOver 120 = .ok (.aload_n 0, 1) := by decide +kernel
theorem dX11_hoursOver_121 : decode cX11_hoursOver 121 = .ok (.getfield 85, 3) := by decide +kernel
theorem dX11_hoursOver_124 : decode cX11_hoursOver 124 = .ok (.getfield 377, 3) := by decide +kernel
theorem dX11_hoursOver_127 : decode cX11_hoursOver 127 = .ok (.land, 1) := by decide +kernel
theorem dX11_hoursOver_128 : decode cX11_hoursOver 128 = .ok (.lconst 0, 1) := by decide +kernel
theorem dX11_hoursOver_129 : decode cX11_hoursOver 129 = .ok (.lcmp, 1) := by decide +kernel
theorem dX11_hoursOver_130 : decode cX11_hoursOver 130 = .ok (.ifCond .eq 8, 3) := by decide +kernel
theorem dX11_hoursOver_133 : decode cX11_hoursOver 133 = .ok (.iload 5, 2) := by decide +kernel
theorem dX11_hoursOver_135 : decode cX11_hoursOver 135 = .ok (.iconst 1, 1) := by decide +kernel
theorem dX11_hoursOver_136 : decode cX11_hoursOver 136 = .ok (.iadd, 1) := by decide +kernel
theorem dX11_hoursOver_137 : decode cX11_hoursOver 137 = .ok (.ireturn, 1) := by decide +kernel
theorem dX11_hoursOver_138 : decode cX11_hoursOver 138 = .ok (.iinc 5 1, 3) := by decide +kernel
theorem dX11_hoursOver_141 : decode cX11_hoursOver 141 = .ok (.goto (-85), 3) := by decide +kernel
theorem dX11_hoursOver_144 : decode cX11_hoursOver 144 = .ok (.bipush 61, 2) := by decide +kernel
theorem dX11_hoursOver_146 : decode cX11_hoursOver 146 = .ok (.ireturn, 1) := by decide +kernel
theorem dX11_kind_0 : decode cX11_kind 0 = .ok (.iload_n 1, 1) := by decide +kernel
theorem dX11_kind_1 : decode cX11_kind 1 = .ok (.ifCond .lt 20, 3) := by decide +kernel
theorem dX11_kind_4 : decode cX11_kind 4 = .ok (.iload_n 1, 1) := by decide +kernel
theorem dX11_kind_5 : decode cX11_kind 5 = .ok (.bipush 99, 2) := by decide +kernel
theorem dX11_kind_7 : decode cX11_kind 7 = .ok (.if_icmp .gt 14, 3) := by decide +kernel
theorem dX11_kind_10 : decode cX11_kind 10 = .ok (.iload_n 2, 1) := by decide +kernel
theorem dX11_kind_11 : decode cX11_kind 11 = .ok (.ifCond .lt 10, 3) := by decide +kernel
theorem dX11_kind_14 : decode cX11_kind 14 = .ok (.iload_n 2, 1) := by decide +kernel
theorem dX11_kind_15 : decode cX11_kind 15 = .ok (.sipush 9999, 3) := by decide +kernel
theorem dX11_kind_18 : decode cX11_kind 18 = .ok (.if_icmp .le 5, 3) := by decide +kernel
theorem dX11_kind_21 : decode cX11_kind 21 = .ok (.iconst (-1), 1) := by decide +kernel
theorem dX11_kind_22 : decode cX11_kind 22 = .ok (.ireturn, 1) := by decide +kernel
theorem dX11_kind_23 : decode cX11_kind 23 = .ok (.aload_n 0, 1) := by decide +kernel
theorem dX11_kind_24 : decode cX11_kind 24 = .ok (.getfield 26, 3) := by decide +kernel
theorem dX11_kind_27 : decode cX11_kind 27 = .ok (.getfield 234, 3) := by decide +kernel
theorem dX11_kind_30 : decode cX11_kind 30 = .ok (.iload_n 1, 1) := by decide +kernel
theorem dX11_kind_31 : decode cX11_kind 31 = .ok (.iadd, 1) := by decide +kernel
theorem dX11_kind_32 : decode cX11_kind 32 = .ok (.invokestatic 237, 3) := by decide +kernel
theorem dX11_kind_35 : decode cX11_kind 35 = .ok (.istore_n 3, 1) := by decide +kernel
theorem dX11_kind_36 : decode cX11_kind 36 = .ok (.aload_n 0, 1) := by decide +kernel
theorem dX11_kind_37 : decode cX11_kind 37 = .ok (.getfield 19, 3) := by decide +kernel
theorem dX11_kind_40 : decode cX11_kind 40 = .ok (.iload_n 2, 1) := by decide +kernel
theorem dX11_kind_41 : decode cX11_kind 41 = .ok (.iload_n 3, 1) := by decide +kernel
theorem dX11_kind_42 : decode cX11_kind 42 = .ok (.invokestatic 292, 3) := by decide +kernel
theorem dX11_kind_45 : decode cX11_kind 45 = .ok (.i2l, 1) := by decide +kernel
theorem dX11_kind_46 : decode cX11_kind 46 = .ok (.invokevirtual 279, 3) := by decide +kernel
theorem dX11_kind_49 : decode cX11_kind 49 = .ok (.iload_n 3, 1) := by decide +kernel
theorem dX11_kind_50 : decode cX11_kind 50 = .ok (.ireturn, 1) := by decide +kernel
theorem dX11_quiet_0 : decode cX11_quiet 0 = .ok (.iload_n 1, 1) := by decide +kernel
theorem dX11_quiet_1 : decode cX11_quiet 1 = .ok (.ifCond .lt 9, 3) := by decide +kernel
theorem dX11_quiet_4 : decode cX11_quiet 4 = .ok (.iload_n 1, 1) := by decide +kernel
theorem dX11_quiet_5 : decode cX11_quiet 5 = .ok (.bipush 99, 2) := by decide +kernel
theorem dX11_quiet_7 : decode cX11_quiet 7 = .ok (.if_icmp .le 5, 3) := by decide +kernel
theorem dX11_quiet_10 : decode cX11_quiet 10 = .ok (.iconst (-1), 1) := by decide +kernel
theorem dX11_quiet_11 : decode cX11_quiet 11 = .ok (.ireturn, 1) := by decide +kernel
theorem dX11_quiet_12 : decode cX11_quiet 12 = .ok (.aload_n 0, 1) := by decide +kernel
theorem dX11_quiet_13 : decode cX11_quiet 13 = .ok (.getfield 26, 3) := by decide +kernel
theorem dX11_quiet_16 : decode cX11_quiet 16 = .ok (.getfield 234, 3) := by decide +kernel
theorem dX11_quiet_19 : decode cX11_quiet 19 = .ok (.iload_n 1, 1) := by decide +kernel
theorem dX11_quiet_20 : decode cX11_quiet 20 = .ok (.iadd, 1) := by decide +kernel
theorem dX11_quiet_21 : decode cX11_quiet 21 = .ok (.invokestatic 237, 3) := by decide +kernel
theorem dX11_quiet_24 : decode cX11_quiet 24 = .ok (.istore_n 2, 1) := by decide +kernel
theorem dX11_quiet_25 : decode cX11_quiet 25 = .ok (.aload_n 0, 1) := by decide +kernel
theorem dX11_quiet_26 : decode cX11_quiet 26 = .ok (.getfield 48, 3) := by decide +kernel
theorem dX11_quiet_29 : decode cX11_quiet 29 = .ok (.istore_n 3, 1) := by decide +kernel
theorem dX11_quiet_30 : decode cX11_quiet 30 = .ok (.iload_n 2, 1) := by decide +kernel
theorem dX11_quiet_31 : decode cX11_quiet 31 = .ok (.iconst 1, 1) := by decide +kernel
theorem dX11_quiet_32 : decode cX11_quiet 32 = .ok (.if_icmp .ne 15, 3) := by decide +kernel
theorem dX11_quiet_35 : decode cX11_quiet 35 = .ok (.aload_n 0, 1) := by decide +kernel
theorem dX11_quiet_36 : decode cX11_quiet 36 = .ok (.getfield 48, 3) := by decide +kernel
theorem dX11_quiet_39 : decode cX11_quiet 39 = .ok (.iconst 2, 1) := by decide +kernel
theorem dX11_quiet_40 : decode cX11_quiet 40 = .ok (.imul, 1) := by decide +kernel
theorem dX11_quiet_41 : decode cX11_quiet 41 = .ok (.iconst 1, 1) := by decide +kernel
theorem dX11_quiet_42 : decode cX11_quiet 42 = .ok (.iadd, 1) := by decide +kernel
theorem dX11_quiet_43 : decode cX11_quiet 43 = .ok (.istore_n 3, 1) := by decide +kernel
theorem dX11_quiet_44 : decode cX11_quiet 44 = .ok (.goto 15, 3) := by decide +kernel
theorem dX11_quiet_47 : decode cX11_quiet 47 = .ok (.iload_n 2, 1) := by decide +kernel
theorem dX11_quiet_48 : decode cX11_quiet 48 = .ok (.iconst 2, 1) := by decide +kernel
theorem dX11_quiet_49 : decode cX11_quiet 49 = .ok (.if_icmp .ne 10, 3) := by decide +kernel
theorem dX11_quiet_52 : decode cX11_quiet 52 = .ok (.aload_n 0, 1) := by decide +kernel
theorem dX11_quiet_53 : decode cX11_quiet 53 = .ok (.getfield 48, 3) := by decide +kernel
theorem dX11_quiet_56 : decode cX11_quiet 56 = .ok (.iconst 2, 1) := by decide +kernel
theorem dX11_quiet_57 : decode cX11_quiet 57 = .ok (.idiv, 1) := by decide +kernel
theorem dX11_quiet_58 : decode cX11_quiet 58 = .ok (.istore_n 3, 1) := by decide +kernel
theorem dX11_quiet_59 : decode cX11_quiet 59 = .ok (.sipush 9999, 3) := by decide +kernel
theorem dX11_quiet_62 : decode cX11_quiet 62 = .ok (.iload_n 3, 1) := by decide +kernel
theorem dX11_quiet_63 : decode cX11_quiet 63 = .ok (.bipush 10, 2) := by decide +kernel
theorem dX11_quiet_65 : decode cX11_quiet 65 = .ok (.imul, 1) := by decide +kernel
theorem dX11_quiet_66 : decode cX11_quiet 66 = .ok (.bipush 9, 2) := by decide +kernel
theorem dX11_quiet_68 : decode cX11_quiet 68 = .ok (.iadd, 1) := by decide +kernel
theorem dX11_quiet_69 : decode cX11_quiet 69 = .ok (.invokestatic 255, 3) := by decide +kernel
theorem dX11_quiet_72 : decode cX11_quiet 72 = .ok (.ireturn, 1) := by decide +kernel
theorem dX11_night_0 : decode cX11_night 0 = .ok (.aload_n 0, 1) := by decide +kernel
theorem dX11_night_1 : decode cX11_night 1 = .ok (.iload_n 1, 1) := by decide +kernel
theorem dX11_night_2 : decode cX11_night 2 = .ok (.iload_n 2, 1) := by decide +kernel
theorem dX11_night_3 : decode cX11_night 3 = .ok (.iload_n 3, 1) := by decide +kernel
theorem dX11_night_4 : decode cX11_night 4 = .ok (.invokevirtual 333, 3) := by decide +kernel
theorem dX11_night_7 : decode cX11_night 7 = .ok (.istore 4, 2) := by decide +kernel
theorem dX11_night_9 : decode cX11_night 9 = .ok (.iload 4, 2) := by decide +kernel
theorem dX11_night_11 : decode cX11_night 11 = .ok (.ifCond .eq 6, 3) := by decide +kernel
theorem dX11_night_14 : decode cX11_night 14 = .ok (.iload 4, 2) := by decide +kernel
theorem dX11_night_16 : decode cX11_night 16 = .ok (.ireturn, 1) := by decide +kernel
theorem dX11_night_17 : decode cX11_night 17 = .ok (.aload_n 0, 1) := by decide +kernel
theorem dX11_night_18 : decode cX11_night 18 = .ok (.getfield 94, 3) := by decide +kernel
theorem dX11_night_21 : decode cX11_night 21 = .ok (.aload_n 0, 1) := by decide +kernel
theorem dX11_night_22 : decode cX11_night 22 = .ok (.getfield 54, 3) := by decide +kernel
theorem dX11_night_25 : decode cX11_night 25 = .ok (.iload_n 1, 1) := by decide +kernel
theorem dX11_night_26 : decode cX11_night 26 = .ok (.aload_n 0, 1) := by decide +kernel
theorem dX11_night_27 : decode cX11_night 27 = .ok (.getfield 26, 3) := by decide +kernel
theorem dX11_night_30 : decode cX11_night 30 = .ok (.getfield 295, 3) := by decide +kernel
theorem dX11_night_33 : decode cX11_night 33 = .ok (.invokevirtual 359, 3) := by decide +kernel
theorem dX11_night_36 : decode cX11_night 36 = .ok (.iconst (-1), 1) := by decide +kernel
theorem dX11_night_37 : decode cX11_night 37 = .ok (.istore 5, 2) := by decide +kernel
theorem dX11_night_39 : decode cX11_night 39 = .ok (.iconst 0, 1) := by decide +kernel
theorem dX11_night_40 : decode cX11_night 40 = .ok (.istore 6, 2) := by decide +kernel
theorem dX11_night_42 : decode cX11_night 42 = .ok (.iconst 0, 1) := by decide +kernel
theorem dX11_night_43 : decode cX11_night 43 = .ok (.istore 7, 2) := by decide +kernel
theorem dX11_night_45 : decode cX11_night 45 = .ok (.iload 7, 2) := by decide +kernel
theorem dX11_night_47 : decode cX11_night 47 = .ok (.iconst 4, 1) := by decide +kernel
theorem dX11_night_48 : decode cX11_night 48 = .ok (.if_icmp .ge 97, 3) := by decide +kernel
theorem dX11_night_51 : decode cX11_night 51 = .ok (.aload_n 0, 1) := by decide +kernel
theorem dX11_night_52 : decode cX11_night 52 = .ok (.getfield 26, 3) := by decide +kernel
theorem dX11_night_55 : decode cX11_night 55 = .ok (.getfield 234, 3) := by decide +kernel
theorem dX11_night_58 : decode cX11_night 58 = .ok (.iload 7, 2) := by decide +kernel
theorem dX11_night_60 : decode cX11_night 60 = .ok (.iadd, 1) := by decide +kernel
theorem dX11_night_61 : decode cX11_night 61 = .ok (.invokestatic 237, 3) := by decide +kernel
theorem dX11_night_64 : decode cX11_night 64 = .ok (.istore 8, 2) := by decide +kernel
theorem dX11_night_66 : decode cX11_night 66 = .ok (.aload_n 0, 1) := by decide +kernel
theorem dX11_night_67 : decode cX11_night 67 = .ok (.getfield 94, 3) := by decide +kernel
theorem dX11_night_70 : decode cX11_night 70 = .ok (.iconst 0, 1) := by decide +kernel
theorem dX11_night_71 : decode cX11_night 71 = .ok (.iload 8, 2) := by decide +kernel
theorem dX11_night_73 : decode cX11_night 73 = .ok (.invokevirtual 363, 3) := by decide +kernel
theorem dX11_night_76 : decode cX11_night 76 = .ok (.aload_n 0, 1) := by decide +kernel
theorem dX11_night_77 : decode cX11_night 77 = .ok (.getfield 94, 3) := by decide +kernel
theorem dX11_night_80 : decode cX11_night 80 = .ok (.iload_n 3, 1) := by decide +kernel
theorem dX11_night_81 : decode cX11_night 81 = .ok (.sipush 1498, 3) := by decide +kernel
theorem dX11_night_84 : decode cX11_night 84 = .ok (.bipush 64, 2) := by decide +kernel
theorem dX11_night_86 : decode cX11_night 86 = .ok (.invokevirtual 344, 3) := by decide +kernel
theorem dX11_night_89 : decode cX11_night 89 = .ok (.aload_n 0, 1) := by decide +kernel
theorem dX11_night_90 : decode cX11_night 90 = .ok (.getfield 94, 3) := by decide +kernel
theorem dX11_night_93 : decode cX11_night 93 = .ok (.iload_n 2, 1) := by decide +kernel
theorem dX11_night_94 : decode cX11_night 94 = .ok (.invokevirtual 352, 3) := by decide +kernel
theorem dX11_night_97 : decode cX11_night 97 = .ok (.ldc_w 355, 3) := by decide +kernel
theorem dX11_night_100 : decode cX11_night 100 = .ok (.if_icmp .ne 6, 3) := by decide +kernel
theorem dX11_night_103 : decode cX11_night 103 = .ok (.bipush (-2), 2) := by decide +kernel
theorem dX11_night_105 : decode cX11_night 105 = .ok (.ireturn, 1) := by decide +kernel
theorem dX11_night_106 : decode cX11_night 106 = .ok (.aload_n 0, 1) := by decide +kernel
theorem dX11_night_107 : decode cX11_night 107 = .ok (.getfield 94, 3) := by decide +kernel
theorem dX11_night_110 : decode cX11_night 110 = .ok (.iload_n 2, 1) := by decide +kernel
theorem dX11_night_111 : decode cX11_night 111 = .ok (.iload 8, 2) := by decide +kernel
theorem dX11_night_113 : decode cX11_night 113 = .ok (.invokevirtual 415, 3) := by decide +kernel
theorem dX11_night_116 : decode cX11_night 116 = .ok (.istore 9, 2) := by decide +kernel
theorem dX11_night_118 : decode cX11_night 118 = .ok (.iload 5, 2) := by decide +kernel
theorem dX11_night_120 : decode cX11_night 120 = .ok (.iconst (-1), 1) := by decide +kernel
theorem dX11_night_121 : decode cX11_night 121 = .ok (.if_icmp .eq 10, 3) := by decide +kernel
theorem dX11_night_124 : decode cX11_night 124 = .ok (.iload 9, 2) := by decide +kernel
theorem dX11_night_126 : decode cX11_night 126 = .ok (.iload 6, 2) := by decide +kernel
theorem dX11_night_128 : decode cX11_night 128 = .ok (.if_icmp .ge 11, 3) := by decide +kernel
theorem dX11_night_131 : decode cX11_night 131 = .ok (.iload 7, 2) := by decide +kernel
theorem dX11_night_133 : decode cX11_night 133 = .ok (.istore 5, 2) := by decide +kernel
theorem dX11_night_135 : decode cX11_night 135 = .ok (.iload 9, 2) := by decide +kernel
theorem dX11_night_137 : decode cX11_night 137 = .ok (.istore 6, 2) := by decide +kernel
theorem dX11_night_139 : decode cX11_night 139 = .ok (.iinc 7 1, 3) := by decide +kernel
theorem dX11_night_142 : decode cX11_night 142 = .ok (.goto (-97), 3) := by decide +kernel
theorem dX11_night_145 : decode cX11_night 145 = .ok (.aload_n 0, 1) := by decide +kernel
theorem dX11_night_146 : decode cX11_night 146 = .ok (.getfield 19, 3) := by decide +kernel
theorem dX11_night_149 : decode cX11_night 149 = .ok (.iload 6, 2) := by decide +kernel
theorem dX11_night_151 : decode cX11_night 151 = .ok (.i2l, 1) := by decide +kernel
theorem dX11_night_152 : decode cX11_night 152 = .ok (.invokevirtual 279, 3) := by decide +kernel
theorem dX11_night_155 : decode cX11_night 155 = .ok (.iload 5, 2) := by decide +kernel
theorem dX11_night_157 : decode cX11_night 157 = .ok (.ireturn, 1) := by decide +kernel
theorem dX11_walls_0 : decode cX11_walls 0 = .ok (.bipush (-100), 2) := by decide +kernel
theorem dX11_walls_2 : decode cX11_walls 2 = .ok (.istore_n 2, 1) := by decide +kernel
theorem dX11_walls_3 : decode cX11_walls 3 = .ok (.iload_n 1, 1) := by decide +kernel
theorem dX11_walls_4 : decode cX11_walls 4 = .ok (.ifCond .lt 48, 3) := by decide +kernel
theorem dX11_walls_7 : decode cX11_walls 7 = .ok (.iload_n 1, 1) := by decide +kernel
theorem dX11_walls_8 : decode cX11_walls 8 = .ok (.bipush 99, 2) := by decide +kernel
theorem dX11_walls_10 : decode cX11_walls 10 = .ok (.if_icmp .gt 42, 3) := by decide +kernel
theorem dX11_walls_13 : decode cX11_walls 13 = .ok (.aload_n 0, 1) := by decide +kernel
theorem dX11_walls_14 : decode cX11_walls 14 = .ok (.getfield 71, 3) := by decide +kernel
theorem dX11_walls_17 : decode cX11_walls 17 = .ok (.aload_n 0, 1) := by decide +kernel
theorem dX11_walls_18 : decode cX11_walls 18 = .ok (.getfield 10, 3) := by decide +kernel
theorem dX11_walls_21 : decode cX11_walls 21 = .ok (.invokevirtual 418, 3) := by decide +kernel
theorem dX11_walls_24 : decode cX11_walls 24 = .ok (.ifCond .eq 18, 3) := by decide +kernel
theorem dX11_walls_27 : decode cX11_walls 27 = .ok (.aload_n 0, 1) := by decide +kernel
theorem dX11_walls_28 : decode cX11_walls 28 = .ok (.getfield 71, 3) := by decide +kernel
theorem dX11_walls_31 : decode cX11_walls 31 = .ok (.iload_n 1, 1) := by decide +kernel
theorem dX11_walls_32 : decode cX11_walls 32 = .ok (.aload_n 0, 1) := by decide +kernel
theorem dX11_walls_33 : decode cX11_walls 33 = .ok (.getfield 19, 3) := by decide +kernel
theorem dX11_walls_36 : decode cX11_walls 36 = .ok (.invokevirtual 419, 3) := by decide +kernel
theorem dX11_walls_39 : decode cX11_walls 39 = .ok (.goto 12, 3) := by decide +kernel
theorem dX11_walls_42 : decode cX11_walls 42 = .ok (.iconst (-1), 1) := by decide +kernel
theorem dX11_walls_43 : decode cX11_walls 43 = .ok (.aload_n 0, 1) := by decide +kernel
theorem dX11_walls_44 : decode cX11_walls 44 = .ok (.getfield 10, 3) := by decide +kernel
theorem dX11_walls_47 : decode cX11_walls 47 = .ok (.getfield 123, 3) := by decide +kernel
theorem dX11_walls_50 : decode cX11_walls 50 = .ok (.isub, 1) := by decide +kernel
theorem dX11_walls_51 : decode cX11_walls 51 = .ok (.istore_n 2, 1) := by decide +kernel
theorem dX11_walls_52 : decode cX11_walls 52 = .ok (.aload_n 0, 1) := by decide +kernel
theorem dX11_walls_53 : decode cX11_walls 53 = .ok (.getfield 10, 3) := by decide +kernel
theorem dX11_walls_56 : decode cX11_walls 56 = .ok (.invokevirtual 136, 3) := by decide +kernel
theorem dX11_walls_59 : decode cX11_walls 59 = .ok (.iload_n 2, 1) := by decide +kernel
theorem dX11_walls_60 : decode cX11_walls 60 = .ok (.ireturn, 1) := by decide +kernel
theorem dX11_storm_0 : decode cX11_storm 0 = .ok (.iload_n 1, 1) := by decide +kernel
theorem dX11_storm_1 : decode cX11_storm 1 = .ok (.ifCond .lt 21, 3) := by decide +kernel
theorem dX11_storm_4 : decode cX11_storm 4 = .ok (.iload_n 2, 1) := by decide +kernel
theorem dX11_storm_5 : decode cX11_storm 5 = .ok (.ifCond .lt 17, 3) := by decide +kernel
theorem dX11_storm_8 : decode cX11_storm 8 = .ok (.iload_n 1, 1) := by decide +kernel
theorem dX11_storm_9 : decode cX11_storm 9 = .ok (.bipush 6, 2) := by decide +kernel
theorem dX11_storm_11 : decode cX11_storm 11 = .ok (.if_icmp .gt 11, 3) := by decide +kernel
theorem dX11_storm_14 : decode cX11_storm 14 = .ok (.iload_n 2, 1) := by decide +kernel
theorem dX11_storm_15 : decode cX11_storm 15 = .ok (.bipush 6, 2) := by decide +kernel
theorem dX11_storm_17 : decode cX11_storm 17 = .ok (.iload_n 1, 1) := by decide +kernel
theorem dX11_storm_18 : decode cX11_storm 18 = .ok (.isub, 1) := by decide +kernel
theorem dX11_storm_19 : decode cX11_storm 19 = .ok (.if_icmp .le 5, 3) := by decide +kernel
theorem dX11_storm_22 : decode cX11_storm 22 = .ok (.iconst (-1), 1) := by decide +kernel
theorem dX11_storm_23 : decode cX11_storm 23 = .ok (.ireturn, 1) := by decide +kernel
theorem dX11_storm_24 : decode cX11_storm 24 = .ok (.iconst 0, 1) := by decide +kernel
theorem dX11_storm_25 : decode cX11_storm 25 = .ok (.istore_n 3, 1) := by decide +kernel
theorem dX11_storm_26 : decode cX11_storm 26 = .ok (.bipush (-4), 2) := by decide +kernel
theorem dX11_storm_28 : decode cX11_storm 28 = .ok (.istore 4, 2) := by decide +kernel
theorem dX11_storm_30 : decode cX11_storm 30 = .ok (.iconst 0, 1) := by decide +kernel
theorem dX11_storm_31 : decode cX11_storm 31 = .ok (.istore 5, 2) := by decide +kernel
theorem dX11_storm_33 : decode cX11_storm 33 = .ok (.iconst 0, 1) := by decide +kernel
theorem dX11_storm_34 : decode cX11_storm 34 = .ok (.istore 6, 2) := by decide +kernel
theorem dX11_storm_36 : decode cX11_storm 36 = .ok (.iconst 0, 1) := by decide +kernel
theorem dX11_storm_37 : decode cX11_storm 37 = .ok (.istore 7, 2) := by decide +kernel
theorem dX11_storm_39 : decode cX11_storm 39 = .ok (.iload 7, 2) := by decide +kernel
theorem dX11_storm_41 : decode cX11_storm 41 = .ok (.bipush 6, 2) := by decide +kernel
theorem dX11_storm_43 : decode cX11_storm 43 = .ok (.if_icmp .gt 86, 3) := by decide +kernel
theorem dX11_storm_46 : decode cX11_storm 46 = .ok (.iconst 0, 1) := by decide +kernel
theorem dX11_storm_47 : decode cX11_storm 47 = .ok (.istore 8, 2) := by decide +kernel
theorem dX11_storm_49 : decode cX11_storm 49 = .ok (.iload 8, 2) := by decide +kernel
theorem dX11_storm_51 : decode cX11_storm 51 = .ok (.bipush 6, 2) := by decide +kernel
theorem dX11_storm_53 : decode cX11_storm 53 = .ok (.iload 7, 2) := by decide +kernel
theorem dX11_storm_55 : decode cX11_storm 55 = .ok (.isub, 1) := by decide +kernel
theorem dX11_storm_56 : decode cX11_storm 56 = .ok (.if_icmp .gt 67, 3) := by decide +kernel
theorem dX11_storm_59 : decode cX11_storm 59 = .ok (.iload 7, 2) := by decide +kernel
theorem dX11_storm_61 : decode cX11_storm 61 = .ok (.iload_n 1, 1) := by decide +kernel
theorem dX11_storm_62 : decode cX11_storm 62 = .ok (.invokestatic 423, 3) := by decide +kernel
theorem dX11_storm_65 : decode cX11_storm 65 = .ok (.iload 8, 2) := by decide +kernel
theorem dX11_storm_67 : decode cX11_storm 67 = .ok (.iload_n 2, 1) := by decide +kernel
theorem dX11_storm_68 : decode cX11_storm 68 = .ok (.invokestatic 423, 3) := by decide +kernel
theorem dX11_storm_71 : decode cX11_storm 71 = .ok (.iadd, 1) := by decide +kernel
theorem dX11_storm_72 : decode cX11_storm 72 = .ok (.iload_n 1, 1) := by decide +kernel
theorem dX11_storm_73 : decode cX11_storm 73 = .ok (.iload_n 2, 1) := by decide +kernel
theorem dX11_storm_74 : decode cX11_storm 74 = .ok (.iadd, 1) := by decide +kernel
theorem dX11_storm_75 : decode cX11_storm 75 = .ok (.iload 7, 2) := by decide +kernel
theorem dX11_storm_77 : decode cX11_storm 77 = .ok (.iload 8, 2) := by decide +kernel
theorem dX11_storm_79 : decode cX11_storm 79 = .ok (.iadd, 1) := by decide +kernel
theorem dX11_storm_80 : decode cX11_storm 80 = .ok (.invokestatic 423, 3) := by decide +kernel
theorem dX11_storm_83 : decode cX11_storm 83 = .ok (.iadd, 1) := by decide +kernel
theorem dX11_storm_84 : decode cX11_storm 84 = .ok (.istore 9, 2) := by decide +kernel
theorem dX11_storm_86 : decode cX11_storm 86 = .ok (.iload 9, 2) := by decide +kernel
theorem dX11_storm_88 : decode cX11_storm 88 = .ok (.iload 4, 2) := by decide +kernel
theorem dX11_storm_90 : decode cX11_storm 90 = .ok (.if_icmp .le 17, 3) := by decide +kernel
theorem dX11_storm_93 : decode cX11_storm 93 = .ok (.iload 9, 2) := by decide +kernel
theorem dX11_storm_95 : decode cX11_storm 95 = .ok (.istore 4, 2) := by decide +kernel
theorem dX11_storm_97 : decode cX11_storm 97 = .ok (.iconst 0, 1) := by decide +kernel
theorem dX11_storm_98 : decode cX11_storm 98 = .ok (.istore_n 3, 1) := by decide +kernel
theorem dX11_storm_99 : decode cX11_storm 99 = .ok (.iload 7, 2) := by decide +kernel
theorem dX11_storm_101 : decode cX11_storm 101 = .ok (.istore 5, 2) := by decide +kernel
theorem dX11_storm_103 : decode cX11_storm 103 = .ok (.iload 8, 2) := by decide +kernel
theorem dX11_storm_105 : decode cX11_storm 105 = .ok (.istore 6, 2) := by decide +kernel
theorem dX11_storm_107 : decode cX11_storm 107 = .ok (.iload 9, 2) := by decide +kernel
theorem dX11_storm_109 : decode cX11_storm 109 = .ok (.iload 4, 2) := by decide +kernel
theorem dX11_storm_111 : decode cX11_storm 111 = .ok (.if_icmp .ne 6, 3) := by decide +kernel
theorem dX11_storm_114 : decode cX11_storm 114 = .ok (.iinc 3 1, 3) := by decide +kernel
theorem dX11_storm_117 : decode cX11_storm 117 = .ok (.iinc 8 1, 3) := by decide +kernel
theorem dX11_storm_120 : decode cX11_storm 120 = .ok (.goto (-71), 3) := by decide +kernel
theorem dX11_storm_123 : decode cX11_storm 123 = .ok (.iinc 7 1, 3) := by decide +kernel
theorem dX11_storm_126 : decode cX11_storm 126 = .ok (.goto (-87), 3) := by decide +kernel
theorem dX11_storm_129 : decode cX11_storm 129 = .ok (.aload_n 0, 1) := by decide +kernel
theorem dX11_storm_130 : decode cX11_storm 130 = .ok (.getfield 19, 3) := by decide +kernel
theorem dX11_storm_133 : decode cX11_storm 133 = .ok (.iload 5, 2) := by decide +kernel
theorem dX11_storm_135 : decode cX11_storm 135 = .ok (.i2l, 1) := by decide +kernel
theorem dX11_storm_136 : decode cX11_storm 136 = .ok (.iload 6, 2) := by decide +kernel
theorem dX11_storm_138 : decode cX11_storm 138 = .ok (.i2l, 1) := by decide +kernel
theorem dX11_storm_139 : decode cX11_storm 139 = .ok (.invokevirtual 321, 3) := by decide +kernel
theorem dX11_storm_142 : decode cX11_storm 142 = .ok (.aload_n 0, 1) := by decide +kernel
theorem dX11_storm_143 : decode cX11_storm 143 = .ok (.getfield 19, 3) := by decide +kernel
theorem dX11_storm_146 : decode cX11_storm 146 = .ok (.iload 4, 2) := by decide +kernel
theorem dX11_storm_148 : decode cX11_storm 148 = .ok (.i2l, 1) := by decide +kernel
theorem dX11_storm_149 : decode cX11_storm 149 = .ok (.invokevirtual 426, 3) := by decide +kernel
theorem dX11_storm_152 : decode cX11_storm 152 = .ok (.iload_n 3, 1) := by decide +kernel
theorem dX11_storm_153 : decode cX11_storm 153 = .ok (.ireturn, 1) := by decide +kernel
theorem dX11_wonBy_0 : decode cX11_wonBy 0 = .ok (.iload_n 0, 1) := by decide +kernel
theorem dX11_wonBy_1 : decode cX11_wonBy 1 = .ok (.iload_n 1, 1) := by decide +kernel
theorem dX11_wonBy_2 : decode cX11_wonBy 2 = .ok (.if_icmp .ne 5, 3) := by decide +kernel
theorem dX11_wonBy_5 : decode cX11_wonBy 5 = .ok (.iconst 0, 1) := by decide +kernel
theorem dX11_wonBy_6 : decode cX11_wonBy 6 = .ok (.ireturn, 1) := by decide +kernel
theorem dX11_wonBy_7 : decode cX11_wonBy 7 = .ok (.iload_n 0, 1) := by decide +kernel
theorem dX11_wonBy_8 : decode cX11_wonBy 8 = .ok (.iload_n 1, 1) := by decide +kernel
theorem dX11_wonBy_9 : decode cX11_wonBy 9 = .ok (.if_icmp .le 7, 3) := by decide +kernel
theorem dX11_wonBy_12 : decode cX11_wonBy 12 = .ok (.iconst 1, 1) := by decide +kernel
theorem dX11_wonBy_13 : decode cX11_wonBy 13 = .ok (.goto 4, 3) := by decide +kernel
theorem dX11_wonBy_16 : decode cX11_wonBy 16 = .ok (.iconst (-1), 1) := by decide +kernel
theorem dX11_wonBy_17 : decode cX11_wonBy 17 = .ok (.ireturn, 1) := by decide +kernel
theorem dX11_town_0 : decode cX11_town 0 = .ok (.iload_n 1, 1) := by decide +kernel
theorem dX11_town_1 : decode cX11_town 1 = .ok (.iconst 1, 1) := by decide +kernel
theorem dX11_town_2 : decode cX11_town 2 = .ok (.if_icmp .lt 20, 3) := by decide +kernel
theorem dX11_town_5 : decode cX11_town 5 = .ok (.iload_n 1, 1) := by decide +kernel
theorem dX11_town_6 : decode cX11_town 6 = .ok (.bipush 60, 2) := by decide +kernel
theorem dX11_town_8 : decode cX11_town 8 = .ok (.if_icmp .gt 14, 3) := by decide +kernel
theorem dX11_town_11 : decode cX11_town 11 = .ok (.iload_n 2, 1) := by decide +kernel
theorem dX11_town_12 : decode cX11_town 12 = .ok (.iconst 1, 1) := by decide +kernel
theorem dX11_town_13 : decode cX11_town 13 = .ok (.if_icmp .lt 9, 3) := by decide +kernel
theorem dX11_town_16 : decode cX11_town 16 = .ok (.iload_n 2, 1) := by decide +kernel
theorem dX11_town_17 : decode cX11_town 17 = .ok (.bipush 20, 2) := by decide +kernel
theorem dX11_town_19 : decode cX11_town 19 = .ok (.if_icmp .le 5, 3) := by decide +kernel
theorem dX11_town_22 : decode cX11_town 22 = .ok (.iconst (-1), 1) := by decide +kernel
theorem dX11_town_23 : decode cX11_town 23 = .ok (.ireturn, 1) := by decide +kernel
theorem dX11_town_24 : decode cX11_town 24 = .ok (.aload_n 0, 1) := by decide +kernel
theorem dX11_town_25 : decode cX11_town 25 = .ok (.getfield 78, 3) := by decide +kernel
theorem dX11_town_28 : decode cX11_town 28 = .ok (.iload_n 1, 1) := by decide +kernel
theorem dX11_town_29 : decode cX11_town 29 = .ok (.iload_n 2, 1) := by decide +kernel
theorem dX11_town_30 : decode cX11_town 30 = .ok (.invokevirtual 428, 3) := by decide +kernel
theorem dX11_town_33 : decode cX11_town 33 = .ok (.aload_n 0, 1) := by decide +kernel
theorem dX11_town_34 : decode cX11_town 34 = .ok (.getfield 19, 3) := by decide +kernel
theorem dX11_town_37 : decode cX11_town 37 = .ok (.aload_n 0, 1) := by decide +kernel
theorem dX11_town_38 : decode cX11_town 38 = .ok (.getfield 78, 3) := by decide +kernel
theorem dX11_town_41 : decode cX11_town 41 = .ok (.getfield 431, 3) := by decide +kernel
theorem dX11_town_44 : decode cX11_town 44 = .ok (.iconst 0, 1) := by decide +kernel
theorem dX11_town_45 : decode cX11_town 45 = .ok (.iaload, 1) := by decide +kernel
theorem dX11_town_46 : decode cX11_town 46 = .ok (.i2l, 1) := by decide +kernel
theorem dX11_town_47 : decode cX11_town 47 = .ok (.aload_n 0, 1) := by decide +kernel
theorem dX11_town_48 : decode cX11_town 48 = .ok (.getfield 78, 3) := by decide +kernel
theorem dX11_town_51 : decode cX11_town 51 = .ok (.getfield 434, 3) := by decide +kernel
theorem dX11_town_54 : decode cX11_town 54 = .ok (.i2l, 1) := by decide +kernel
theorem dX11_town_55 : decode cX11_town 55 = .ok (.invokevirtual 321, 3) := by decide +kernel
theorem dX11_town_58 : decode cX11_town 58 = .ok (.aload_n 0, 1) := by decide +kernel
theorem dX11_town_59 : decode cX11_town 59 = .ok (.getfield 78, 3) := by decide +kernel
theorem dX11_town_62 : decode cX11_town 62 = .ok (.getfield 437, 3) := by decide +kernel
theorem dX11_town_65 : decode cX11_town 65 = .ok (.iconst 0, 1) := by decide +kernel
theorem dX11_town_66 : decode cX11_town 66 = .ok (.iaload, 1) := by decide +kernel
theorem dX11_town_67 : decode cX11_town 67 = .ok (.ireturn, 1) := by decide +kernel
theorem dX11_secret_0 : decode cX11_secret 0 = .ok (.iload_n 1, 1) := by decide +kernel
theorem dX11_secret_1 : decode cX11_secret 1 = .ok (.ifCond .lt 19, 3) := by decide +kernel
theorem dX11_secret_4 : decode cX11_secret 4 = .ok (.iload_n 1, 1) := by decide +kernel
theorem dX11_secret_5 : decode cX11_secret 5 = .ok (.bipush 12, 2) := by decide +kernel
theorem dX11_secret_7 : decode cX11_secret 7 = .ok (.if_icmp .gt 13, 3) := by decide +kernel
theorem dX11_secret_10 : decode cX11_secret 10 = .ok (.iload_n 2, 1) := by decide +kernel
theorem dX11_secret_11 : decode cX11_secret 11 = .ok (.ifCond .lt 9, 3) := by decide +kernel
theorem dX11_secret_14 : decode cX11_secret 14 = .ok (.iload_n 2, 1) := by decide +kernel
theorem dX11_secret_15 : decode cX11_secret 15 = .ok (.bipush 10, 2) := by decide +kernel
theorem dX11_secret_17 : decode cX11_secret 17 = .ok (.if_icmp .le 5, 3) := by decide +kernel
theorem dX11_secret_20 : decode cX11_secret 20 = .ok (.iconst (-1), 1) := by decide +kernel
theorem dX11_secret_21 : decode cX11_secret 21 = .ok (.ireturn, 1) := by decide +kernel
theorem dX11_secret_22 : decode cX11_secret 22 = .ok (.bipush 10, 2) := by decide +kernel
theorem dX11_secret_24 : decode cX11_secret 24 = .ok (.iload_n 2, 1) := by decide +kernel
theorem dX11_secret_25 : decode cX11_secret 25 = .ok (.isub, 1) := by decide +kernel
theorem dX11_secret_26 : decode cX11_secret 26 = .ok (.iload_n 1, 1) := by decide +kernel
theorem dX11_secret_27 : decode cX11_secret 27 = .ok (.invokestatic 440, 3) := by decide +kernel
theorem dX11_secret_30 : decode cX11_secret 30 = .ok (.lstore_n 3, 1) := by decide +kernel
theorem dX11_secret_31 : decode cX11_secret 31 = .ok (.bipush 10, 2) := by decide +kernel
theorem dX11_secret_33 : decode cX11_secret 33 = .ok (.iload_n 1, 1) := by decide +kernel
theorem dX11_secret_34 : decode cX11_secret 34 = .ok (.invokestatic 440, 3) := by decide +kernel
theorem dX11_secret_37 : decode cX11_secret 37 = .ok (.lstore 5, 2) := by decide +kernel
theorem dX11_secret_39 : decode cX11_secret 39 = .ok (.lload_n 3, 1) := by decide +kernel
theorem dX11_secret_40 : decode cX11_secret 40 = .ok (.lload 5, 2) := by decide +kernel
theorem dX11_secret_42 : decode cX11_secret 42 = .ok (.invokestatic 444, 3) := by decide +kernel
theorem dX11_secret_45 : decode cX11_secret 45 = .ok (.lstore 7, 2) := by decide +kernel
theorem dX11_secret_47 : decode cX11_secret 47 = .ok (.lload 7, 2) := by decide +kernel
theorem dX11_secret_49 : decode cX11_secret 49 = .ok (.lconst 0, 1) := by decide +kernel
theorem dX11_secret_50 : decode cX11_secret 50 = .ok (.lcmp, 1) := by decide +kernel
theorem dX11_secret_51 : decode cX11_secret 51 = .ok (.ifCond .le 15, 3) := by decide +kernel
theorem dX11_secret_54 : decode cX11_secret 54 = .ok (.lload_n 3, 1) := by decide +kernel
theorem dX11_secret_55 : decode cX11_secret 55 = .ok (.lload 7, 2) := by decide +kernel
theorem dX11_secret_57 : decode cX11_secret 57 = .ok (.ldiv, 1) := by decide +kernel
theorem dX11_secret_58 : decode cX11_secret 58 = .ok (.lstore_n 3, 1) := by decide +kernel
theorem dX11_secret_59 : decode cX11_secret 59 = .ok (.lload 5, 2) := by decide +kernel
theorem dX11_secret_61 : decode cX11_secret 61 = .ok (.lload 7, 2) := by decide +kernel
theorem dX11_secret_63 : decode cX11_secret 63 = .ok (.ldiv, 1) := by decide +kernel
theorem dX11_secret_64 : decode cX11_secret 64 = .ok (.lstore 5, 2) := by decide +kernel
theorem dX11_secret_66 : decode cX11_secret 66 = .ok (.aload_n 0, 1) := by decide +kernel
theorem dX11_secret_67 : decode cX11_secret 67 = .ok (.getfield 19, 3) := by decide +kernel
theorem dX11_secret_70 : decode cX11_secret 70 = .ok (.lload_n 3, 1) := by decide +kernel
theorem dX11_secret_71 : decode cX11_secret 71 = .ok (.lload 5, 2) := by decide +kernel
theorem dX11_secret_73 : decode cX11_secret 73 = .ok (.invokevirtual 321, 3) := by decide +kernel
theorem dX11_secret_76 : decode cX11_secret 76 = .ok (.iconst 0, 1) := by decide +kernel
theorem dX11_secret_77 : decode cX11_secret 77 = .ok (.ireturn, 1) := by decide +kernel
theorem dX11_power_0 : decode cX11_power 0 = .ok (.lconst 1, 1) := by decide +kernel
theorem dX11_power_1 : decode cX11_power 1 = .ok (.lstore_n 2, 1) := by decide +kernel
theorem dX11_power_2 : decode cX11_power 2 = .ok (.iconst 0, 1) := by decide +kernel
theorem dX11_power_3 : decode cX11_power 3 = .ok (.istore 4, 2) := by decide +kernel
theorem dX11_power_5 : decode cX11_power 5 = .ok (.iload 4, 2) := by decide +kernel
theorem dX11_power_7 : decode cX11_power 7 = .ok (.iload_n 1, 1) := by decide +kernel
theorem dX11_power_8 : decode cX11_power 8 = .ok (.if_icmp .ge 14, 3) := by decide +kernel
theorem dX11_power_11 : decode cX11_power 11 = .ok (.lload_n 2, 1) := by decide +kernel
theorem dX11_power_12 : decode cX11_power 12 = .ok (.iload_n 0, 1) := by decide +kernel
theorem dX11_power_13 : decode cX11_power 13 = .ok (.i2l, 1) := by decide +kernel
theorem dX11_power_14 : decode cX11_power 14 = .ok (.lmul, 1) := by decide +kernel
theorem dX11_power_15 : decode cX11_power 15 = .ok (.lstore_n 2, 1) := by decide +kernel
theorem dX11_power_16 : decode cX11_power 16 = .ok (.iinc 4 1, 3) := by decide +kernel
theorem dX11_power_19 : decode cX11_power 19 = .ok (.goto (-14), 3) := by decide +kernel
theorem dX11_power_22 : decode cX11_power 22 = .ok (.lload_n 2, 1) := by decide +kernel
theorem dX11_power_23 : decode cX11_power 23 = .ok (.lreturn, 1) := by decide +kernel
theorem dX11_commonDivisor_0 : decode cX11_commonDivisor 0 = .ok (.lload_n 0, 1) := by decide +kernel
theorem dX11_commonDivisor_1 : decode cX11_commonDivisor 1 = .ok (.lstore 4, 2) := by decide +kernel
theorem dX11_commonDivisor_3 : decode cX11_commonDivisor 3 = .ok (.lload_n 2, 1) := by decide +kernel
theorem dX11_commonDivisor_4 : decode cX11_commonDivisor 4 = .ok (.lstore 6, 2) := by decide +kernel
theorem dX11_commonDivisor_6 : decode cX11_commonDivisor 6 = .ok (.iconst 0, 1) := by decide +kernel
theorem dX11_commonDivisor_7 : decode cX11_commonDivisor 7 = .ok (.istore 8, 2) := by decide +kernel
theorem dX11_commonDivisor_9 : decode cX11_commonDivisor 9 = .ok (.iload 8, 2) := by decide +kernel
theorem dX11_commonDivisor_11 : decode cX11_commonDivisor 11 = .ok (.bipush 100, 2) := by decide +kernel
theorem dX11_commonDivisor_13 : decode cX11_commonDivisor 13 = .ok (.if_icmp .ge 31, 3) := by decide +kernel
theorem dX11_commonDivisor_16 : decode cX11_commonDivisor 16 = .ok (.lload 6, 2) := by decide +kernel
theorem dX11_commonDivisor_18 : decode cX11_commonDivisor 18 = .ok (.lconst 0, 1) := by decide +kernel
theorem dX11_commonDivisor_19 : decode cX11_commonDivisor 19 = .ok (.lcmp, 1) := by decide +kernel
theorem dX11_commonDivisor_20 : decode cX11_commonDivisor 20 = .ok (.ifCond .eq 24, 3) := by decide +kernel
theorem dX11_commonDivisor_23 : decode cX11_commonDivisor 23 = .ok (.lload 4, 2) := by decide +kernel
theorem dX11_commonDivisor_25 : decode cX11_commonDivisor 25 = .ok (.lload 6, 2) := by decide +kernel
theorem dX11_commonDivisor_27 : decode cX11_commonDivisor 27 = .ok (.lrem, 1) := by decide +kernel
theorem dX11_commonDivisor_28 : decode cX11_commonDivisor 28 = .ok (.lstore 9, 2) := by decide +kernel
theorem dX11_commonDivisor_30 : decode cX11_commonDivisor 30 = .ok (.lload 6, 2) := by decide +kernel
theorem dX11_commonDivisor_32 : decode cX11_commonDivisor 32 = .ok (.lstore 4, 2) := by decide +kernel
theorem dX11_commonDivisor_34 : decode cX11_commonDivisor 34 = .ok (.lload 9, 2) := by decide +kernel
theorem dX11_commonDivisor_36 : decode cX11_commonDivisor 36 = .ok (.lstore 6, 2) := by decide +kernel
theorem dX11_commonDivisor_38 : decode cX11_commonDivisor 38 = .ok (.iinc 8 1, 3) := by decide +kernel
theorem dX11_commonDivisor_41 : decode cX11_commonDivisor 41 = .ok (.goto (-32), 3) := by decide +kernel
theorem dX11_commonDivisor_44 : decode cX11_commonDivisor 44 = .ok (.lload 4, 2) := by decide +kernel
theorem dX11_commonDivisor_46 : decode cX11_commonDivisor 46 = .ok (.lreturn, 1) := by decide +kernel
theorem dX11_told_0 : decode cX11_told 0 = .ok (.iload_n 1, 1) := by decide +kernel
theorem dX11_told_1 : decode cX11_told 1 = .ok (.ifCond .lt 19, 3) := by decide +kernel
theorem dX11_told_4 : decode cX11_told 4 = .ok (.iload_n 1, 1) := by decide +kernel
theorem dX11_told_5 : decode cX11_told 5 = .ok (.bipush 10, 2) := by decide +kernel
theorem dX11_told_7 : decode cX11_told 7 = .ok (.if_icmp .gt 13, 3) := by decide +kernel
theorem dX11_told_10 : decode cX11_told 10 = .ok (.iload_n 2, 1) := by decide +kernel
theorem dX11_told_11 : decode cX11_told 11 = .ok (.ifCond .lt 9, 3) := by decide +kernel
theorem dX11_told_14 : decode cX11_told 14 = .ok (.iload_n 2, 1) := by decide +kernel
theorem dX11_told_15 : decode cX11_told 15 = .ok (.bipush 100, 2) := by decide +kernel
theorem dX11_told_17 : decode cX11_told 17 = .ok (.if_icmp .le 5, 3) := by decide +kernel
theorem dX11_told_20 : decode cX11_told 20 = .ok (.iconst (-1), 1) := by decide +kernel
theorem dX11_told_21 : decode cX11_told 21 = .ok (.ireturn, 1) := by decide +kernel
theorem dX11_told_22 : decode cX11_told 22 = .ok (.bipush 12, 2) := by decide +kernel
theorem dX11_told_24 : decode cX11_told 24 = .ok (.istore_n 3, 1) := by decide +kernel
theorem dX11_told_25 : decode cX11_told 25 = .ok (.iload_n 3, 1) := by decide +kernel
theorem dX11_told_26 : decode cX11_told 26 = .ok (.ifCond .lt 36, 3) := by decide +kernel
theorem dX11_told_29 : decode cX11_told 29 = .ok (.ldc2_w 447, 3) := by decide +kernel
theorem dX11_told_32 : decode cX11_told 32 = .ok (.bipush 10, 2) := by decide +kernel
theorem dX11_told_34 : decode cX11_told 34 = .ok (.iload_n 1, 1) := by decide +kernel
theorem dX11_told_35 : decode cX11_told 35 = .ok (.isub, 1) := by decide +kernel
theorem dX11_told_36 : decode cX11_told 36 = .ok (.iload_n 3, 1) := by decide +kernel
theorem dX11_told_37 : decode cX11_told 37 = .ok (.invokestatic 440, 3) := by decide +kernel
theorem dX11_told_40 : decode cX11_told 40 = .ok (.lmul, 1) := by decide +kernel
theorem dX11_told_41 : decode cX11_told 41 = .ok (.iload_n 2, 1) := by decide +kernel
theorem dX11_told_42 : decode cX11_told 42 = .ok (.i2l, 1) := by decide +kernel
theorem dX11_told_43 : decode cX11_told 43 = .ok (.bipush 10, 2) := by decide +kernel
theorem dX11_told_45 : decode cX11_told 45 = .ok (.iload_n 3, 1) := by decide +kernel
theorem dX11_told_46 : decode cX11_told 46 = .ok (.invokestatic 440, 3) := by decide +kernel
theorem dX11_told_49 : decode cX11_told 49 = .ok (.lmul, 1) := by decide +kernel
theorem dX11_told_50 : decode cX11_told 50 = .ok (.lcmp, 1) := by decide +kernel
theorem dX11_told_51 : decode cX11_told 51 = .ok (.ifCond .lt 5, 3) := by decide +kernel
theorem dX11_told_54 : decode cX11_told 54 = .ok (.iload_n 3, 1) := by decide +kernel
theorem dX11_told_55 : decode cX11_told 55 = .ok (.ireturn, 1) := by decide +kernel
theorem dX11_told_56 : decode cX11_told 56 = .ok (.iinc 3 (-1), 3) := by decide +kernel
theorem dX11_told_59 : decode cX11_told 59 = .ok (.goto (-34), 3) := by decide +kernel
theorem dX11_told_62 : decode cX11_told 62 = .ok (.bipush (-2), 2) := by decide +kernel
theorem dX11_told_64 : decode cX11_told 64 = .ok (.ireturn, 1) := by decide +kernel
theorem dX11_trace_0 : decode cX11_trace 0 = .ok (.iload_n 1, 1) := by decide +kernel
theorem dX11_trace_1 : decode cX11_trace 1 = .ok (.invokestatic 356, 3) := by decide +kernel
theorem dX11_trace_4 : decode cX11_trace 4 = .ok (.ifCond .eq 24, 3) := by decide +kernel
theorem dX11_trace_7 : decode cX11_trace 7 = .ok (.iload_n 2, 1) := by decide +kernel
theorem dX11_trace_8 : decode cX11_trace 8 = .ok (.ifCond .lt 20, 3) := by decide +kernel
theorem dX11_trace_11 : decode cX11_trace 11 = .ok (.iload_n 2, 1) := by decide +kernel
theorem dX11_trace_12 : decode cX11_trace 12 = .ok (.iconst 1, 1) := by decide +kernel
theorem dX11_trace_13 : decode cX11_trace 13 = .ok (.if_icmp .gt 15, 3) := by decide +kernel
theorem dX11_trace_16 : decode cX11_trace 16 = .ok (.aload_n 0, 1) := by decide +kernel
theorem dX11_trace_17 : decode cX11_trace 17 = .ok (.getfield 64, 3) := by decide +kernel
theorem dX11_trace_20 : decode cX11_trace 20 = .ok (.getfield 449, 3) := by decide +kernel
theorem dX11_trace_23 : decode cX11_trace 23 = .ok (.bipush 12, 2) := by decide +kernel
theorem dX11_trace_25 : decode cX11_trace 25 = .ok (.if_icmp .lt 5, 3) := by decide +kernel
theorem dX11_trace_28 : decode cX11_trace 28 = .ok (.iconst (-1), 1) := by decide +kernel
theorem dX11_trace_29 : decode cX11_trace 29 = .ok (.ireturn, 1) := by decide +kernel
theorem dX11_trace_30 : decode cX11_trace 30 = .ok (.aload_n 0, 1) := by decide +kernel
theorem dX11_trace_31 : decode cX11_trace 31 = .ok (.getfield 64, 3) := by decide +kernel
theorem dX11_trace_34 : decode cX11_trace 34 = .ok (.iload_n 1, 1) := by decide +kernel
theorem dX11_trace_35 : decode cX11_trace 35 = .ok (.iload_n 2, 1) := by decide +kernel
theorem dX11_trace_36 : decode cX11_trace 36 = .ok (.iconst 1, 1) := by decide +kernel
theorem dX11_trace_37 : decode cX11_trace 37 = .ok (.if_icmp .ne 7, 3) := by decide +kernel
theorem dX11_trace_40 : decode cX11_trace 40 = .ok (.iconst 1, 1) := by decide +kernel
theorem dX11_trace_41 : decode cX11_trace 41 = .ok (.goto 4, 3) := by decide +kernel
theorem dX11_trace_44 : decode cX11_trace 44 = .ok (.iconst 0, 1) := by decide +kernel
theorem dX11_trace_45 : decode cX11_trace 45 = .ok (.invokevirtual 450, 3) := by decide +kernel
theorem dX11_trace_48 : decode cX11_trace 48 = .ok (.aload_n 0, 1) := by decide +kernel
theorem dX11_trace_49 : decode cX11_trace 49 = .ok (.getfield 64, 3) := by decide +kernel
theorem dX11_trace_52 : decode cX11_trace 52 = .ok (.getfield 449, 3) := by decide +kernel
theorem dX11_trace_55 : decode cX11_trace 55 = .ok (.ireturn, 1) := by decide +kernel
theorem dX11_forget_0 : decode cX11_forget 0 = .ok (.aload_n 0, 1) := by decide +kernel
theorem dX11_forget_1 : decode cX11_forget 1 = .ok (.getfield 64, 3) := by decide +kernel
theorem dX11_forget_4 : decode cX11_forget 4 = .ok (.getfield 449, 3) := by decide +kernel
theorem dX11_forget_7 : decode cX11_forget 7 = .ok (.istore_n 1, 1) := by decide +kernel
theorem dX11_forget_8 : decode cX11_forget 8 = .ok (.aload_n 0, 1) := by decide +kernel
theorem dX11_forget_9 : decode cX11_forget 9 = .ok (.getfield 64, 3) := by decide +kernel
theorem dX11_forget_12 : decode cX11_forget 12 = .ok (.invokevirtual 143, 3) := by decide +kernel
theorem dX11_forget_15 : decode cX11_forget 15 = .ok (.iload_n 1, 1) := by decide +kernel
theorem dX11_forget_16 : decode cX11_forget 16 = .ok (.ireturn, 1) := by decide +kernel
theorem dX11_fits_0 : decode cX11_fits 0 = .ok (.aload_n 0, 1) := by decide +kernel
theorem dX11_fits_1 : decode cX11_fits 1 = .ok (.invokevirtual 453, 3) := by decide +kernel
theorem dX11_fits_4 : decode cX11_fits 4 = .ok (.istore_n 1, 1) := by decide +kernel
theorem dX11_fits_5 : decode cX11_fits 5 = .ok (.aload_n 0, 1) := by decide +kernel
theorem dX11_fits_6 : decode cX11_fits 6 = .ok (.getfield 19, 3) := by decide +kernel
theorem dX11_fits_9 : decode cX11_fits 9 = .ok (.iload_n 1, 1) := by decide +kernel
theorem dX11_fits_10 : decode cX11_fits 10 = .ok (.invokestatic 317, 3) := by decide +kernel
theorem dX11_fits_13 : decode cX11_fits 13 = .ok (.i2l, 1) := by decide +kernel
theorem dX11_fits_14 : decode cX11_fits 14 = .ok (.invokevirtual 279, 3) := by decide +kernel
theorem dX11_fits_17 : decode cX11_fits 17 = .ok (.iload_n 1, 1) := by decide +kernel
theorem dX11_fits_18 : decode cX11_fits 18 = .ok (.ireturn, 1) := by decide +kernel
theorem dX11_fitting_0 : decode cX11_fitting 0 = .ok (.iconst 0, 1) := by decide +kernel
theorem dX11_fitting_1 : decode cX11_fitting 1 = .ok (.istore_n 1, 1) := by decide +kernel
theorem dX11_fitting_2 : decode cX11_fitting 2 = .ok (.iconst 0, 1) := by decide +kernel
theorem dX11_fitting_3 : decode cX11_fitting 3 = .ok (.istore_n 2, 1) := by decide +kernel
theorem dX11_fitting_4 : decode cX11_fitting 4 = .ok (.iload_n 2, 1) := by decide +kernel
theorem dX11_fitting_5 : decode cX11_fitting 5 = .ok (.aload_n 0, 1) := by decide +kernel
theorem dX11_fitting_6 : decode cX11_fitting 6 = .ok (.getfield 26, 3) := by decide +kernel
theorem dX11_fitting_9 : decode cX11_fitting 9 = .ok (.getfield 102, 3) := by decide +kernel
theorem dX11_fitting_12 : decode cX11_fitting 12 = .ok (.if_icmp .ge 37, 3) := by decide +kernel
theorem dX11_fitting_15 : decode cX11_fitting 15 = .ok (.iload_n 2, 1) := by decide +kernel
theorem dX11_fitting_16 : decode cX11_fitting 16 = .ok (.bipush 8, 2) := by decide +kernel
theorem dX11_fitting_18 : decode cX11_fitting 18 = .ok (.if_icmp .ge 31, 3) := by decide +kernel
theorem dX11_fitting_21 : decode cX11_fitting 21 = .ok (.aload_n 0, 1) := by decide +kernel
theorem dX11_fitting_22 : decode cX11_fitting 22 = .ok (.getfield 64, 3) := by decide +kernel
theorem dX11_fitting_25 : decode cX11_fitting 25 = .ok (.aload_n 0, 1) := by decide +kernel
theorem dX11_fitting_26 : decode cX11_fitting 26 = .ok (.getfield 40, 3) := by decide +kernel
theorem dX11_fitting_29 : decode cX11_fitting 29 = .ok (.iload_n 2, 1) := by decide +kernel
theorem dX11_fitting_30 : decode cX11_fitting 30 = .ok (.iaload, 1) := by decide +kernel
theorem dX11_fitting_31 : decode cX11_fitting 31 = .ok (.invokevirtual 456, 3) := by decide +kernel
theorem dX11_fitting_34 : decode cX11_fitting 34 = .ok (.ifCond .eq 9, 3) := by decide +kernel
theorem dX11_fitting_37 : decode cX11_fitting 37 = .ok (.iload_n 1, 1) := by decide +kernel
theorem dX11_fitting_38 : decode cX11_fitting 38 = .ok (.iconst 1, 1) := by decide +kernel
theorem dX11_fitting_39 : decode cX11_fitting 39 = .ok (.iload_n 2, 1) := by decide +kernel
theorem dX11_fitting_40 : decode cX11_fitting 40 = .ok (.ishl, 1) := by decide +kernel
theorem dX11_fitting_41 : decode cX11_fitting 41 = .ok (.ior, 1) := by decide +kernel
theorem dX11_fitting_42 : decode cX11_fitting 42 = .ok (.istore_n 1, 1) := by decide +kernel
theorem dX11_fitting_43 : decode cX11_fitting 43 = .ok (.iinc 2 1, 3) := by decide +kernel
theorem dX11_fitting_46 : decode cX11_fitting 46 = .ok (.goto (-42), 3) := by decide +kernel
theorem dX11_fitting_49 : decode cX11_fitting 49 = .ok (.iload_n 1, 1) := by decide +kernel
theorem dX11_fitting_50 : decode cX11_fitting 50 = .ok (.ireturn, 1) := by decide +kernel
theorem dX11_ask_0 : decode cX11_ask 0 = .ok (.aload_n 0, 1) := by decide +kernel
theorem dX11_ask_1 : decode cX11_ask 1 = .ok (.invokevirtual 453, 3) := by decide +kernel
theorem dX11_ask_4 : decode cX11_ask 4 = .ok (.istore_n 1, 1) := by decide +kernel
theorem dX11_ask_5 : decode cX11_ask 5 = .ok (.iload_n 1, 1) := by decide +kernel
theorem dX11_ask_6 : decode cX11_ask 6 = .ok (.ifCond .ne 6, 3) := by decide +kernel
theorem dX11_ask_9 : decode cX11_ask 9 = .ok (.bipush (-2), 2) := by decide +kernel
theorem dX11_ask_11 : decode cX11_ask 11 = .ok (.ireturn, 1) := by decide +kernel
theorem dX11_ask_12 : decode cX11_ask 12 = .ok (.iconst (-1), 1) := by decide +kernel
theorem dX11_ask_13 : decode cX11_ask 13 = .ok (.istore_n 2, 1) := by decide +kernel
theorem dX11_ask_14 : decode cX11_ask 14 = .ok (.iconst 0, 1) := by decide +kernel
theorem dX11_ask_15 : decode cX11_ask 15 = .ok (.istore_n 3, 1) := by decide +kernel
theorem dX11_ask_16 : decode cX11_ask 16 = .ok (.iconst 1, 1) := by decide +kernel
theorem dX11_ask_17 : decode cX11_ask 17 = .ok (.istore 4, 2) := by decide +kernel
theorem dX11_ask_19 : decode cX11_ask 19 = .ok (.iload 4, 2) := by decide +kernel
theorem dX11_ask_21 : decode cX11_ask 21 = .ok (.bipush 99, 2) := by decide +kernel
theorem dX11_ask_23 : decode cX11_ask 23 = .ok (.if_icmp .gt 49, 3) := by decide +kernel
theorem dX11_ask_26 : decode cX11_ask 26 = .ok (.aload_n 0, 1) := by decide +kernel
theorem dX11_ask_27 : decode cX11_ask 27 = .ok (.iload_n 1, 1) := by decide +kernel
theorem dX11_ask_28 : decode cX11_ask 28 = .ok (.iload 4, 2) := by decide +kernel
theorem dX11_ask_30 : decode cX11_ask 30 = .ok (.invokevirtual 459, 3) := by decide +kernel
theorem dX11_ask_33 : decode cX11_ask 33 = .ok (.istore 5, 2) := by decide +kernel
theorem dX11_ask_35 : decode cX11_ask 35 = .ok (.iload 5, 2) := by decide +kernel
theorem dX11_ask_37 : decode cX11_ask 37 = .ok (.iload_n 1, 1) := by decide +kernel
theorem dX11_ask_38 : decode cX11_ask 38 = .ok (.invokestatic 317, 3) := by decide +kernel
theorem dX11_ask_41 : decode cX11_ask 41 = .ok (.iload 5, 2) := by decide +kernel
theorem dX11_ask_43 : decode cX11_ask 43 = .ok (.isub, 1) := by decide +kernel
theorem dX11_ask_44 : decode cX11_ask 44 = .ok (.invokestatic 258, 3) := by decide +kernel
theorem dX11_ask_47 : decode cX11_ask 47 = .ok (.istore 6, 2) := by decide +kernel
theorem dX11_ask_49 : decode cX11_ask 49 = .ok (.iload_n 2, 1) := by decide +kernel
theorem dX11_ask_50 : decode cX11_ask 50 = .ok (.iconst (-1), 1) := by decide +kernel
theorem dX11_ask_51 : decode cX11_ask 51 = .ok (.if_icmp .eq 9, 3) := by decide +kernel
theorem dX11_ask_54 : decode cX11_ask 54 = .ok (.iload 6, 2) := by decide +kernel
theorem dX11_ask_56 : decode cX11_ask 56 = .ok (.iload_n 3, 1) := by decide +kernel
theorem dX11_ask_57 : decode cX11_ask 57 = .ok (.if_icmp .ge 9, 3) := by decide +kernel
theorem dX11_ask_60 : decode cX11_ask 60 = .ok (.iload 4, 2) := by decide +kernel
theorem dX11_ask_62 : decode cX11_ask 62 = .ok (.istore_n 2, 1) := by decide +kernel
theorem dX11_ask_63 : decode cX11_ask 63 = .ok (.iload 6, 2) := by decide +kernel
theorem dX11_ask_65 : decode cX11_ask 65 = .ok (.istore_n 3, 1) := by decide +kernel
theorem dX11_ask_66 : decode cX11_ask 66 = .ok (.iinc 4 1, 3) := by decide +kernel
theorem dX11_ask_69 : decode cX11_ask 69 = .ok (.goto (-50), 3) := by decide +kernel
theorem dX11_ask_72 : decode cX11_ask 72 = .ok (.aload_n 0, 1) := by decide +kernel
theorem dX11_ask_73 : decode cX11_ask 73 = .ok (.getfield 19, 3) := by decide +kernel
theorem dX11_ask_76 : decode cX11_ask 76 = .ok (.iload_n 3, 1) := by decide +kernel
theorem dX11_ask_77 : decode cX11_ask 77 = .ok (.i2l, 1) := by decide +kernel
theorem dX11_ask_78 : decode cX11_ask 78 = .ok (.invokevirtual 279, 3) := by decide +kernel
theorem dX11_ask_81 : decode cX11_ask 81 = .ok (.iload_n 2, 1) := by decide +kernel
theorem dX11_ask_82 : decode cX11_ask 82 = .ok (.ireturn, 1) := by decide +kernel
theorem dX11_heavyAmong_0 : decode cX11_heavyAmong 0 = .ok (.iconst 0, 1) := by decide +kernel
theorem dX11_heavyAmong_1 : decode cX11_heavyAmong 1 = .ok (.istore_n 3, 1) := by decide +kernel
theorem dX11_heavyAmong_2 : decode cX11_heavyAmong 2 = .ok (.iconst 0, 1) := by decide +kernel
theorem dX11_heavyAmong_3 : decode cX11_heavyAmong 3 = .ok (.istore 4, 2) := by decide +kernel
theorem dX11_heavyAmong_5 : decode cX11_heavyAmong 5 = .ok (.iload 4, 2) := by decide +kernel
theorem dX11_heavyAmong_7 : decode cX11_heavyAmong 7 = .ok (.bipush 8, 2) := by decide +kernel
theorem dX11_heavyAmong_9 : decode cX11_heavyAmong 9 = .ok (.if_icmp .ge 32, 3) := by decide +kernel
theorem dX11_heavyAmong_12 : decode cX11_heavyAmong 12 = .ok (.iload_n 1, 1) := by decide +kernel
theorem dX11_heavyAmong_13 : decode cX11_heavyAmong 13 = .ok (.iload 4, 2) := by decide +kernel
theorem dX11_heavyAmong_15 : decode cX11_heavyAmong 15 = .ok (.iushr, 1) := by decide +kernel
theorem dX11_heavyAmong_16 : decode cX11_heavyAmong 16 = .ok (.iconst 1, 1) := by decide +kernel
theorem dX11_heavyAmong_17 : decode cX11_heavyAmong 17 = .ok (.iand, 1) := by decide +kernel
theorem dX11_heavyAmong_18 : decode cX11_heavyAmong 18 = .ok (.ifCond .eq 17, 3) := by decide +kernel
theorem dX11_heavyAmong_21 : decode cX11_heavyAmong 21 = .ok (.aload_n 0, 1) := by decide +kernel
theorem dX11_heavyAmong_22 : decode cX11_heavyAmong 22 = .ok (.getfield 40, 3) := by decide +kernel
theorem dX11_heavyAmong_25 : decode cX11_heavyAmong 25 = .ok (.iload 4, 2) := by decide +kernel
theorem dX11_heavyAmong_27 : decode cX11_heavyAmong 27 = .ok (.iaload, 1) := by decide +kernel
theorem dX11_heavyAmong_28 : decode cX11_heavyAmong 28 = .ok (.iload_n 2, 1) := by decide +kernel
theorem dX11_heavyAmong_29 : decode cX11_heavyAmong 29 = .ok (.if_icmp .lt 6, 3) := by decide +kernel
theorem dX11_heavyAmong_32 : decode cX11_heavyAmong 32 = .ok (.iinc 3 1, 3) := by decide +kernel
theorem dX11_heavyAmong_35 : decode cX11_heavyAmong 35 = .ok (.iinc 4 1, 3) := by decide +kernel
theorem dX11_heavyAmong_38 : decode cX11_heavyAmong 38 = .ok (.goto (-33), 3) := by decide +kernel
theorem dX11_heavyAmong_41 : decode cX11_heavyAmong 41 = .ok (.iload_n 3, 1) := by decide +kernel
theorem dX11_heavyAmong_42 : decode cX11_heavyAmong 42 = .ok (.ireturn, 1) := by decide +kernel
theorem dX11_law_0 : decode cX11_law 0 = .ok (.sipush (-20000), 3) := by decide +kernel
theorem dX11_law_3 : decode cX11_law 3 = .ok (.istore_n 2, 1) := by decide +kernel
theorem dX11_law_4 : decode cX11_law 4 = .ok (.aload_n 0, 1) := by decide +kernel
theorem dX11_law_5 : decode cX11_law 5 = .ok (.iload_n 1, 1) := by decide +kernel
theorem dX11_law_6 : decode cX11_law 6 = .ok (.invokevirtual 204, 3) := by decide +kernel
theorem dX11_law_9 : decode cX11_law 9 = .ok (.ifCond .eq 72, 3) := by decide +kernel
theorem dX11_law_12 : decode cX11_law 12 = .ok (.aload_n 0, 1) := by decide +kernel
theorem dX11_law_13 : decode cX11_law 13 = .ok (.getfield 58, 3) := by decide +kernel
theorem dX11_law_16 : decode cX11_law 16 = .ok (.aload_n 0, 1) := by decide +kernel
theorem dX11_law_17 : decode cX11_law 17 = .ok (.getfield 10, 3) := by decide +kernel
theorem dX11_law_20 : decode cX11_law 20 = .ok (.invokevirtual 179, 3) := by decide +kernel
theorem dX11_law_23 : decode cX11_law 23 = .ok (.istore_n 3, 1) := by decide +kernel
theorem dX11_law_24 : decode cX11_law 24 = .ok (.sipush (-10000), 3) := by decide +kernel
theorem dX11_law_27 : decode cX11_law 27 = .ok (.aload_n 0, 1) := by decide +kernel
theorem dX11_law_28 : decode cX11_law 28 = .ok (.getfield 10, 3) := by decide +kernel
theorem dX11_law_31 : decode cX11_law 31 = .ok (.getfield 123, 3) := by decide +kernel
theorem dX11_law_34 : decode cX11_law 34 = .ok (.isub, 1) := by decide +kernel
theorem dX11_law_35 : decode cX11_law 35 = .ok (.istore_n 2, 1) := by decide +kernel
theorem dX11_law_36 : decode cX11_law 36 = .ok (.iload_n 3, 1) := by decide +kernel
theorem dX11_law_37 : decode cX11_law 37 = .ok (.ifCond .eq 44, 3) := by decide +kernel
theorem dX11_law_40 : decode cX11_law 40 = .ok (.aload_n 0, 1) := by decide +kernel
theorem dX11_law_41 : decode cX11_law 41 = .ok (.aload_n 0, 1) := by decide +kernel
theorem dX11_law_42 : decode cX11_law 42 = .ok (.getfield 58, 3) := by decide +kernel
theorem dX11_law_45 : decode cX11_law 45 = .ok (.iload_n 1, 1) := by decide +kernel
theorem dX11_law_46 : decode cX11_law 46 = .ok (.invokevirtual 407, 3) := by decide +kernel
theorem dX11_law_49 : decode cX11_law 49 = .ok (.istore 4, 2) := by decide +kernel
theorem dX11_law_51 : decode cX11_law 51 = .ok (.aload_n 0, 1) := by decide +kernel
theorem dX11_law_52 : decode cX11_law 52 = .ok (.aload_n 0, 1) := by decide +kernel
theorem dX11_law_53 : decode cX11_law 53 = .ok (.getfield 54, 3) := by decide +kernel
theorem dX11_law_56 : decode cX11_law 56 = .ok (.iload_n 1, 1) := by decide +kernel
theorem dX11_law_57 : decode cX11_law 57 = .ok (.invokevirtual 407, 3) := by decide +kernel
theorem dX11_law_60 : decode cX11_law 60 = .ok (.istore 5, 2) := by decide +kernel
theorem dX11_law_62 : decode cX11_law 62 = .ok (.aload_n 0, 1) := by decide +kernel
theorem dX11_law_63 : decode cX11_law 63 = .ok (.getfield 19, 3) := by decide +kernel
theorem dX11_law_66 : decode cX11_law 66 = .ok (.iload 4, 2) := by decide +kernel
theorem dX11_law_68 : decode cX11_law 68 = .ok (.i2l, 1) := by decide +kernel
theorem dX11_law_69 : decode cX11_law 69 = .ok (.iload 5, 2) := by decide +kernel
theorem dX11_law_71 : decode cX11_law 71 = .ok (.i2l, 1) := by decide +kernel
theorem dX11_law_72 : decode cX11_law 72 = .ok (.invokevirtual 321, 3) := by decide +kernel
theorem dX11_law_75 : decode cX11_law 75 = .ok (.iload 4, 2) := by decide +kernel
theorem dX11_law_77 : decode cX11_law 77 = .ok (.iload 5, 2) := by decide +kernel
theorem dX11_law_79 : decode cX11_law 79 = .ok (.isub, 1) := by decide +kernel
theorem dX11_law_80 : decode cX11_law 80 = .ok (.istore_n 2, 1) := by decide +kernel
theorem dX11_law_81 : decode cX11_law 81 = .ok (.aload_n 0, 1) := by decide +kernel
theorem dX11_law_82 : decode cX11_law 82 = .ok (.getfield 10, 3) := by decide +kernel
theorem dX11_law_85 : decode cX11_law 85 = .ok (.invokevirtual 136, 3) := by decide +kernel
theorem dX11_law_88 : decode cX11_law 88 = .ok (.iload_n 2, 1) := by decide +kernel
theorem dX11_law_89 : decode cX11_law 89 = .ok (.ireturn, 1) := by decide +kernel
theorem dX11_rests_0 : decode cX11_rests 0 = .ok (.iload_n 1, 1) := by decide +kernel
theorem dX11_rests_1 : decode cX11_rests 1 = .ok (.iconst 1, 1) := by decide +kernel
theorem dX11_rests_2 : decode cX11_rests 2 = .ok (.if_icmp .lt 19, 3) := by decide +kernel
theorem dX11_rests_5 : decode cX11_rests 5 = .ok (.iload_n 1, 1) := by decide +kernel
theorem dX11_rests_6 : decode cX11_rests 6 = .ok (.bipush 99, 2) := by decide +kernel
theorem dX11_rests_8 : decode cX11_rests 8 = .ok (.if_icmp .gt 13, 3) := by decide +kernel
theorem dX11_rests_11 : decode cX11_rests 11 = .ok (.iload_n 2, 1) := by decide +kernel
theorem dX11_rests_12 : decode cX11_rests 12 = .ok (.ifCond .lt 9, 3) := by decide +kernel
theorem dX11_rests_15 : decode cX11_rests 15 = .ok (.iload_n 2, 1) := by decide +kernel
theorem dX11_rests_16 : decode cX11_rests 16 = .ok (.bipush 20, 2) := by decide +kernel
theorem dX11_rests_18 : decode cX11_rests 18 = .ok (.if_icmp .le 5, 3) := by decide +kernel
theorem dX11_rests_21 : decode cX11_rests 21 = .ok (.iconst (-1), 1) := by decide +kernel
theorem dX11_rests_22 : decode cX11_rests 22 = .ok (.ireturn, 1) := by decide +kernel
theorem dX11_rests_23 : decode cX11_rests 23 = .ok (.iconst 0, 1) := by decide +kernel
theorem dX11_rests_24 : decode cX11_rests 24 = .ok (.istore_n 3, 1) := by decide +kernel
theorem dX11_rests_25 : decode cX11_rests 25 = .ok (.aload_n 0, 1) := by decide +kernel
theorem dX11_rests_26 : decode cX11_rests 26 = .ok (.getfield 19, 3) := by decide +kernel
theorem dX11_rests_29 : decode cX11_rests 29 = .ok (.invokevirtual 462, 3) := by decide +kernel
theorem dX11_rests_32 : decode cX11_rests 32 = .ok (.iconst 0, 1) := by decide +kernel
theorem dX11_rests_33 : decode cX11_rests 33 = .ok (.istore 4, 2) := by decide +kernel
theorem dX11_rests_35 : decode cX11_rests 35 = .ok (.iload 4, 2) := by decide +kernel
theorem dX11_rests_37 : decode cX11_rests 37 = .ok (.bipush 9, 2) := by decide +kernel
theorem dX11_rests_39 : decode cX11_rests 39 = .ok (.if_icmp .gt 57, 3) := by decide +kernel
theorem dX11_rests_42 : decode cX11_rests 42 = .ok (.iconst 0, 1) := by decide +kernel
theorem dX11_rests_43 : decode cX11_rests 43 = .ok (.istore 5, 2) := by decide +kernel
theorem dX11_rests_45 : decode cX11_rests 45 = .ok (.iload 5, 2) := by decide +kernel
theorem dX11_rests_47 : decode cX11_rests 47 = .ok (.bipush 9, 2) := by decide +kernel
theorem dX11_rests_49 : decode cX11_rests 49 = .ok (.if_icmp .gt 41, 3) := by decide +kernel
theorem dX11_rests_52 : decode cX11_rests 52 = .ok (.iload 4, 2) := by decide +kernel
theorem dX11_rests_54 : decode cX11_rests 54 = .ok (.iload 5, 2) := by decide +kernel
theorem dX11_rests_56 : decode cX11_rests 56 = .ok (.iload_n 1, 1) := by decide +kernel
theorem dX11_rests_57 : decode cX11_rests 57 = .ok (.iload_n 2, 1) := by decide +kernel
theorem dX11_rests_58 : decode cX11_rests 58 = .ok (.invokestatic 463, 3) := by decide +kernel
theorem dX11_rests_61 : decode cX11_rests 61 = .ok (.ifCond .eq 23, 3) := by decide +kernel
theorem dX11_rests_64 : decode cX11_rests 64 = .ok (.iload_n 3, 1) := by decide +kernel
theorem dX11_rests_65 : decode cX11_rests 65 = .ok (.ifCond .ne 16, 3) := by decide +kernel
theorem dX11_rests_68 : decode cX11_rests 68 = .ok (.aload_n 0, 1) := by decide +kernel
theorem dX11_rests_69 : decode cX11_rests 69 = .ok (.getfield 19, 3) := by decide +kernel
theorem dX11_rests_72 : decode cX11_rests 72 = .ok (.iload 4, 2) := by decide +kernel
theorem dX11_rests_74 : decode cX11_rests 74 = .ok (.i2l, 1) := by decide +kernel
theorem dX11_rests_75 : decode cX11_rests 75 = .ok (.iload 5, 2) := by decide +kernel
theorem dX11_rests_77 : decode cX11_rests 77 = .ok (.i2l, 1) := by decide +kernel
theorem dX11_rests_78 : decode cX11_rests 78 = .ok (.invokevirtual 321, 3) := by decide +kernel
theorem dX11_rests_81 : decode cX11_rests 81 = .ok (.iinc 3 1, 3) := by decide +kernel
theorem dX11_rests_84 : decode cX11_rests 84 = .ok (.iinc 5 1, 3) := by decide +kernel
theorem dX11_rests_87 : decode cX11_rests 87 = .ok (.goto (-42), 3) := by decide +kernel
theorem dX11_rests_90 : decode cX11_rests 90 = .ok (.iinc 4 1, 3) := by decide +kernel
theorem dX11_rests_93 : decode cX11_rests 93 = .ok (.goto (-58), 3) := by decide +kernel
theorem dX11_rests_96 : decode cX11_rests 96 = .ok (.iload_n 3, 1) := by decide +kernel
theorem dX11_rests_97 : decode cX11_rests 97 = .ok (.ireturn, 1) := by decide +kernel
theorem dX11_isAtRest_0 : decode cX11_isAtRest 0 = .ok (.iload_n 0, 1) := by decide +kernel
theorem dX11_isAtRest_1 : decode cX11_isAtRest 1 = .ok (.iload_n 1, 1) := by decide +kernel
theorem dX11_isAtRest_2 : decode cX11_isAtRest 2 = .ok (.iload_n 2, 1) := by decide +kernel
theorem dX11_isAtRest_3 : decode cX11_isAtRest 3 = .ok (.iload_n 3, 1) := by decide +kernel
theorem dX11_isAtRest_4 : decode cX11_isAtRest 4 = .ok (.invokestatic 467, 3) := by decide +kernel
theorem dX11_isAtRest_7 : decode cX11_isAtRest 7 = .ok (.istore 4, 2) := by decide +kernel
theorem dX11_isAtRest_9 : decode cX11_isAtRest 9 = .ok (.iload_n 0, 1) := by decide +kernel
theorem dX11_isAtRest_10 : decode cX11_isAtRest 10 = .ok (.iload_n 1, 1) := by decide +kernel
theorem dX11_isAtRest_11 : decode cX11_isAtRest 11 = .ok (.iload_n 2, 1) := by decide +kernel
theorem dX11_isAtRest_12 : decode cX11_isAtRest 12 = .ok (.iload_n 3, 1) := by decide +kernel
theorem dX11_isAtRest_13 : decode cX11_isAtRest 13 = .ok (.invokestatic 470, 3) := by decide +kernel
theorem dX11_isAtRest_16 : decode cX11_isAtRest 16 = .ok (.istore 5, 2) := by decide +kernel
theorem dX11_isAtRest_18 : decode cX11_isAtRest 18 = .ok (.iconst 0, 1) := by decide +kernel
theorem dX11_isAtRest_19 : decode cX11_isAtRest 19 = .ok (.istore 6, 2) := by decide +kernel
theorem dX11_isAtRest_21 : decode cX11_isAtRest 21 = .ok (.iload 6, 2) := by decide +kernel
theorem dX11_isAtRest_23 : decode cX11_isAtRest 23 = .ok (.bipush 9, 2) := by decide +kernel
theorem dX11_isAtRest_25 : decode cX11_isAtRest 25 = .ok (.if_icmp .gt 37, 3) := by decide +kernel
theorem dX11_isAtRest_28 : decode cX11_isAtRest 28 = .ok (.iload 6, 2) := by decide +kernel
theorem dX11_isAtRest_30 : decode cX11_isAtRest 30 = .ok (.iload_n 1, 1) := by decide +kernel
theorem dX11_isAtRest_31 : decode cX11_isAtRest 31 = .ok (.iload_n 2, 1) := by decide +kernel
theorem dX11_isAtRest_32 : decode cX11_isAtRest 32 = .ok (.iload_n 3, 1) := by decide +kernel
theorem dX11_isAtRest_33 : decode cX11_isAtRest 33 = .ok (.invokestatic 467, 3) := by decide +kernel
theorem dX11_isAtRest_36 : decode cX11_isAtRest 36 = .ok (.iload 4, 2) := by decide +kernel
theorem dX11_isAtRest_38 : decode cX11_isAtRest 38 = .ok (.if_icmp .gt 16, 3) := by decide +kernel
theorem dX11_isAtRest_41 : decode cX11_isAtRest 41 = .ok (.iload_n 0, 1) := by decide +kernel
theorem dX11_isAtRest_42 : decode cX11_isAtRest 42 = .ok (.iload 6, 2) := by decide +kernel
theorem dX11_isAtRest_44 : decode cX11_isAtRest 44 = .ok (.iload_n 2, 1) := by decide +kernel
theorem dX11_isAtRest_45 : decode cX11_isAtRest 45 = .ok (.iload_n 3, 1) := by decide +kernel
theorem dX11_isAtRest_46 : decode cX11_isAtRest 46 = .ok (.invokestatic 470, 3) := by decide +kernel
theorem dX11_isAtRest_49 : decode cX11_isAtRest 49 = .ok (.iload 5, 2) := by decide +kernel
theorem dX11_isAtRest_51 : decode cX11_isAtRest 51 = .ok (.if_icmp .le 5, 3) := by decide +kernel
theorem dX11_isAtRest_54 : decode cX11_isAtRest 54 = .ok (.iconst 0, 1) := by decide +kernel
theorem dX11_isAtRest_55 : decode cX11_isAtRest 55 = .ok (.ireturn, 1) := by decide +kernel
theorem dX11_isAtRest_56 : decode cX11_isAtRest 56 = .ok (.iinc 6 1, 3) := by decide +kernel
theorem dX11_isAtRest_59 : decode cX11_isAtRest 59 = .ok (.goto (-38), 3) := by decide +kernel
theorem dX11_isAtRest_62 : decode cX11_isAtRest 62 = .ok (.iconst 1, 1) := by decide +kernel
theorem dX11_isAtRest_63 : decode cX11_isAtRest 63 = .ok (.ireturn, 1) := by decide +kernel
theorem dX11_wallHas_0 : decode cX11_wallHas 0 = .ok (.iload_n 1, 1) := by decide +kernel
theorem dX11_wallHas_1 : decode cX11_wallHas 1 = .ok (.iload_n 0, 1) := by decide +kernel
theorem dX11_wallHas_2 : decode cX11_wallHas 2 = .ok (.if_icmp .le 7, 3) := by decide +kernel
theorem dX11_wallHas_5 : decode cX11_wallHas 5 = .ok (.iconst 0, 1) := by decide +kernel
theorem dX11_wallHas_6 : decode cX11_wallHas 6 = .ok (.goto 4, 3) := by decide +kernel
theorem dX11_wallHas_9 : decode cX11_wallHas 9 = .ok (.iload_n 2, 1) := by decide +kernel
theorem dX11_wallHas_10 : decode cX11_wallHas 10 = .ok (.iload_n 3, 1) := by decide +kernel
theorem dX11_wallHas_11 : decode cX11_wallHas 11 = .ok (.iload_n 0, 1) := by decide +kernel
theorem dX11_wallHas_12 : decode cX11_wallHas 12 = .ok (.imul, 1) := by decide +kernel
theorem dX11_wallHas_13 : decode cX11_wallHas 13 = .ok (.isub, 1) := by decide +kernel
theorem dX11_wallHas_14 : decode cX11_wallHas 14 = .ok (.ireturn, 1) := by decide +kernel
theorem dX11_stormersHave_0 : decode cX11_stormersHave 0 = .ok (.iload_n 1, 1) := by decide +kernel
theorem dX11_stormersHave_1 : decode cX11_stormersHave 1 = .ok (.iload_n 0, 1) := by decide +kernel
theorem dX11_stormersHave_2 : decode cX11_stormersHave 2 = .ok (.if_icmp .le 7, 3) := by decide +kernel
theorem dX11_stormersHave_5 : decode cX11_stormersHave 5 = .ok (.iload_n 2, 1) := by decide +kernel
theorem dX11_stormersHave_6 : decode cX11_stormersHave 6 = .ok (.goto 4, 3) := by decide +kernel
theorem dX11_stormersHave_9 : decode cX11_stormersHave 9 = .ok (.iconst 0, 1) := by decide +kernel
theorem dX11_stormersHave_10 : decode cX11_stormersHave 10 = .ok (.iload_n 3, 1) := by decide +kernel
theorem dX11_stormersHave_11 : decode cX11_stormersHave 11 = .ok (.iload_n 1, 1) := by decide +kernel
theorem dX11_stormersHave_12 : decode cX11_stormersHave 12 = .ok (.imul, 1) := by decide +kernel
theorem dX11_stormersHave_13 : decode cX11_stormersHave 13 = .ok (.isub, 1) := by decide +kernel
theorem dX11_stormersHave_14 : decode cX11_stormersHave 14 = .ok (.ireturn, 1) := by decide +kernel
theorem dX11_sieges_0 : decode cX11_sieges 0 = .ok (.aload_n 0, 1) := by decide +kernel
theorem dX11_sieges_1 : decode cX11_sieges 1 = .ok (.getfield 26, 3) := by decide +kernel
theorem dX11_sieges_4 : decode cX11_sieges 4 = .ok (.getfield 102, 3) := by decide +kernel
theorem dX11_sieges_7 : decode cX11_sieges 7 = .ok (.iconst 1, 1) := by decide +kernel
theorem dX11_sieges_8 : decode cX11_sieges 8 = .ok (.if_icmp .ge 6, 3) := by decide +kernel
theorem dX11_sieges_11 : decode cX11_sieges 11 = .ok (.bipush (-2), 2) := by decide +kernel
theorem dX11_sieges_13 : decode cX11_sieges 13 = .ok (.ireturn, 1) := by decide +kernel
theorem dX11_sieges_14 : decode cX11_sieges 14 = .ok (.iload_n 2, 1) := by decide +kernel
theorem dX11_sieges_15 : decode cX11_sieges 15 = .ok (.iconst 1, 1) := by decide +kernel
theorem dX11_sieges_16 : decode cX11_sieges 16 = .ok (.if_icmp .lt 9, 3) := by decide +kernel
theorem dX11_sieges_19 : decode cX11_sieges 19 = .ok (.iload_n 2, 1) := by decide +kernel
theorem dX11_sieges_20 : decode cX11_sieges 20 = .ok (.bipush 99, 2) := by decide +kernel
theorem dX11_sieges_22 : decode cX11_sieges 22 = .ok (.if_icmp .le 5, 3) := by decide +kernel
theorem dX11_sieges_25 : decode cX11_sieges 25 = .ok (.iconst (-1), 1) := by decide +kernel
theorem dX11_sieges_26 : decode cX11_sieges 26 = .ok (.ireturn, 1) := by decide +kernel
theorem dX11_sieges_27 : decode cX11_sieges 27 = .ok (.aload_n 0, 1) := by decide +kernel
theorem dX11_sieges_28 : decode cX11_sieges 28 = .ok (.getfield 30, 3) := by decide +kernel
theorem dX11_sieges_31 : decode cX11_sieges 31 = .ok (.aload_n 0, 1) := by decide +kernel
theorem dX11_sieges_32 : decode cX11_sieges 32 = .ok (.getfield 26, 3) := by decide +kernel
theorem dX11_sieges_35 : decode cX11_sieges 35 = .ok (.invokevirtual 261, 3) := by decide +kernel
theorem dX11_sieges_38 : decode cX11_sieges 38 = .ok (.iconst 0, 1) := by decide +kernel
theorem dX11_sieges_39 : decode cX11_sieges 39 = .ok (.istore_n 3, 1) := by decide +kernel
theorem dX11_sieges_40 : decode cX11_sieges 40 = .ok (.iload_n 1, 1) := by decide +kernel
theorem dX11_sieges_41 : decode cX11_sieges 41 = .ok (.istore 4, 2) := by decide +kernel
theorem dX11_sieges_43 : decode cX11_sieges 43 = .ok (.iconst 1, 1) := by decide +kernel
theorem dX11_sieges_44 : decode cX11_sieges 44 = .ok (.istore 5, 2) := by decide +kernel
theorem dX11_sieges_46 : decode cX11_sieges 46 = .ok (.iload 5, 2) := by decide +kernel
theorem dX11_sieges_48 : decode cX11_sieges 48 = .ok (.iload_n 2, 1) := by decide +kernel
theorem dX11_sieges_49 : decode cX11_sieges 49 = .ok (.if_icmp .gt 73, 3) := by decide +kernel
theorem dX11_sieges_52 : decode cX11_sieges 52 = .ok (.iload 4, 2) := by decide +kernel
theorem dX11_sieges_54 : decode cX11_sieges 54 = .ok (.invokestatic 473, 3) := by decide +kernel
theorem dX11_sieges_57 : decode cX11_sieges 57 = .ok (.istore 4, 2) := by decide +kernel
theorem dX11_sieges_59 : decode cX11_sieges 59 = .ok (.iload 4, 2) := by decide +kernel
theorem dX11_sieges_61 : decode cX11_sieges 61 = .ok (.aload_n 0, 1) := by decide +kernel
theorem dX11_sieges_62 : decode cX11_sieges 62 = .ok (.getfield 26, 3) := by decide +kernel
theorem dX11_sieges_65 : decode cX11_sieges 65 = .ok (.getfield 102, 3) := by decide +kernel
theorem dX11_sieges_68 : decode cX11_sieges 68 = .ok (.invokestatic 476, 3) := by decide +kernel
theorem dX11_sieges_71 : decode cX11_sieges 71 = .ok (.istore 6, 2) := by decide +kernel
theorem dX11_sieges_73 : decode cX11_sieges 73 = .ok (.iload 4, 2) := by decide +kernel
theorem dX11_sieges_75 : decode cX11_sieges 75 = .ok (.invokestatic 473, 3) := by decide +kernel
theorem dX11_sieges_78 : decode cX11_sieges 78 = .ok (.istore 4, 2) := by decide +kernel
theorem dX11_sieges_80 : decode cX11_sieges 80 = .ok (.aload_n 0, 1) := by decide +kernel
theorem dX11_sieges_81 : decode cX11_sieges 81 = .ok (.iload 6, 2) := by decide +kernel
theorem dX11_sieges_83 : decode cX11_sieges 83 = .ok (.iload 4, 2) := by decide +kernel
theorem dX11_sieges_85 : decode cX11_sieges 85 = .ok (.iconst 4, 1) := by decide +kernel
theorem dX11_sieges_86 : decode cX11_sieges 86 = .ok (.invokestatic 476, 3) := by decide +kernel
theorem dX11_sieges_89 : decode cX11_sieges 89 = .ok (.invokevirtual 264, 3) := by decide +kernel
theorem dX11_sieges_92 : decode cX11_sieges 92 = .ok (.ifCond .lt 6, 3) := by decide +kernel
theorem dX11_sieges_95 : decode cX11_sieges 95 = .ok (.iinc 3 1, 3) := by decide +kernel
theorem dX11_sieges_98 : decode cX11_sieges 98 = .ok (.iload 5, 2) := by decide +kernel
theorem dX11_sieges_100 : decode cX11_sieges 100 = .ok (.iconst 3, 1) := by decide +kernel
theorem dX11_sieges_101 : decode cX11_sieges 101 = .ok (.irem, 1) := by decide +kernel
theorem dX11_sieges_102 : decode cX11_sieges 102 = .ok (.ifCond .ne 14, 3) := by decide +kernel
theorem dX11_sieges_105 : decode cX11_sieges 105 = .ok (.aload_n 0, 1) := by decide +kernel
theorem dX11_sieges_106 : decode cX11_sieges 106 = .ok (.getfield 26, 3) := by decide +kernel
theorem dX11_sieges_109 : decode cX11_sieges 109 = .ok (.aload_n 0, 1) := by decide +kernel
theorem dX11_sieges_110 : decode cX11_sieges 110 = .ok (.getfield 48, 3) := by decide +kernel
theorem dX11_sieges_113 : decode cX11_sieges 113 = .ok (.invokevirtual 305, 3) := by decide +kernel
theorem dX11_sieges_116 : decode cX11_sieges 116 = .ok (.iinc 5 1, 3) := by decide +kernel
theorem dX11_sieges_119 : decode cX11_sieges 119 = .ok (.goto (-73), 3) := by decide +kernel
theorem dX11_sieges_122 : decode cX11_sieges 122 = .ok (.aload_n 0, 1) := by decide +kernel
theorem dX11_sieges_123 : decode cX11_sieges 123 = .ok (.getfield 19, 3) := by decide +kernel
theorem dX11_sieges_126 : decode cX11_sieges 126 = .ok (.aload_n 0, 1) := by decide +kernel
theorem dX11_sieges_127 : decode cX11_sieges 127 = .ok (.invokevirtual 314, 3) := by decide +kernel
theorem dX11_sieges_130 : decode cX11_sieges 130 = .ok (.invokestatic 317, 3) := by decide +kernel
theorem dX11_sieges_133 : decode cX11_sieges 133 = .ok (.i2l, 1) := by decide +kernel
theorem dX11_sieges_134 : decode cX11_sieges 134 = .ok (.aload_n 0, 1) := by decide +kernel
theorem dX11_sieges_135 : decode cX11_sieges 135 = .ok (.getfield 26, 3) := by decide +kernel
theorem dX11_sieges_138 : decode cX11_sieges 138 = .ok (.getfield 276, 3) := by decide +kernel
theorem dX11_sieges_141 : decode cX11_sieges 141 = .ok (.aload_n 0, 1) := by decide +kernel
theorem dX11_sieges_142 : decode cX11_sieges 142 = .ok (.getfield 30, 3) := by decide +kernel
theorem dX11_sieges_145 : decode cX11_sieges 145 = .ok (.getfield 276, 3) := by decide +kernel
theorem dX11_sieges_148 : decode cX11_sieges 148 = .ok (.isub, 1) := by decide +kernel
theorem dX11_sieges_149 : decode cX11_sieges 149 = .ok (.i2l, 1) := by decide +kernel
theorem dX11_sieges_150 : decode cX11_sieges 150 = .ok (.invokevirtual 321, 3) := by decide +kernel
theorem dX11_sieges_153 : decode cX11_sieges 153 = .ok (.aload_n 0, 1) := by decide +kernel
theorem dX11_sieges_154 : decode cX11_sieges 154 = .ok (.getfield 26, 3) := by decide +kernel
theorem dX11_sieges_157 : decode cX11_sieges 157 = .ok (.aload_n 0, 1) := by decide +kernel
theorem dX11_sieges_158 : decode cX11_sieges 158 = .ok (.getfield 30, 3) := by decide +kernel
theorem dX11_sieges_161 : decode cX11_sieges 161 = .ok (.invokevirtual 261, 3) := by decide +kernel
theorem dX11_sieges_164 : decode cX11_sieges 164 = .ok (.iload_n 3, 1) := by decide +kernel
theorem dX11_sieges_165 : decode cX11_sieges 165 = .ok (.ireturn, 1) := by decide +kernel
theorem dX11_drawnBehind_0 : decode cX11_drawnBehind 0 = .ok (.iload_n 0, 1) := by decide +kernel
theorem dX11_drawnBehind_1 : decode cX11_drawnBehind 1 = .ok (.ldc_w 479, 3) := by decide +kernel
theorem dX11_drawnBehind_4 : decode cX11_drawnBehind 4 = .ok (.imul, 1) := by decide +kernel
theorem dX11_drawnBehind_5 : decode cX11_drawnBehind 5 = .ok (.sipush 12345, 3) := by decide +kernel
theorem dX11_drawnBehind_8 : decode cX11_drawnBehind 8 = .ok (.iadd, 1) := by decide +kernel
theorem dX11_drawnBehind_9 : decode cX11_drawnBehind 9 = .ok (.ireturn, 1) := by decide +kernel
theorem dX11_drawOf_0 : decode cX11_drawOf 0 = .ok (.iload_n 1, 1) := by decide +kernel
theorem dX11_drawOf_1 : decode cX11_drawOf 1 = .ok (.ifCond .le 12, 3) := by decide +kernel
theorem dX11_drawOf_4 : decode cX11_drawOf 4 = .ok (.iload_n 0, 1) := by decide +kernel
theorem dX11_drawOf_5 : decode cX11_drawOf 5 = .ok (.bipush 16, 2) := by decide +kernel
theorem dX11_drawOf_7 : decode cX11_drawOf 7 = .ok (.iushr, 1) := by decide +kernel
theorem dX11_drawOf_8 : decode cX11_drawOf 8 = .ok (.iload_n 1, 1) := by decide +kernel
theorem dX11_drawOf_9 : decode cX11_drawOf 9 = .ok (.irem, 1) := by decide +kernel
theorem dX11_drawOf_10 : decode cX11_drawOf 10 = .ok (.goto 4, 3) := by decide +kernel
theorem dX11_drawOf_13 : decode cX11_drawOf 13 = .ok (.iconst 0, 1) := by decide +kernel
theorem dX11_drawOf_14 : decode cX11_drawOf 14 = .ok (.ireturn, 1) := by decide +kernel
theorem dX11_keep_0 : decode cX11_keep 0 = .ok (.iload_n 1, 1) := by decide +kernel
theorem dX11_keep_1 : decode cX11_keep 1 = .ok (.ifCond .lt 12, 3) := by decide +kernel
theorem dX11_keep_4 : decode cX11_keep 4 = .ok (.iload_n 1, 1) := by decide +kernel
theorem dX11_keep_5 : decode cX11_keep 5 = .ok (.aload_n 0, 1) := by decide +kernel
theorem dX11_keep_6 : decode cX11_keep 6 = .ok (.getfield 98, 3) := by decide +kernel
theorem dX11_keep_9 : decode cX11_keep 9 = .ok (.arraylength, 1) := by decide +kernel
theorem dX11_keep_10 : decode cX11_keep 10 = .ok (.if_icmp .lt 5, 3) := by decide +kernel
theorem dX11_keep_13 : decode cX11_keep 13 = .ok (.iconst 0, 1) := by decide +kernel
theorem dX11_keep_14 : decode cX11_keep 14 = .ok (.ireturn, 1) := by decide +kernel
theorem dX11_keep_15 : decode cX11_keep 15 = .ok (.aload_n 0, 1) := by decide +kernel
theorem dX11_keep_16 : decode cX11_keep 16 = .ok (.getfield 98, 3) := by decide +kernel
theorem dX11_keep_19 : decode cX11_keep 19 = .ok (.iload_n 1, 1) := by decide +kernel
theorem dX11_keep_20 : decode cX11_keep 20 = .ok (.aaload, 1) := by decide +kernel
theorem dX11_keep_21 : decode cX11_keep 21 = .ok (.aload_n 0, 1) := by decide +kernel
theorem dX11_keep_22 : decode cX11_keep 22 = .ok (.getfield 26, 3) := by decide +kernel
theorem dX11_keep_25 : decode cX11_keep 25 = .ok (.invokevirtual 261, 3) := by decide +kernel
theorem dX11_keep_28 : decode cX11_keep 28 = .ok (.iconst 1, 1) := by decide +kernel
theorem dX11_keep_29 : decode cX11_keep 29 = .ok (.ireturn, 1) := by decide +kernel
theorem dX11_again_0 : decode cX11_again 0 = .ok (.iload_n 1, 1) := by decide +kernel
theorem dX11_again_1 : decode cX11_again 1 = .ok (.ifCond .lt 31, 3) := by decide +kernel
theorem dX11_again_4 : decode cX11_again 4 = .ok (.iload_n 1, 1) := by decide +kernel
theorem dX11_again_5 : decode cX11_again 5 = .ok (.aload_n 0, 1) := by decide +kernel
theorem dX11_again_6 : decode cX11_again 6 = .ok (.getfield 98, 3) := by decide +kernel
theorem dX11_again_9 : decode cX11_again 9 = .ok (.arraylength, 1) := by decide +kernel
theorem dX11_again_10 : decode cX11_again 10 = .ok (.if_icmp .ge 22, 3) := by decide +kernel
theorem dX11_again_13 : decode cX11_again 13 = .ok (.aload_n 0, 1) := by decide +kernel
theorem dX11_again_14 : decode cX11_again 14 = .ok (.getfield 98, 3) := by decide +kernel
theorem dX11_again_17 : decode cX11_again 17 = .ok (.iload_n 1, 1) := by decide +kernel
theorem dX11_again_18 : decode cX11_again 18 = .ok (.aaload, 1) := by decide +kernel
theorem dX11_again_19 : decode cX11_again 19 = .ok (.getfield 102, 3) := by decide +kernel
theorem dX11_again_22 : decode cX11_again 22 = .ok (.aload_n 0, 1) := by decide +kernel
theorem dX11_again_23 : decode cX11_again 23 = .ok (.getfield 26, 3) := by decide +kernel
theorem dX11_again_26 : decode cX11_again 26 = .ok (.getfield 102, 3) := by decide +kernel
theorem dX11_again_29 : decode cX11_again 29 = .ok (.if_icmp .eq 5, 3) := by decide +kernel
theorem dX11_again_32 : decode cX11_again 32 = .ok (.iconst 0, 1) := by decide +kernel
theorem dX11_again_33 : decode cX11_again 33 = .ok (.ireturn, 1) := by decide +kernel
theorem dX11_again_34 : decode cX11_again 34 = .ok (.aload_n 0, 1) := by decide +kernel
theorem dX11_again_35 : decode cX11_again 35 = .ok (.getfield 26, 3) := by decide +kernel
theorem dX11_again_38 : decode cX11_again 38 = .ok (.aload_n 0, 1) := by decide +kernel
theorem dX11_again_39 : decode cX11_again 39 = .ok (.getfield 98, 3) := by decide +kernel
theorem dX11_again_42 : decode cX11_again 42 = .ok (.iload_n 1, 1) := by decide +kernel
theorem dX11_again_43 : decode cX11_again 43 = .ok (.aaload, 1) := by decide +kernel
theorem dX11_again_44 : decode cX11_again 44 = .ok (.invokevirtual 261, 3) := by decide +kernel
theorem dX11_again_47 : decode cX11_again 47 = .ok (.aload_n 0, 1) := by decide +kernel
theorem dX11_again_48 : decode cX11_again 48 = .ok (.getfield 36, 3) := by decide +kernel
theorem dX11_again_51 : decode cX11_again 51 = .ok (.invokevirtual 142, 3) := by decide +kernel
theorem dX11_again_54 : decode cX11_again 54 = .ok (.iconst 1, 1) := by decide +kernel
theorem dX11_again_55 : decode cX11_again 55 = .ok (.ireturn, 1) := by decide +kernel
theorem dX11_count_0 : decode cX11_count 0 = .ok (.iload_n 1, 1) := by decide +kernel
theorem dX11_count_1 : decode cX11_count 1 = .ok (.tableswitch 201 0 15 #[79, 87, 95, 103, 108, 116, 124, 132, 137, 145, 153, 164, 169, 177, 185, 193], 79) := by decide +kernel
theorem dX11_count_80 : decode cX11_count 80 = .ok (.aload_n 0, 1) := by decide +kernel
theorem dX11_count_81 : decode cX11_count 81 = .ok (.getfield 85, 3) := by decide +kernel
theorem dX11_count_84 : decode cX11_count 84 = .ok (.getfield 480, 3) := by decide +kernel
theorem dX11_count_87 : decode cX11_count 87 = .ok (.ireturn, 1) := by decide +kernel
theorem dX11_count_88 : decode cX11_count 88 = .ok (.aload_n 0, 1) := by decide +kernel
theorem dX11_count_89 : decode cX11_count 89 = .ok (.getfield 85, 3) := by decide +kernel
theorem dX11_count_92 : decode cX11_count 92 = .ok (.getfield 483, 3) := by decide +kernel
theorem dX11_count_95 : decode cX11_count 95 = .ok (.ireturn, 1) := by decide +kernel
theorem dX11_count_96 : decode cX11_count 96 = .ok (.aload_n 0, 1) := by decide +kernel
theorem dX11_count_97 : decode cX11_count 97 = .ok (.getfield 26, 3) := by decide +kernel
theorem dX11_count_100 : decode cX11_count 100 = .ok (.getfield 102, 3) := by decide +kernel
theorem dX11_count_103 : decode cX11_count 103 = .ok (.ireturn, 1) := by decide +kernel
theorem dX11_count_104 : decode cX11_count 104 = .ok (.aload_n 0, 1) := by decide +kernel
theorem dX11_count_105 : decode cX11_count 105 = .ok (.getfield 44, 3) := by decide +kernel
theorem dX11_count_108 : decode cX11_count 108 = .ok (.ireturn, 1) := by decide +kernel
theorem dX11_count_109 : decode cX11_count 109 = .ok (.aload_n 0, 1) := by decide +kernel
theorem dX11_count_110 : decode cX11_count 110 = .ok (.getfield 26, 3) := by decide +kernel
theorem dX11_count_113 : decode cX11_count 113 = .ok (.getfield 246, 3) := by decide +kernel
theorem dX11_count_116 : decode cX11_count 116 = .ok (.ireturn, 1) := by decide +kernel
theorem dX11_count_117 : decode cX11_count 117 = .ok (.aload_n 0, 1) := by decide +kernel
theorem dX11_count_118 : decode cX11_count 118 = .ok (.getfield 26, 3) := by decide +kernel
theorem dX11_count_121 : decode cX11_count 121 = .ok (.getfield 234, 3) := by decide +kernel
theorem dX11_count_124 : decode cX11_count 124 = .ok (.ireturn, 1) := by decide +kernel
theorem dX11_count_125 : decode cX11_count 125 = .ok (.aload_n 0, 1) := by decide +kernel
theorem dX11_count_126 : decode cX11_count 126 = .ok (.getfield 26, 3) := by decide +kernel
theorem dX11_count_129 : decode cX11_count 129 = .ok (.getfield 227, 3) := by decide +kernel
theorem dX11_count_132 : decode cX11_count 132 = .ok (.ireturn, 1) := by decide +kernel
theorem dX11_count_133 : decode cX11_count 133 = .ok (.aload_n 0, 1) := by decide +kernel
theorem dX11_count_134 : decode cX11_count 134 = .ok (.getfield 48, 3) := by decide +kernel
theorem dX11_count_137 : decode cX11_count 137 = .ok (.ireturn, 1) := by decide +kernel
theorem dX11_count_138 : decode cX11_count 138 = .ok (.aload_n 0, 1) := by decide +kernel
theorem dX11_count_139 : decode cX11_count 139 = .ok (.getfield 26, 3) := by decide +kernel
theorem dX11_count_142 : decode cX11_count 142 = .ok (.getfield 289, 3) := by decide +kernel
theorem dX11_count_145 : decode cX11_count 145 = .ok (.ireturn, 1) := by decide +kernel
theorem dX11_count_146 : decode cX11_count 146 = .ok (.aload_n 0, 1) := by decide +kernel
theorem dX11_count_147 : decode cX11_count 147 = .ok (.getfield 26, 3) := by decide +kernel
theorem dX11_count_150 : decode cX11_count 150 = .ok (.getfield 276, 3) := by decide +kernel
theorem dX11_count_153 : decode cX11_count 153 = .ok (.ireturn, 1) := by decide +kernel
theorem dX11_count_154 : decode cX11_count 154 = .ok (.aload_n 0, 1) := by decide +kernel
theorem dX11_count_155 : decode cX11_count 155 = .ok (.getfield 26, 3) := by decide +kernel
theorem dX11_count_158 : decode cX11_count 158 = .ok (.getfield 295, 3) := by decide +kernel
theorem dX11_count_161 : decode cX11_count 161 = .ok (.invokestatic 299, 3) := by decide +kernel
theorem dX11_count_164 : decode cX11_count 164 = .ok (.ireturn, 1) := by decide +kernel
theorem dX11_count_165 : decode cX11_count 165 = .ok (.aload_n 0, 1) := by decide +kernel
theorem dX11_count_166 : decode cX11_count 166 = .ok (.invokevirtual 314, 3) := by decide +kernel
theorem dX11_count_169 : decode cX11_count 169 = .ok (.ireturn, 1) := by decide +kernel
theorem dX11_count_170 : decode cX11_count 170 = .ok (.aload_n 0, 1) := by decide +kernel
theorem dX11_count_171 : decode cX11_count 171 = .ok (.getfield 64, 3) := by decide +kernel
theorem dX11_count_174 : decode cX11_count 174 = .ok (.getfield 449, 3) := by decide +kernel
theorem dX11_count_177 : decode cX11_count 177 = .ok (.ireturn, 1) := by decide +kernel
theorem dX11_count_178 : decode cX11_count 178 = .ok (.aload_n 0, 1) := by decide +kernel
theorem dX11_count_179 : decode cX11_count 179 = .ok (.getfield 36, 3) := by decide +kernel
theorem dX11_count_182 : decode cX11_count 182 = .ok (.getfield 332, 3) := by decide +kernel
theorem dX11_count_185 : decode cX11_count 185 = .ok (.ireturn, 1) := by decide +kernel
theorem dX11_count_186 : decode cX11_count 186 = .ok (.aload_n 0, 1) := by decide +kernel
theorem dX11_count_187 : decode cX11_count 187 = .ok (.getfield 19, 3) := by decide +kernel
theorem dX11_count_190 : decode cX11_count 190 = .ok (.getfield 486, 3) := by decide +kernel
theorem dX11_count_193 : decode cX11_count 193 = .ok (.ireturn, 1) := by decide +kernel
theorem dX11_count_194 : decode cX11_count 194 = .ok (.aload_n 0, 1) := by decide +kernel
theorem dX11_count_195 : decode cX11_count 195 = .ok (.getfield 10, 3) := by decide +kernel
theorem dX11_count_198 : decode cX11_count 198 = .ok (.getfield 109, 3) := by decide +kernel
theorem dX11_count_201 : decode cX11_count 201 = .ok (.ireturn, 1) := by decide +kernel
theorem dX11_count_202 : decode cX11_count 202 = .ok (.bipush (-100), 2) := by decide +kernel
theorem dX11_count_204 : decode cX11_count 204 = .ok (.ireturn, 1) := by decide +kernel
theorem dX11_row_0 : decode cX11_row 0 = .ok (.aload_n 0, 1) := by decide +kernel
theorem dX11_row_1 : decode cX11_row 1 = .ok (.getfield 19, 3) := by decide +kernel
theorem dX11_row_4 : decode cX11_row 4 = .ok (.iload_n 1, 1) := by decide +kernel
theorem dX11_row_5 : decode cX11_row 5 = .ok (.invokevirtual 487, 3) := by decide +kernel
theorem dX11_row_8 : decode cX11_row 8 = .ok (.ifCond .ne 14, 3) := by decide +kernel
theorem dX11_row_22 : decode cX11_row 22 = .ok (.aload_n 0, 1) := by decide +kernel
theorem dX11_row_23 : decode cX11_row 23 = .ok (.getfield 19, 3) := by decide +kernel
theorem dX11_row_26 : decode cX11_row 26 = .ok (.iload_n 1, 1) := by decide +kernel
theorem dX11_row_27 : decode cX11_row 27 = .ok (.invokevirtual 490, 3) := by decide +kernel
theorem dX11_row_30 : decode cX11_row 30 = .ok (.lreturn, 1) := by decide +kernel
theorem dX12_thrown_0 : decode cX12_thrown 0 = .ok (.aload_n 0, 1) := by decide +kernel
theorem dX12_thrown_1 : decode cX12_thrown 1 = .ok (.getfield 3, 3) := by decide +kernel
theorem dX12_thrown_4 : decode cX12_thrown 4 = .ok (.ireturn, 1) := by decide +kernel
theorem dX12_refuse_0 : decode cX12_refuse 0 = .ok (.aload_n 0, 1) := by decide +kernel
theorem dX12_refuse_1 : decode cX12_refuse 1 = .ok (.iconst 1, 1) := by decide +kernel
theorem dX12_refuse_2 : decode cX12_refuse 2 = .ok (.putfield 3, 3) := by decide +kernel
theorem dX12_refuse_5 : decode cX12_refuse 5 = .ok (.iconst 0, 1) := by decide +kernel
theorem dX12_refuse_6 : decode cX12_refuse 6 = .ok (.ireturn, 1) := by decide +kernel
theorem dX12_in_0 : decode cX12_in 0 = .ok (.lload_n 0, 1) := by decide +kernel
theorem dX12_in_1 : decode cX12_in 1 = .ok (.lload_n 2, 1) := by decide +kernel
theorem dX12_in_2 : decode cX12_in 2 = .ok (.lcmp, 1) := by decide +kernel
theorem dX12_in_3 : decode cX12_in 3 = .ok (.ifCond .lt 14, 3) := by decide +kernel
theorem dX12_in_6 : decode cX12_in 6 = .ok (.lload_n 0, 1) := by decide +kernel
theorem dX12_in_7 : decode cX12_in 7 = .ok (.lload 4, 2) := by decide +kernel
theorem dX12_in_9 : decode cX12_in 9 = .ok (.lcmp, 1) := by decide +kernel
theorem dX12_in_10 : decode cX12_in 10 = .ok (.ifCond .gt 7, 3) := by decide +kernel
theorem dX12_in_13 : decode cX12_in 13 = .ok (.iconst 1, 1) := by decide +kernel
theorem dX12_in_14 : decode cX12_in 14 = .ok (.goto 4, 3) := by decide +kernel
theorem dX12_in_17 : decode cX12_in 17 = .ok (.iconst 0, 1) := by decide +kernel
theorem dX12_in_18 : decode cX12_in 18 = .ok (.ireturn, 1) := by decide +kernel
theorem dX12_has_0 : decode cX12_has 0 = .ok (.iload_n 0, 1) := by decide +kernel
theorem dX12_has_1 : decode cX12_has 1 = .ok (.iload_n 1, 1) := by decide +kernel
theorem dX12_has_2 : decode cX12_has 2 = .ok (.ishr, 1) := by decide +kernel
theorem dX12_has_3 : decode cX12_has 3 = .ok (.iconst 1, 1) := by decide +kernel
theorem dX12_has_4 : decode cX12_has 4 = .ok (.iand, 1) := by decide +kernel
theorem dX12_has_5 : decode cX12_has 5 = .ok (.iconst 1, 1) := by decide +kernel
theorem dX12_has_6 : decode cX12_has 6 = .ok (.if_icmp .ne 7, 3) := by decide +kernel
theorem dX12_has_9 : decode cX12_has 9 = .ok (.iconst 1, 1) := by decide +kernel
theorem dX12_has_10 : decode cX12_has 10 = .ok (.goto 4, 3) := by decide +kernel
theorem dX12_has_13 : decode cX12_has 13 = .ok (.iconst 0, 1) := by decide +kernel
theorem dX12_has_14 : decode cX12_has 14 = .ok (.ireturn, 1) := by decide +kernel
theorem dX12_flag_0 : decode cX12_flag 0 = .ok (.iload_n 0, 1) := by decide +kernel
theorem dX12_flag_1 : decode cX12_flag 1 = .ok (.ifCond .eq 7, 3) := by decide +kernel
theorem dX12_flag_4 : decode cX12_flag 4 = .ok (.iconst 1, 1) := by decide +kernel
theorem dX12_flag_5 : decode cX12_flag 5 = .ok (.goto 4, 3) := by decide +kernel
theorem dX12_flag_8 : decode cX12_flag 8 = .ok (.iconst 0, 1) := by decide +kernel
theorem dX12_flag_9 : decode cX12_flag 9 = .ok (.ireturn, 1) := by decide +kernel
theorem dX12_common_0 : decode cX12_common 0 = .ok (.lload_n 2, 1) := by decide +kernel
theorem dX12_common_1 : decode cX12_common 1 = .ok (.lconst 0, 1) := by decide +kernel
theorem dX12_common_2 : decode cX12_common 2 = .ok (.lcmp, 1) := by decide +kernel
theorem dX12_common_3 : decode cX12_common 3 = .ok (.ifCond .ne 7, 3) := by decide +kernel
theorem dX12_common_6 : decode cX12_common 6 = .ok (.lload_n 0, 1) := by decide +kernel
theorem dX12_common_7 : decode cX12_common 7 = .ok (.goto 10, 3) := by decide +kernel
theorem dX12_common_10 : decode cX12_common 10 = .ok (.lload_n 2, 1) := by decide +kernel
theorem dX12_common_11 : decode cX12_common 11 = .ok (.lload_n 0, 1) := by decide +kernel
theorem dX12_common_12 : decode cX12_common 12 = .ok (.lload_n 2, 1) := by decide +kernel
theorem dX12_common_13 : decode cX12_common 13 = .ok (.lrem, 1) := by decide +kernel
theorem dX12_common_14 : decode cX12_common 14 = .ok (.invokestatic 7, 3) := by decide +kernel
theorem dX12_common_17 : decode cX12_common 17 = .ok (.lreturn, 1) := by decide +kernel
theorem dX12_enters_0 : decode cX12_enters 0 = .ok (.aload_n 0, 1) := by decide +kernel
theorem dX12_enters_1 : decode cX12_enters 1 = .ok (.getfield 11, 3) := by decide +kernel
theorem dX12_enters_4 : decode cX12_enters 4 = .ok (.aload_n 0, 1) := by decide +kernel
theorem dX12_enters_5 : decode cX12_enters 5 = .ok (.getfield 15, 3) := by decide +kernel
theorem dX12_enters_8 : decode cX12_enters 8 = .ok (.lload_n 1, 1) := by decide +kernel
theorem dX12_enters_9 : decode cX12_enters 9 = .ok (.lastore, 1) := by decide +kernel
theorem dX12_enters_10 : decode cX12_enters 10 = .ok (.aload_n 0, 1) := by decide +kernel
theorem dX12_enters_11 : decode cX12_enters 11 = .ok (.dup, 1) := by decide +kernel
theorem dX12_enters_12 : decode cX12_enters 12 = .ok (.getfield 15, 3) := by decide +kernel
theorem dX12_enters_15 : decode cX12_enters 15 = .ok (.iconst 1, 1) := by decide +kernel
theorem dX12_enters_16 : decode cX12_enters 16 = .ok (.iadd, 1) := by decide +kernel
theorem dX12_enters_17 : decode cX12_enters 17 = .ok (.putfield 15, 3) := by decide +kernel
theorem dX12_enters_20 : decode cX12_enters 20 = .ok (.return_, 1) := by decide +kernel
theorem dX12_fields_0 : decode cX12_fields 0 = .ok (.aload_n 0, 1) := by decide +kernel
theorem dX12_fields_1 : decode cX12_fields 1 = .ok (.getfield 24, 3) := by decide +kernel
theorem dX12_fields_4 : decode cX12_fields 4 = .ok (.aload_n 0, 1) := by decide +kernel
theorem dX12_fields_5 : decode cX12_fields 5 = .ok (.getfield 27, 3) := by decide +kernel
theorem dX12_fields_8 : decode cX12_fields 8 = .ok (.imul, 1) := by decide +kernel
theorem dX12_fields_9 : decode cX12_fields 9 = .ok (.ireturn, 1) := by decide +kernel
theorem dX12_isField_0 : decode cX12_isField 0 = .ok (.iload_n 1, 1) := by decide +kernel
theorem dX12_isField_1 : decode cX12_isField 1 = .ok (.i2l, 1) := by decide +kernel
theorem dX12_isField_2 : decode cX12_isField 2 = .ok (.lconst 0, 1) := by decide +kernel
theorem dX12_isField_3 : decode cX12_isField 3 = .ok (.aload_n 0, 1) := by decide +kernel
theorem dX12_isField_4 : decode cX12_isField 4 = .ok (.invokevirtual 122, 3) := by decide +kernel
theorem dX12_isField_7 : decode cX12_isField 7 = .ok (.iconst 1, 1) := by decide +kernel
theorem dX12_isField_8 : decode cX12_isField 8 = .ok (.isub, 1) := by decide +kernel
theorem dX12_isField_9 : decode cX12_isField 9 = .ok (.i2l, 1) := by decide +kernel
theorem dX12_isField_10 : decode cX12_isField 10 = .ok (.invokestatic 126, 3) := by decide +kernel
theorem dX12_isField_13 : decode cX12_isField 13 = .ok (.ireturn, 1) := by decide +kernel
theorem dX12_isShip_0 : decode cX12_isShip 0 = .ok (.iload_n 1, 1) := by decide +kernel
theorem dX12_isShip_1 : decode cX12_isShip 1 = .ok (.i2l, 1) := by decide +kernel
theorem dX12_isShip_2 : decode cX12_isShip 2 = .ok (.lconst 0, 1) := by decide +kernel
theorem dX12_isShip_3 : decode cX12_isShip 3 = .ok (.aload_n 0, 1) := by decide +kernel
theorem dX12_isShip_4 : decode cX12_isShip 4 = .ok (.getfield 130, 3) := by decide +kernel
theorem dX12_isShip_7 : decode cX12_isShip 7 = .ok (.iconst 1, 1) := by decide +kernel
theorem dX12_isShip_8 : decode cX12_isShip 8 = .ok (.isub, 1) := by decide +kernel
theorem dX12_isShip_9 : decode cX12_isShip 9 = .ok (.i2l, 1) := by decide +kernel
theorem dX12_isShip_10 : decode cX12_isShip 10 = .ok (.invokestatic 126, 3) := by decide +kernel
theorem dX12_isShip_13 : decode cX12_isShip 13 = .ok (.ireturn, 1) := by decide +kernel
theorem dX12_beside_0 : decode cX12_beside 0 = .ok (.iload_n 1, 1) := by decide +kernel
theorem dX12_beside_1 : decode cX12_beside 1 = .ok (.aload_n 0, 1) := by decide +kernel
theorem dX12_beside_2 : decode cX12_beside 2 = .ok (.getfield 27, 3) := by decide +kernel
theorem dX12_beside_5 : decode cX12_beside 5 = .ok (.idiv, 1) := by decide +kernel
theorem dX12_beside_6 : decode cX12_beside 6 = .ok (.iload_n 2, 1) := by decide +kernel
theorem dX12_beside_7 : decode cX12_beside 7 = .ok (.iconst 2, 1) := by decide +kernel
theorem dX12_beside_8 : decode cX12_beside 8 = .ok (.if_icmp .ne 7, 3) := by decide +kernel
theorem dX12_beside_11 : decode cX12_beside 11 = .ok (.iconst 1, 1) := by decide +kernel
theorem dX12_beside_12 : decode cX12_beside 12 = .ok (.goto 12, 3) := by decide +kernel
theorem dX12_beside_15 : decode cX12_beside 15 = .ok (.iload_n 2, 1) := by decide +kernel
theorem dX12_beside_16 : decode cX12_beside 16 = .ok (.ifCond .ne 7, 3) := by decide +kernel
theorem dX12_beside_19 : decode cX12_beside 19 = .ok (.iconst (-1), 1) := by decide +kernel
theorem dX12_beside_20 : decode cX12_beside 20 = .ok (.goto 4, 3) := by decide +kernel
theorem dX12_beside_23 : decode cX12_beside 23 = .ok (.iconst 0, 1) := by decide +kernel
theorem dX12_beside_24 : decode cX12_beside 24 = .ok (.iadd, 1) := by decide +kernel
theorem dX12_beside_25 : decode cX12_beside 25 = .ok (.istore_n 3, 1) := by decide +kernel
theorem dX12_beside_26 : decode cX12_beside 26 = .ok (.iload_n 1, 1) := by decide +kernel
theorem dX12_beside_27 : decode cX12_beside 27 = .ok (.aload_n 0, 1) := by decide +kernel
theorem dX12_beside_28 : decode cX12_beside 28 = .ok (.getfield 27, 3) := by decide +kernel
theorem dX12_beside_31 : decode cX12_beside 31 = .ok (.irem, 1) := by decide +kernel
theorem dX12_beside_32 : decode cX12_beside 32 = .ok (.iload_n 2, 1) := by decide +kernel
theorem dX12_beside_33 : decode cX12_beside 33 = .ok (.iconst 1, 1) := by decide +kernel
theorem dX12_beside_34 : decode cX12_beside 34 = .ok (.if_icmp .ne 7, 3) := by decide +kernel
theorem dX12_beside_37 : decode cX12_beside 37 = .ok (.iconst 1, 1) := by decide +kernel
theorem dX12_beside_38 : decode cX12_beside 38 = .ok (.goto 13, 3) := by decide +kernel
theorem dX12_beside_41 : decode cX12_beside 41 = .ok (.iload_n 2, 1) := by decide +kernel
theorem dX12_beside_42 : decode cX12_beside 42 = .ok (.iconst 3, 1) := by decide +kernel
theorem dX12_beside_43 : decode cX12_beside 43 = .ok (.if_icmp .ne 7, 3) := by decide +kernel
theorem dX12_beside_46 : decode cX12_beside 46 = .ok (.iconst (-1), 1) := by decide +kernel
theorem dX12_beside_47 : decode cX12_beside 47 = .ok (.goto 4, 3) := by decide +kernel
theorem dX12_beside_50 : decode cX12_beside 50 = .ok (.iconst 0, 1) := by decide +kernel
theorem dX12_beside_51 : decode cX12_beside 51 = .ok (.iadd, 1) := by decide +kernel
theorem dX12_beside_52 : decode cX12_beside 52 = .ok (.istore 4, 2) := by decide +kernel
theorem dX12_beside_54 : decode cX12_beside 54 = .ok (.iload_n 3, 1) := by decide +kernel
theorem dX12_beside_55 : decode cX12_beside 55 = .ok (.i2l, 1) := by decide +kernel
theorem dX12_beside_56 : decode cX12_beside 56 = .ok (.lconst 0, 1) := by decide +kernel
theorem dX12_beside_57 : decode cX12_beside 57 = .ok (.aload_n 0, 1) := by decide +kernel
theorem dX12_beside_58 : decode cX12_beside 58 = .ok (.getfield 24, 3) := by decide +kernel
theorem dX12_beside_61 : decode cX12_beside 61 = .ok (.iconst 1, 1) := by decide +kernel
theorem dX12_beside_62 : decode cX12_beside 62 = .ok (.isub, 1) := by decide +kernel
theorem dX12_beside_63 : decode cX12_beside 63 = .ok (.i2l, 1) := by decide +kernel
theorem dX12_beside_64 : decode cX12_beside 64 = .ok (.invokestatic 126, 3) := by decide +kernel
theorem dX12_beside_67 : decode cX12_beside 67 = .ok (.ifCond .eq 32, 3) := by decide +kernel
theorem dX12_beside_70 : decode cX12_beside 70 = .ok (.iload 4, 2) := by decide +kernel
theorem dX12_beside_72 : decode cX12_beside 72 = .ok (.i2l, 1) := by decide +kernel
theorem dX12_beside_73 : decode cX12_beside 73 = .ok (.lconst 0, 1) := by decide +kernel
theorem dX12_beside_74 : decode cX12_beside 74 = .ok (.aload_n 0, 1) := by decide +kernel
theorem dX12_beside_75 : decode cX12_beside 75 = .ok (.getfield 27, 3) := by decide +kernel
theorem dX12_beside_78 : decode cX12_beside 78 = .ok (.iconst 1, 1) := by decide +kernel
theorem dX12_beside_79 : decode cX12_beside 79 = .ok (.isub, 1) := by decide +kernel
theorem dX12_beside_80 : decode cX12_beside 80 = .ok (.i2l, 1) := by decide +kernel
theorem dX12_beside_81 : decode cX12_beside 81 = .ok (.invokestatic 126, 3) := by decide +kernel
theorem dX12_beside_84 : decode cX12_beside 84 = .ok (.ifCond .eq 15, 3) := by decide +kernel
theorem dX12_beside_87 : decode cX12_beside 87 = .ok (.aload_n 0, 1) := by decide +kernel
theorem dX12_beside_88 : decode cX12_beside 88 = .ok (.getfield 27, 3) := by decide +kernel
theorem dX12_beside_91 : decode cX12_beside 91 = .ok (.iload_n 3, 1) := by decide +kernel
theorem dX12_beside_92 : decode cX12_beside 92 = .ok (.imul, 1) := by decide +kernel
theorem dX12_beside_93 : decode cX12_beside 93 = .ok (.iload 4, 2) := by decide +kernel
theorem dX12_beside_95 : decode cX12_beside 95 = .ok (.iadd, 1) := by decide +kernel
