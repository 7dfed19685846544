/-! instructions, decoded -/
theorem dX12_way_165 : decode cX12_way 165 = .ok (.iload 8, 2) := by decide +kernel
theorem dX12_way_167 : decode cX12_way 167 = .ok (.iaload, 1) := by decide +kernel
theorem dX12_way_168 : decode cX12_way 168 = .ok (.iconst 1, 1) := by decide +kernel
theorem dX12_way_169 : decode cX12_way 169 = .ok (.iadd, 1) := by decide +kernel
theorem dX12_way_170 : decode cX12_way 170 = .ok (.aload_n 0, 1) := by decide +kernel
theorem dX12_way_171 : decode cX12_way 171 = .ok (.getfield 85, 3) := by decide +kernel
theorem dX12_way_174 : decode cX12_way 174 = .ok (.iload 5, 2) := by decide +kernel
theorem dX12_way_176 : decode cX12_way 176 = .ok (.iaload, 1) := by decide +kernel
theorem dX12_way_177 : decode cX12_way 177 = .ok (.if_icmp .ne 7, 3) := by decide +kernel
theorem dX12_way_180 : decode cX12_way 180 = .ok (.iconst 1, 1) := by decide +kernel
theorem dX12_way_181 : decode cX12_way 181 = .ok (.goto 4, 3) := by decide +kernel
theorem dX12_way_184 : decode cX12_way 184 = .ok (.iconst 0, 1) := by decide +kernel
theorem dX12_way_185 : decode cX12_way 185 = .ok (.istore 9, 2) := by decide +kernel
theorem dX12_way_187 : decode cX12_way 187 = .ok (.iload 9, 2) := by decide +kernel
theorem dX12_way_189 : decode cX12_way 189 = .ok (.ifCond .eq 13, 3) := by decide +kernel
theorem dX12_way_192 : decode cX12_way 192 = .ok (.iload 6, 2) := by decide +kernel
theorem dX12_way_194 : decode cX12_way 194 = .ok (.iload 8, 2) := by decide +kernel
theorem dX12_way_196 : decode cX12_way 196 = .ok (.invokestatic 142, 3) := by decide +kernel
theorem dX12_way_199 : decode cX12_way 199 = .ok (.goto 5, 3) := by decide +kernel
theorem dX12_way_202 : decode cX12_way 202 = .ok (.iload 6, 2) := by decide +kernel
theorem dX12_way_204 : decode cX12_way 204 = .ok (.istore 6, 2) := by decide +kernel
theorem dX12_way_206 : decode cX12_way 206 = .ok (.iinc 7 1, 3) := by decide +kernel
theorem dX12_way_209 : decode cX12_way 209 = .ok (.goto (-96), 3) := by decide +kernel
theorem dX12_way_212 : decode cX12_way 212 = .ok (.iload 6, 2) := by decide +kernel
theorem dX12_way_214 : decode cX12_way 214 = .ok (.istore 5, 2) := by decide +kernel
theorem dX12_way_216 : decode cX12_way 216 = .ok (.aload_n 0, 1) := by decide +kernel
theorem dX12_way_217 : decode cX12_way 217 = .ok (.iload 5, 2) := by decide +kernel
theorem dX12_way_219 : decode cX12_way 219 = .ok (.i2l, 1) := by decide +kernel
theorem dX12_way_220 : decode cX12_way 220 = .ok (.invokevirtual 326, 3) := by decide +kernel
theorem dX12_way_223 : decode cX12_way 223 = .ok (.goto (-123), 3) := by decide +kernel
theorem dX12_way_226 : decode cX12_way 226 = .ok (.iload 4, 2) := by decide +kernel
theorem dX12_way_228 : decode cX12_way 228 = .ok (.ireturn, 1) := by decide +kernel
theorem dX12_easyNext_0 : decode cX12_easyNext 0 = .ok (.bipush 36, 2) := by decide +kernel
theorem dX12_easyNext_2 : decode cX12_easyNext 2 = .ok (.istore_n 2, 1) := by decide +kernel
theorem dX12_easyNext_3 : decode cX12_easyNext 3 = .ok (.iconst 0, 1) := by decide +kernel
theorem dX12_easyNext_4 : decode cX12_easyNext 4 = .ok (.istore_n 3, 1) := by decide +kernel
theorem dX12_easyNext_5 : decode cX12_easyNext 5 = .ok (.iload_n 3, 1) := by decide +kernel
theorem dX12_easyNext_6 : decode cX12_easyNext 6 = .ok (.iconst 4, 1) := by decide +kernel
theorem dX12_easyNext_7 : decode cX12_easyNext 7 = .ok (.if_icmp .ge 99, 3) := by decide +kernel
theorem dX12_easyNext_10 : decode cX12_easyNext 10 = .ok (.iconst 4, 1) := by decide +kernel
theorem dX12_easyNext_11 : decode cX12_easyNext 11 = .ok (.iload_n 1, 1) := by decide +kernel
theorem dX12_easyNext_12 : decode cX12_easyNext 12 = .ok (.imul, 1) := by decide +kernel
theorem dX12_easyNext_13 : decode cX12_easyNext 13 = .ok (.iload_n 3, 1) := by decide +kernel
theorem dX12_easyNext_14 : decode cX12_easyNext 14 = .ok (.iadd, 1) := by decide +kernel
theorem dX12_easyNext_15 : decode cX12_easyNext 15 = .ok (.istore 4, 2) := by decide +kernel
theorem dX12_easyNext_17 : decode cX12_easyNext 17 = .ok (.aload_n 0, 1) := by decide +kernel
theorem dX12_easyNext_18 : decode cX12_easyNext 18 = .ok (.iload_n 1, 1) := by decide +kernel
theorem dX12_easyNext_19 : decode cX12_easyNext 19 = .ok (.iload_n 3, 1) := by decide +kernel
theorem dX12_easyNext_20 : decode cX12_easyNext 20 = .ok (.invokevirtual 283, 3) := by decide +kernel
theorem dX12_easyNext_23 : decode cX12_easyNext 23 = .ok (.istore 5, 2) := by decide +kernel
theorem dX12_easyNext_25 : decode cX12_easyNext 25 = .ok (.aload_n 0, 1) := by decide +kernel
theorem dX12_easyNext_26 : decode cX12_easyNext 26 = .ok (.getfield 88, 3) := by decide +kernel
theorem dX12_easyNext_29 : decode cX12_easyNext 29 = .ok (.iload 4, 2) := by decide +kernel
theorem dX12_easyNext_31 : decode cX12_easyNext 31 = .ok (.iaload, 1) := by decide +kernel
theorem dX12_easyNext_32 : decode cX12_easyNext 32 = .ok (.ifCond .lt 49, 3) := by decide +kernel
theorem dX12_easyNext_35 : decode cX12_easyNext 35 = .ok (.aload_n 0, 1) := by decide +kernel
theorem dX12_easyNext_36 : decode cX12_easyNext 36 = .ok (.getfield 82, 3) := by decide +kernel
theorem dX12_easyNext_39 : decode cX12_easyNext 39 = .ok (.iload 5, 2) := by decide +kernel
theorem dX12_easyNext_41 : decode cX12_easyNext 41 = .ok (.iaload, 1) := by decide +kernel
theorem dX12_easyNext_42 : decode cX12_easyNext 42 = .ok (.aload_n 0, 1) := by decide +kernel
theorem dX12_easyNext_43 : decode cX12_easyNext 43 = .ok (.getfield 88, 3) := by decide +kernel
theorem dX12_easyNext_46 : decode cX12_easyNext 46 = .ok (.iload 4, 2) := by decide +kernel
theorem dX12_easyNext_48 : decode cX12_easyNext 48 = .ok (.iaload, 1) := by decide +kernel
theorem dX12_easyNext_49 : decode cX12_easyNext 49 = .ok (.iadd, 1) := by decide +kernel
theorem dX12_easyNext_50 : decode cX12_easyNext 50 = .ok (.aload_n 0, 1) := by decide +kernel
theorem dX12_easyNext_51 : decode cX12_easyNext 51 = .ok (.getfield 82, 3) := by decide +kernel
theorem dX12_easyNext_54 : decode cX12_easyNext 54 = .ok (.iload_n 1, 1) := by decide +kernel
theorem dX12_easyNext_55 : decode cX12_easyNext 55 = .ok (.iaload, 1) := by decide +kernel
theorem dX12_easyNext_56 : decode cX12_easyNext 56 = .ok (.if_icmp .ne 25, 3) := by decide +kernel
theorem dX12_easyNext_59 : decode cX12_easyNext 59 = .ok (.aload_n 0, 1) := by decide +kernel
theorem dX12_easyNext_60 : decode cX12_easyNext 60 = .ok (.getfield 85, 3) := by decide +kernel
theorem dX12_easyNext_63 : decode cX12_easyNext 63 = .ok (.iload 5, 2) := by decide +kernel
theorem dX12_easyNext_65 : decode cX12_easyNext 65 = .ok (.iaload, 1) := by decide +kernel
theorem dX12_easyNext_66 : decode cX12_easyNext 66 = .ok (.iconst 1, 1) := by decide +kernel
theorem dX12_easyNext_67 : decode cX12_easyNext 67 = .ok (.iadd, 1) := by decide +kernel
theorem dX12_easyNext_68 : decode cX12_easyNext 68 = .ok (.aload_n 0, 1) := by decide +kernel
theorem dX12_easyNext_69 : decode cX12_easyNext 69 = .ok (.getfield 85, 3) := by decide +kernel
theorem dX12_easyNext_72 : decode cX12_easyNext 72 = .ok (.iload_n 1, 1) := by decide +kernel
theorem dX12_easyNext_73 : decode cX12_easyNext 73 = .ok (.iaload, 1) := by decide +kernel
theorem dX12_easyNext_74 : decode cX12_easyNext 74 = .ok (.if_icmp .ne 7, 3) := by decide +kernel
theorem dX12_easyNext_77 : decode cX12_easyNext 77 = .ok (.iconst 1, 1) := by decide +kernel
theorem dX12_easyNext_78 : decode cX12_easyNext 78 = .ok (.goto 4, 3) := by decide +kernel
theorem dX12_easyNext_81 : decode cX12_easyNext 81 = .ok (.iconst 0, 1) := by decide +kernel
theorem dX12_easyNext_82 : decode cX12_easyNext 82 = .ok (.istore 6, 2) := by decide +kernel
theorem dX12_easyNext_84 : decode cX12_easyNext 84 = .ok (.iload 6, 2) := by decide +kernel
theorem dX12_easyNext_86 : decode cX12_easyNext 86 = .ok (.ifCond .eq 12, 3) := by decide +kernel
theorem dX12_easyNext_89 : decode cX12_easyNext 89 = .ok (.iload_n 2, 1) := by decide +kernel
theorem dX12_easyNext_90 : decode cX12_easyNext 90 = .ok (.iload 5, 2) := by decide +kernel
theorem dX12_easyNext_92 : decode cX12_easyNext 92 = .ok (.invokestatic 142, 3) := by decide +kernel
theorem dX12_easyNext_95 : decode cX12_easyNext 95 = .ok (.goto 4, 3) := by decide +kernel
theorem dX12_easyNext_98 : decode cX12_easyNext 98 = .ok (.iload_n 2, 1) := by decide +kernel
theorem dX12_easyNext_99 : decode cX12_easyNext 99 = .ok (.istore_n 2, 1) := by decide +kernel
theorem dX12_easyNext_100 : decode cX12_easyNext 100 = .ok (.iinc 3 1, 3) := by decide +kernel
theorem dX12_easyNext_103 : decode cX12_easyNext 103 = .ok (.goto (-98), 3) := by decide +kernel
theorem dX12_easyNext_106 : decode cX12_easyNext 106 = .ok (.iload_n 2, 1) := by decide +kernel
theorem dX12_easyNext_107 : decode cX12_easyNext 107 = .ok (.ireturn, 1) := by decide +kernel
theorem dX12_easy_0 : decode cX12_easy 0 = .ok (.aload_n 0, 1) := by decide +kernel
theorem dX12_easy_1 : decode cX12_easy 1 = .ok (.iconst 0, 1) := by decide +kernel
theorem dX12_easy_2 : decode cX12_easy 2 = .ok (.putfield 3, 3) := by decide +kernel
theorem dX12_easy_5 : decode cX12_easy 5 = .ok (.aload_n 0, 1) := by decide +kernel
theorem dX12_easy_6 : decode cX12_easy 6 = .ok (.iload_n 1, 1) := by decide +kernel
theorem dX12_easy_7 : decode cX12_easy 7 = .ok (.iload_n 2, 1) := by decide +kernel
theorem dX12_easy_8 : decode cX12_easy 8 = .ok (.iload_n 3, 1) := by decide +kernel
theorem dX12_easy_9 : decode cX12_easy 9 = .ok (.invokevirtual 355, 3) := by decide +kernel
theorem dX12_easy_12 : decode cX12_easy 12 = .ok (.ifCond .ne 5, 3) := by decide +kernel
theorem dX12_easy_15 : decode cX12_easy 15 = .ok (.iconst (-1), 1) := by decide +kernel
theorem dX12_easy_16 : decode cX12_easy 16 = .ok (.ireturn, 1) := by decide +kernel
theorem dX12_easy_17 : decode cX12_easy 17 = .ok (.aload_n 0, 1) := by decide +kernel
theorem dX12_easy_18 : decode cX12_easy 18 = .ok (.aload_n 0, 1) := by decide +kernel
theorem dX12_easy_19 : decode cX12_easy 19 = .ok (.getfield 43, 3) := by decide +kernel
theorem dX12_easy_22 : decode cX12_easy 22 = .ok (.iload_n 1, 1) := by decide +kernel
theorem dX12_easy_23 : decode cX12_easy 23 = .ok (.aload_n 0, 1) := by decide +kernel
theorem dX12_easy_24 : decode cX12_easy 24 = .ok (.getfield 43, 3) := by decide +kernel
theorem dX12_easy_27 : decode cX12_easy 27 = .ok (.bipush 46, 2) := by decide +kernel
theorem dX12_easy_29 : decode cX12_easy 29 = .ok (.iaload, 1) := by decide +kernel
theorem dX12_easy_30 : decode cX12_easy 30 = .ok (.aload_n 0, 1) := by decide +kernel
theorem dX12_easy_31 : decode cX12_easy 31 = .ok (.getfield 43, 3) := by decide +kernel
theorem dX12_easy_34 : decode cX12_easy 34 = .ok (.bipush 47, 2) := by decide +kernel
theorem dX12_easy_36 : decode cX12_easy 36 = .ok (.iaload, 1) := by decide +kernel
theorem dX12_easy_37 : decode cX12_easy 37 = .ok (.invokevirtual 359, 3) := by decide +kernel
theorem dX12_easy_40 : decode cX12_easy 40 = .ok (.aload_n 0, 1) := by decide +kernel
theorem dX12_easy_41 : decode cX12_easy 41 = .ok (.iload_n 3, 1) := by decide +kernel
theorem dX12_easy_42 : decode cX12_easy 42 = .ok (.iconst 1, 1) := by decide +kernel
theorem dX12_easy_43 : decode cX12_easy 43 = .ok (.invokevirtual 363, 3) := by decide +kernel
theorem dX12_easy_46 : decode cX12_easy 46 = .ok (.aload_n 0, 1) := by decide +kernel
theorem dX12_easy_47 : decode cX12_easy 47 = .ok (.iload_n 2, 1) := by decide +kernel
theorem dX12_easy_48 : decode cX12_easy 48 = .ok (.iload_n 3, 1) := by decide +kernel
theorem dX12_easy_49 : decode cX12_easy 49 = .ok (.invokevirtual 367, 3) := by decide +kernel
theorem dX12_easy_52 : decode cX12_easy 52 = .ok (.ifCond .ne 15, 3) := by decide +kernel
theorem dX12_easy_55 : decode cX12_easy 55 = .ok (.aload_n 0, 1) := by decide +kernel
theorem dX12_easy_56 : decode cX12_easy 56 = .ok (.getfield 82, 3) := by decide +kernel
theorem dX12_easy_59 : decode cX12_easy 59 = .ok (.iload_n 2, 1) := by decide +kernel
theorem dX12_easy_60 : decode cX12_easy 60 = .ok (.iaload, 1) := by decide +kernel
theorem dX12_easy_61 : decode cX12_easy 61 = .ok (.ldc_w 349, 3) := by decide +kernel
theorem dX12_easy_64 : decode cX12_easy 64 = .ok (.if_icmp .lt 6, 3) := by decide +kernel
theorem dX12_easy_67 : decode cX12_easy 67 = .ok (.bipush (-2), 2) := by decide +kernel
theorem dX12_easy_69 : decode cX12_easy 69 = .ok (.ireturn, 1) := by decide +kernel
theorem dX12_easy_70 : decode cX12_easy 70 = .ok (.aload_n 0, 1) := by decide +kernel
theorem dX12_easy_71 : decode cX12_easy 71 = .ok (.iconst 0, 1) := by decide +kernel
theorem dX12_easy_72 : decode cX12_easy 72 = .ok (.putfield 15, 3) := by decide +kernel
theorem dX12_easy_75 : decode cX12_easy 75 = .ok (.iload_n 2, 1) := by decide +kernel
theorem dX12_easy_76 : decode cX12_easy 76 = .ok (.istore 4, 2) := by decide +kernel
theorem dX12_easy_78 : decode cX12_easy 78 = .ok (.aload_n 0, 1) := by decide +kernel
theorem dX12_easy_79 : decode cX12_easy 79 = .ok (.iload 4, 2) := by decide +kernel
theorem dX12_easy_81 : decode cX12_easy 81 = .ok (.i2l, 1) := by decide +kernel
theorem dX12_easy_82 : decode cX12_easy 82 = .ok (.invokevirtual 326, 3) := by decide +kernel
theorem dX12_easy_85 : decode cX12_easy 85 = .ok (.iload 4, 2) := by decide +kernel
theorem dX12_easy_87 : decode cX12_easy 87 = .ok (.iload_n 3, 1) := by decide +kernel
theorem dX12_easy_88 : decode cX12_easy 88 = .ok (.if_icmp .eq 21, 3) := by decide +kernel
theorem dX12_easy_91 : decode cX12_easy 91 = .ok (.aload_n 0, 1) := by decide +kernel
theorem dX12_easy_92 : decode cX12_easy 92 = .ok (.iload 4, 2) := by decide +kernel
theorem dX12_easy_94 : decode cX12_easy 94 = .ok (.invokevirtual 374, 3) := by decide +kernel
theorem dX12_easy_97 : decode cX12_easy 97 = .ok (.istore 4, 2) := by decide +kernel
theorem dX12_easy_99 : decode cX12_easy 99 = .ok (.aload_n 0, 1) := by decide +kernel
theorem dX12_easy_100 : decode cX12_easy 100 = .ok (.iload 4, 2) := by decide +kernel
theorem dX12_easy_102 : decode cX12_easy 102 = .ok (.i2l, 1) := by decide +kernel
theorem dX12_easy_103 : decode cX12_easy 103 = .ok (.invokevirtual 326, 3) := by decide +kernel
theorem dX12_easy_106 : decode cX12_easy 106 = .ok (.goto (-21), 3) := by decide +kernel
theorem dX12_easy_109 : decode cX12_easy 109 = .ok (.aload_n 0, 1) := by decide +kernel
theorem dX12_easy_110 : decode cX12_easy 110 = .ok (.getfield 82, 3) := by decide +kernel
theorem dX12_easy_113 : decode cX12_easy 113 = .ok (.iload_n 2, 1) := by decide +kernel
theorem dX12_easy_114 : decode cX12_easy 114 = .ok (.iaload, 1) := by decide +kernel
theorem dX12_easy_115 : decode cX12_easy 115 = .ok (.ireturn, 1) := by decide +kernel
theorem dX12_soon_0 : decode cX12_soon 0 = .ok (.aload_n 0, 1) := by decide +kernel
theorem dX12_soon_1 : decode cX12_soon 1 = .ok (.iconst 0, 1) := by decide +kernel
theorem dX12_soon_2 : decode cX12_soon 2 = .ok (.putfield 3, 3) := by decide +kernel
theorem dX12_soon_5 : decode cX12_soon 5 = .ok (.aload_n 0, 1) := by decide +kernel
theorem dX12_soon_6 : decode cX12_soon 6 = .ok (.iload_n 1, 1) := by decide +kernel
theorem dX12_soon_7 : decode cX12_soon 7 = .ok (.iload_n 2, 1) := by decide +kernel
theorem dX12_soon_8 : decode cX12_soon 8 = .ok (.iload_n 3, 1) := by decide +kernel
theorem dX12_soon_9 : decode cX12_soon 9 = .ok (.invokevirtual 355, 3) := by decide +kernel
theorem dX12_soon_12 : decode cX12_soon 12 = .ok (.ifCond .ne 5, 3) := by decide +kernel
theorem dX12_soon_15 : decode cX12_soon 15 = .ok (.iconst (-1), 1) := by decide +kernel
theorem dX12_soon_16 : decode cX12_soon 16 = .ok (.ireturn, 1) := by decide +kernel
theorem dX12_soon_17 : decode cX12_soon 17 = .ok (.aload_n 0, 1) := by decide +kernel
theorem dX12_soon_18 : decode cX12_soon 18 = .ok (.aload_n 0, 1) := by decide +kernel
theorem dX12_soon_19 : decode cX12_soon 19 = .ok (.getfield 43, 3) := by decide +kernel
theorem dX12_soon_22 : decode cX12_soon 22 = .ok (.iload_n 1, 1) := by decide +kernel
theorem dX12_soon_23 : decode cX12_soon 23 = .ok (.aload_n 0, 1) := by decide +kernel
theorem dX12_soon_24 : decode cX12_soon 24 = .ok (.getfield 43, 3) := by decide +kernel
theorem dX12_soon_27 : decode cX12_soon 27 = .ok (.bipush 46, 2) := by decide +kernel
theorem dX12_soon_29 : decode cX12_soon 29 = .ok (.iaload, 1) := by decide +kernel
theorem dX12_soon_30 : decode cX12_soon 30 = .ok (.aload_n 0, 1) := by decide +kernel
theorem dX12_soon_31 : decode cX12_soon 31 = .ok (.getfield 43, 3) := by decide +kernel
theorem dX12_soon_34 : decode cX12_soon 34 = .ok (.bipush 47, 2) := by decide +kernel
theorem dX12_soon_36 : decode cX12_soon 36 = .ok (.iaload, 1) := by decide +kernel
theorem dX12_soon_37 : decode cX12_soon 37 = .ok (.invokevirtual 359, 3) := by decide +kernel
theorem dX12_soon_40 : decode cX12_soon 40 = .ok (.aload_n 0, 1) := by decide +kernel
theorem dX12_soon_41 : decode cX12_soon 41 = .ok (.iload_n 3, 1) := by decide +kernel
theorem dX12_soon_42 : decode cX12_soon 42 = .ok (.aload_n 0, 1) := by decide +kernel
theorem dX12_soon_43 : decode cX12_soon 43 = .ok (.getfield 40, 3) := by decide +kernel
theorem dX12_soon_46 : decode cX12_soon 46 = .ok (.iconst 0, 1) := by decide +kernel
theorem dX12_soon_47 : decode cX12_soon 47 = .ok (.iaload, 1) := by decide +kernel
theorem dX12_soon_48 : decode cX12_soon 48 = .ok (.invokevirtual 370, 3) := by decide +kernel
theorem dX12_soon_51 : decode cX12_soon 51 = .ok (.aload_n 0, 1) := by decide +kernel
theorem dX12_soon_52 : decode cX12_soon 52 = .ok (.iload_n 2, 1) := by decide +kernel
theorem dX12_soon_53 : decode cX12_soon 53 = .ok (.iload_n 3, 1) := by decide +kernel
theorem dX12_soon_54 : decode cX12_soon 54 = .ok (.invokevirtual 367, 3) := by decide +kernel
theorem dX12_soon_57 : decode cX12_soon 57 = .ok (.ifCond .ne 15, 3) := by decide +kernel
theorem dX12_soon_60 : decode cX12_soon 60 = .ok (.aload_n 0, 1) := by decide +kernel
theorem dX12_soon_61 : decode cX12_soon 61 = .ok (.getfield 85, 3) := by decide +kernel
theorem dX12_soon_64 : decode cX12_soon 64 = .ok (.iload_n 2, 1) := by decide +kernel
theorem dX12_soon_65 : decode cX12_soon 65 = .ok (.iaload, 1) := by decide +kernel
theorem dX12_soon_66 : decode cX12_soon 66 = .ok (.ldc_w 349, 3) := by decide +kernel
theorem dX12_soon_69 : decode cX12_soon 69 = .ok (.if_icmp .lt 8, 3) := by decide +kernel
theorem dX12_soon_72 : decode cX12_soon 72 = .ok (.bipush (-2), 2) := by decide +kernel
theorem dX12_soon_74 : decode cX12_soon 74 = .ok (.goto 9, 3) := by decide +kernel
theorem dX12_soon_77 : decode cX12_soon 77 = .ok (.aload_n 0, 1) := by decide +kernel
theorem dX12_soon_78 : decode cX12_soon 78 = .ok (.getfield 85, 3) := by decide +kernel
theorem dX12_soon_81 : decode cX12_soon 81 = .ok (.iload_n 2, 1) := by decide +kernel
theorem dX12_soon_82 : decode cX12_soon 82 = .ok (.iaload, 1) := by decide +kernel
theorem dX12_soon_83 : decode cX12_soon 83 = .ok (.ireturn, 1) := by decide +kernel
theorem dX12_hangsWith_0 : decode cX12_hangsWith 0 = .ok (.lconst 1, 1) := by decide +kernel
theorem dX12_hangsWith_1 : decode cX12_hangsWith 1 = .ok (.iload_n 1, 1) := by decide +kernel
theorem dX12_hangsWith_2 : decode cX12_hangsWith 2 = .ok (.lshl, 1) := by decide +kernel
theorem dX12_hangsWith_3 : decode cX12_hangsWith 3 = .ok (.lstore_n 3, 1) := by decide +kernel
theorem dX12_hangsWith_4 : decode cX12_hangsWith 4 = .ok (.iconst 1, 1) := by decide +kernel
theorem dX12_hangsWith_5 : decode cX12_hangsWith 5 = .ok (.istore 5, 2) := by decide +kernel
theorem dX12_hangsWith_7 : decode cX12_hangsWith 7 = .ok (.iload 5, 2) := by decide +kernel
theorem dX12_hangsWith_9 : decode cX12_hangsWith 9 = .ok (.ifCond .eq 120, 3) := by decide +kernel
theorem dX12_hangsWith_12 : decode cX12_hangsWith 12 = .ok (.lload_n 3, 1) := by decide +kernel
theorem dX12_hangsWith_13 : decode cX12_hangsWith 13 = .ok (.lstore 6, 2) := by decide +kernel
theorem dX12_hangsWith_15 : decode cX12_hangsWith 15 = .ok (.iconst 0, 1) := by decide +kernel
theorem dX12_hangsWith_16 : decode cX12_hangsWith 16 = .ok (.istore 8, 2) := by decide +kernel
theorem dX12_hangsWith_18 : decode cX12_hangsWith 18 = .ok (.iload 8, 2) := by decide +kernel
theorem dX12_hangsWith_20 : decode cX12_hangsWith 20 = .ok (.iconst 4, 1) := by decide +kernel
theorem dX12_hangsWith_21 : decode cX12_hangsWith 21 = .ok (.aload_n 0, 1) := by decide +kernel
theorem dX12_hangsWith_22 : decode cX12_hangsWith 22 = .ok (.invokevirtual 122, 3) := by decide +kernel
theorem dX12_hangsWith_25 : decode cX12_hangsWith 25 = .ok (.imul, 1) := by decide +kernel
theorem dX12_hangsWith_26 : decode cX12_hangsWith 26 = .ok (.if_icmp .ge 86, 3) := by decide +kernel
theorem dX12_hangsWith_29 : decode cX12_hangsWith 29 = .ok (.aload_n 0, 1) := by decide +kernel
theorem dX12_hangsWith_30 : decode cX12_hangsWith 30 = .ok (.iload 8, 2) := by decide +kernel
theorem dX12_hangsWith_32 : decode cX12_hangsWith 32 = .ok (.iconst 4, 1) := by decide +kernel
theorem dX12_hangsWith_33 : decode cX12_hangsWith 33 = .ok (.idiv, 1) := by decide +kernel
theorem dX12_hangsWith_34 : decode cX12_hangsWith 34 = .ok (.iload 8, 2) := by decide +kernel
theorem dX12_hangsWith_36 : decode cX12_hangsWith 36 = .ok (.iconst 4, 1) := by decide +kernel
theorem dX12_hangsWith_37 : decode cX12_hangsWith 37 = .ok (.irem, 1) := by decide +kernel
theorem dX12_hangsWith_38 : decode cX12_hangsWith 38 = .ok (.invokevirtual 283, 3) := by decide +kernel
theorem dX12_hangsWith_41 : decode cX12_hangsWith 41 = .ok (.istore 9, 2) := by decide +kernel
theorem dX12_hangsWith_43 : decode cX12_hangsWith 43 = .ok (.lload_n 3, 1) := by decide +kernel
theorem dX12_hangsWith_44 : decode cX12_hangsWith 44 = .ok (.iload 8, 2) := by decide +kernel
theorem dX12_hangsWith_46 : decode cX12_hangsWith 46 = .ok (.iconst 4, 1) := by decide +kernel
theorem dX12_hangsWith_47 : decode cX12_hangsWith 47 = .ok (.idiv, 1) := by decide +kernel
theorem dX12_hangsWith_48 : decode cX12_hangsWith 48 = .ok (.lshr, 1) := by decide +kernel
theorem dX12_hangsWith_49 : decode cX12_hangsWith 49 = .ok (.lconst 1, 1) := by decide +kernel
theorem dX12_hangsWith_50 : decode cX12_hangsWith 50 = .ok (.land, 1) := by decide +kernel
theorem dX12_hangsWith_51 : decode cX12_hangsWith 51 = .ok (.lconst 1, 1) := by decide +kernel
theorem dX12_hangsWith_52 : decode cX12_hangsWith 52 = .ok (.lcmp, 1) := by decide +kernel
theorem dX12_hangsWith_53 : decode cX12_hangsWith 53 = .ok (.ifCond .ne 34, 3) := by decide +kernel
theorem dX12_hangsWith_56 : decode cX12_hangsWith 56 = .ok (.iload 9, 2) := by decide +kernel
theorem dX12_hangsWith_58 : decode cX12_hangsWith 58 = .ok (.ifCond .lt 29, 3) := by decide +kernel
theorem dX12_hangsWith_61 : decode cX12_hangsWith 61 = .ok (.aload_n 0, 1) := by decide +kernel
theorem dX12_hangsWith_62 : decode cX12_hangsWith 62 = .ok (.getfield 30, 3) := by decide +kernel
theorem dX12_hangsWith_65 : decode cX12_hangsWith 65 = .ok (.iload 9, 2) := by decide +kernel
theorem dX12_hangsWith_67 : decode cX12_hangsWith 67 = .ok (.iaload, 1) := by decide +kernel
theorem dX12_hangsWith_68 : decode cX12_hangsWith 68 = .ok (.iconst 3, 1) := by decide +kernel
theorem dX12_hangsWith_69 : decode cX12_hangsWith 69 = .ok (.if_icmp .eq 18, 3) := by decide +kernel
theorem dX12_hangsWith_72 : decode cX12_hangsWith 72 = .ok (.aload_n 0, 1) := by decide +kernel
theorem dX12_hangsWith_73 : decode cX12_hangsWith 73 = .ok (.getfield 34, 3) := by decide +kernel
theorem dX12_hangsWith_76 : decode cX12_hangsWith 76 = .ok (.iload 9, 2) := by decide +kernel
theorem dX12_hangsWith_78 : decode cX12_hangsWith 78 = .ok (.iaload, 1) := by decide +kernel
theorem dX12_hangsWith_79 : decode cX12_hangsWith 79 = .ok (.iload_n 2, 1) := by decide +kernel
theorem dX12_hangsWith_80 : decode cX12_hangsWith 80 = .ok (.if_icmp .gt 7, 3) := by decide +kernel
theorem dX12_hangsWith_83 : decode cX12_hangsWith 83 = .ok (.iconst 1, 1) := by decide +kernel
theorem dX12_hangsWith_84 : decode cX12_hangsWith 84 = .ok (.goto 4, 3) := by decide +kernel
theorem dX12_hangsWith_87 : decode cX12_hangsWith 87 = .ok (.iconst 0, 1) := by decide +kernel
theorem dX12_hangsWith_88 : decode cX12_hangsWith 88 = .ok (.istore 10, 2) := by decide +kernel
theorem dX12_hangsWith_90 : decode cX12_hangsWith 90 = .ok (.lload_n 3, 1) := by decide +kernel
theorem dX12_hangsWith_91 : decode cX12_hangsWith 91 = .ok (.iload 10, 2) := by decide +kernel
theorem dX12_hangsWith_93 : decode cX12_hangsWith 93 = .ok (.ifCond .eq 10, 3) := by decide +kernel
theorem dX12_hangsWith_96 : decode cX12_hangsWith 96 = .ok (.lconst 1, 1) := by decide +kernel
theorem dX12_hangsWith_97 : decode cX12_hangsWith 97 = .ok (.iload 9, 2) := by decide +kernel
theorem dX12_hangsWith_99 : decode cX12_hangsWith 99 = .ok (.lshl, 1) := by decide +kernel
theorem dX12_hangsWith_100 : decode cX12_hangsWith 100 = .ok (.goto 4, 3) := by decide +kernel
theorem dX12_hangsWith_103 : decode cX12_hangsWith 103 = .ok (.lconst 0, 1) := by decide +kernel
theorem dX12_hangsWith_104 : decode cX12_hangsWith 104 = .ok (.lor, 1) := by decide +kernel
theorem dX12_hangsWith_105 : decode cX12_hangsWith 105 = .ok (.lstore_n 3, 1) := by decide +kernel
theorem dX12_hangsWith_106 : decode cX12_hangsWith 106 = .ok (.iinc 8 1, 3) := by decide +kernel
theorem dX12_hangsWith_109 : decode cX12_hangsWith 109 = .ok (.goto (-91), 3) := by decide +kernel
theorem dX12_hangsWith_112 : decode cX12_hangsWith 112 = .ok (.lload_n 3, 1) := by decide +kernel
theorem dX12_hangsWith_113 : decode cX12_hangsWith 113 = .ok (.lload 6, 2) := by decide +kernel
theorem dX12_hangsWith_115 : decode cX12_hangsWith 115 = .ok (.lcmp, 1) := by decide +kernel
theorem dX12_hangsWith_116 : decode cX12_hangsWith 116 = .ok (.ifCond .eq 7, 3) := by decide +kernel
theorem dX12_hangsWith_119 : decode cX12_hangsWith 119 = .ok (.iconst 1, 1) := by decide +kernel
theorem dX12_hangsWith_120 : decode cX12_hangsWith 120 = .ok (.goto 4, 3) := by decide +kernel
theorem dX12_hangsWith_123 : decode cX12_hangsWith 123 = .ok (.iconst 0, 1) := by decide +kernel
theorem dX12_hangsWith_124 : decode cX12_hangsWith 124 = .ok (.istore 5, 2) := by decide +kernel
theorem dX12_hangsWith_126 : decode cX12_hangsWith 126 = .ok (.goto (-119), 3) := by decide +kernel
theorem dX12_hangsWith_129 : decode cX12_hangsWith 129 = .ok (.lload_n 3, 1) := by decide +kernel
theorem dX12_hangsWith_130 : decode cX12_hangsWith 130 = .ok (.lreturn, 1) := by decide +kernel
theorem dX12_hasKind_0 : decode cX12_hasKind 0 = .ok (.iconst 0, 1) := by decide +kernel
theorem dX12_hasKind_1 : decode cX12_hasKind 1 = .ok (.istore 4, 2) := by decide +kernel
theorem dX12_hasKind_3 : decode cX12_hasKind 3 = .ok (.iconst 0, 1) := by decide +kernel
theorem dX12_hasKind_4 : decode cX12_hasKind 4 = .ok (.istore 5, 2) := by decide +kernel
theorem dX12_hasKind_6 : decode cX12_hasKind 6 = .ok (.iload 5, 2) := by decide +kernel
theorem dX12_hasKind_8 : decode cX12_hasKind 8 = .ok (.aload_n 0, 1) := by decide +kernel
theorem dX12_hasKind_9 : decode cX12_hasKind 9 = .ok (.invokevirtual 122, 3) := by decide +kernel
theorem dX12_hasKind_12 : decode cX12_hasKind 12 = .ok (.if_icmp .ge 43, 3) := by decide +kernel
theorem dX12_hasKind_15 : decode cX12_hasKind 15 = .ok (.iload 4, 2) := by decide +kernel
theorem dX12_hasKind_17 : decode cX12_hasKind 17 = .ok (.ifCond .ne 25, 3) := by decide +kernel
theorem dX12_hasKind_20 : decode cX12_hasKind 20 = .ok (.lload_n 1, 1) := by decide +kernel
theorem dX12_hasKind_21 : decode cX12_hasKind 21 = .ok (.iload 5, 2) := by decide +kernel
theorem dX12_hasKind_23 : decode cX12_hasKind 23 = .ok (.lshr, 1) := by decide +kernel
theorem dX12_hasKind_24 : decode cX12_hasKind 24 = .ok (.lconst 1, 1) := by decide +kernel
theorem dX12_hasKind_25 : decode cX12_hasKind 25 = .ok (.land, 1) := by decide +kernel
theorem dX12_hasKind_26 : decode cX12_hasKind 26 = .ok (.lconst 1, 1) := by decide +kernel
theorem dX12_hasKind_27 : decode cX12_hasKind 27 = .ok (.lcmp, 1) := by decide +kernel
theorem dX12_hasKind_28 : decode cX12_hasKind 28 = .ok (.ifCond .ne 18, 3) := by decide +kernel
theorem dX12_hasKind_31 : decode cX12_hasKind 31 = .ok (.aload_n 0, 1) := by decide +kernel
theorem dX12_hasKind_32 : decode cX12_hasKind 32 = .ok (.getfield 30, 3) := by decide +kernel
theorem dX12_hasKind_35 : decode cX12_hasKind 35 = .ok (.iload 5, 2) := by decide +kernel
theorem dX12_hasKind_37 : decode cX12_hasKind 37 = .ok (.iaload, 1) := by decide +kernel
theorem dX12_hasKind_38 : decode cX12_hasKind 38 = .ok (.iload_n 3, 1) := by decide +kernel
theorem dX12_hasKind_39 : decode cX12_hasKind 39 = .ok (.if_icmp .ne 7, 3) := by decide +kernel
theorem dX12_hasKind_42 : decode cX12_hasKind 42 = .ok (.iconst 1, 1) := by decide +kernel
theorem dX12_hasKind_43 : decode cX12_hasKind 43 = .ok (.goto 4, 3) := by decide +kernel
theorem dX12_hasKind_46 : decode cX12_hasKind 46 = .ok (.iconst 0, 1) := by decide +kernel
theorem dX12_hasKind_47 : decode cX12_hasKind 47 = .ok (.istore 4, 2) := by decide +kernel
theorem dX12_hasKind_49 : decode cX12_hasKind 49 = .ok (.iinc 5 1, 3) := by decide +kernel
theorem dX12_hasKind_52 : decode cX12_hasKind 52 = .ok (.goto (-46), 3) := by decide +kernel
theorem dX12_hasKind_55 : decode cX12_hasKind 55 = .ok (.iload 4, 2) := by decide +kernel
theorem dX12_hasKind_57 : decode cX12_hasKind 57 = .ok (.ireturn, 1) := by decide +kernel
theorem dX12_pass_0 : decode cX12_pass 0 = .ok (.aload_n 0, 1) := by decide +kernel
theorem dX12_pass_1 : decode cX12_pass 1 = .ok (.iconst 0, 1) := by decide +kernel
theorem dX12_pass_2 : decode cX12_pass 2 = .ok (.putfield 3, 3) := by decide +kernel
theorem dX12_pass_5 : decode cX12_pass 5 = .ok (.iconst 0, 1) := by decide +kernel
theorem dX12_pass_6 : decode cX12_pass 6 = .ok (.istore_n 1, 1) := by decide +kernel
theorem dX12_pass_7 : decode cX12_pass 7 = .ok (.iload_n 1, 1) := by decide +kernel
theorem dX12_pass_8 : decode cX12_pass 8 = .ok (.bipush 9, 2) := by decide +kernel
theorem dX12_pass_10 : decode cX12_pass 10 = .ok (.if_icmp .gt 97, 3) := by decide +kernel
theorem dX12_pass_13 : decode cX12_pass 13 = .ok (.lconst 0, 1) := by decide +kernel
theorem dX12_pass_14 : decode cX12_pass 14 = .ok (.lstore_n 2, 1) := by decide +kernel
theorem dX12_pass_15 : decode cX12_pass 15 = .ok (.iconst 0, 1) := by decide +kernel
theorem dX12_pass_16 : decode cX12_pass 16 = .ok (.istore 4, 2) := by decide +kernel
theorem dX12_pass_18 : decode cX12_pass 18 = .ok (.iload 4, 2) := by decide +kernel
theorem dX12_pass_20 : decode cX12_pass 20 = .ok (.aload_n 0, 1) := by decide +kernel
theorem dX12_pass_21 : decode cX12_pass 21 = .ok (.invokevirtual 122, 3) := by decide +kernel
theorem dX12_pass_24 : decode cX12_pass 24 = .ok (.if_icmp .ge 59, 3) := by decide +kernel
theorem dX12_pass_27 : decode cX12_pass 27 = .ok (.aload_n 0, 1) := by decide +kernel
theorem dX12_pass_28 : decode cX12_pass 28 = .ok (.getfield 30, 3) := by decide +kernel
theorem dX12_pass_31 : decode cX12_pass 31 = .ok (.iload 4, 2) := by decide +kernel
theorem dX12_pass_33 : decode cX12_pass 33 = .ok (.iaload, 1) := by decide +kernel
theorem dX12_pass_34 : decode cX12_pass 34 = .ok (.iconst 1, 1) := by decide +kernel
theorem dX12_pass_35 : decode cX12_pass 35 = .ok (.if_icmp .ne 42, 3) := by decide +kernel
theorem dX12_pass_38 : decode cX12_pass 38 = .ok (.lload_n 2, 1) := by decide +kernel
theorem dX12_pass_39 : decode cX12_pass 39 = .ok (.iload 4, 2) := by decide +kernel
theorem dX12_pass_41 : decode cX12_pass 41 = .ok (.lshr, 1) := by decide +kernel
theorem dX12_pass_42 : decode cX12_pass 42 = .ok (.lconst 1, 1) := by decide +kernel
theorem dX12_pass_43 : decode cX12_pass 43 = .ok (.land, 1) := by decide +kernel
theorem dX12_pass_44 : decode cX12_pass 44 = .ok (.lconst 0, 1) := by decide +kernel
theorem dX12_pass_45 : decode cX12_pass 45 = .ok (.lcmp, 1) := by decide +kernel
theorem dX12_pass_46 : decode cX12_pass 46 = .ok (.ifCond .ne 31, 3) := by decide +kernel
theorem dX12_pass_49 : decode cX12_pass 49 = .ok (.aload_n 0, 1) := by decide +kernel
theorem dX12_pass_50 : decode cX12_pass 50 = .ok (.iload 4, 2) := by decide +kernel
theorem dX12_pass_52 : decode cX12_pass 52 = .ok (.iload_n 1, 1) := by decide +kernel
theorem dX12_pass_53 : decode cX12_pass 53 = .ok (.invokevirtual 377, 3) := by decide +kernel
theorem dX12_pass_56 : decode cX12_pass 56 = .ok (.lstore 5, 2) := by decide +kernel
theorem dX12_pass_58 : decode cX12_pass 58 = .ok (.lload_n 2, 1) := by decide +kernel
theorem dX12_pass_59 : decode cX12_pass 59 = .ok (.aload_n 0, 1) := by decide +kernel
theorem dX12_pass_60 : decode cX12_pass 60 = .ok (.lload 5, 2) := by decide +kernel
theorem dX12_pass_62 : decode cX12_pass 62 = .ok (.iconst 2, 1) := by decide +kernel
theorem dX12_pass_63 : decode cX12_pass 63 = .ok (.invokevirtual 381, 3) := by decide +kernel
theorem dX12_pass_66 : decode cX12_pass 66 = .ok (.ifCond .eq 8, 3) := by decide +kernel
theorem dX12_pass_69 : decode cX12_pass 69 = .ok (.lload 5, 2) := by decide +kernel
theorem dX12_pass_71 : decode cX12_pass 71 = .ok (.goto 4, 3) := by decide +kernel
theorem dX12_pass_74 : decode cX12_pass 74 = .ok (.lconst 0, 1) := by decide +kernel
theorem dX12_pass_75 : decode cX12_pass 75 = .ok (.lor, 1) := by decide +kernel
theorem dX12_pass_76 : decode cX12_pass 76 = .ok (.lstore_n 2, 1) := by decide +kernel
theorem dX12_pass_77 : decode cX12_pass 77 = .ok (.iinc 4 1, 3) := by decide +kernel
theorem dX12_pass_80 : decode cX12_pass 80 = .ok (.goto (-62), 3) := by decide +kernel
theorem dX12_pass_83 : decode cX12_pass 83 = .ok (.lload_n 2, 1) := by decide +kernel
theorem dX12_pass_84 : decode cX12_pass 84 = .ok (.lconst 0, 1) := by decide +kernel
theorem dX12_pass_85 : decode cX12_pass 85 = .ok (.lcmp, 1) := by decide +kernel
theorem dX12_pass_86 : decode cX12_pass 86 = .ok (.ifCond .eq 15, 3) := by decide +kernel
theorem dX12_pass_89 : decode cX12_pass 89 = .ok (.aload_n 0, 1) := by decide +kernel
theorem dX12_pass_90 : decode cX12_pass 90 = .ok (.iconst 0, 1) := by decide +kernel
theorem dX12_pass_91 : decode cX12_pass 91 = .ok (.putfield 15, 3) := by decide +kernel
theorem dX12_pass_94 : decode cX12_pass 94 = .ok (.aload_n 0, 1) := by decide +kernel
theorem dX12_pass_95 : decode cX12_pass 95 = .ok (.lload_n 2, 1) := by decide +kernel
theorem dX12_pass_96 : decode cX12_pass 96 = .ok (.invokevirtual 326, 3) := by decide +kernel
theorem dX12_pass_99 : decode cX12_pass 99 = .ok (.iload_n 1, 1) := by decide +kernel
theorem dX12_pass_100 : decode cX12_pass 100 = .ok (.ireturn, 1) := by decide +kernel
theorem dX12_pass_101 : decode cX12_pass 101 = .ok (.iinc 1 1, 3) := by decide +kernel
theorem dX12_pass_104 : decode cX12_pass 104 = .ok (.goto (-97), 3) := by decide +kernel
theorem dX12_pass_107 : decode cX12_pass 107 = .ok (.bipush (-2), 2) := by decide +kernel
theorem dX12_pass_109 : decode cX12_pass 109 = .ok (.ireturn, 1) := by decide +kernel
theorem dX12_oxenOf_0 : decode cX12_oxenOf 0 = .ok (.aload_n 0, 1) := by decide +kernel
theorem dX12_oxenOf_1 : decode cX12_oxenOf 1 = .ok (.aload_n 0, 1) := by decide +kernel
theorem dX12_oxenOf_2 : decode cX12_oxenOf 2 = .ok (.getfield 43, 3) := by decide +kernel
theorem dX12_oxenOf_5 : decode cX12_oxenOf 5 = .ok (.aload_n 0, 1) := by decide +kernel
theorem dX12_oxenOf_6 : decode cX12_oxenOf 6 = .ok (.getfield 37, 3) := by decide +kernel
theorem dX12_oxenOf_9 : decode cX12_oxenOf 9 = .ok (.iload_n 1, 1) := by decide +kernel
theorem dX12_oxenOf_10 : decode cX12_oxenOf 10 = .ok (.iaload, 1) := by decide +kernel
theorem dX12_oxenOf_11 : decode cX12_oxenOf 11 = .ok (.aload_n 0, 1) := by decide +kernel
theorem dX12_oxenOf_12 : decode cX12_oxenOf 12 = .ok (.getfield 43, 3) := by decide +kernel
theorem dX12_oxenOf_15 : decode cX12_oxenOf 15 = .ok (.bipush 46, 2) := by decide +kernel
theorem dX12_oxenOf_17 : decode cX12_oxenOf 17 = .ok (.iaload, 1) := by decide +kernel
theorem dX12_oxenOf_18 : decode cX12_oxenOf 18 = .ok (.aload_n 0, 1) := by decide +kernel
theorem dX12_oxenOf_19 : decode cX12_oxenOf 19 = .ok (.getfield 43, 3) := by decide +kernel
theorem dX12_oxenOf_22 : decode cX12_oxenOf 22 = .ok (.bipush 47, 2) := by decide +kernel
theorem dX12_oxenOf_24 : decode cX12_oxenOf 24 = .ok (.iaload, 1) := by decide +kernel
theorem dX12_oxenOf_25 : decode cX12_oxenOf 25 = .ok (.invokevirtual 359, 3) := by decide +kernel
theorem dX12_oxenOf_28 : decode cX12_oxenOf 28 = .ok (.aload_n 0, 1) := by decide +kernel
theorem dX12_oxenOf_29 : decode cX12_oxenOf 29 = .ok (.iconst (-1), 1) := by decide +kernel
theorem dX12_oxenOf_30 : decode cX12_oxenOf 30 = .ok (.putfield 385, 3) := by decide +kernel
theorem dX12_oxenOf_33 : decode cX12_oxenOf 33 = .ok (.ldc_w 349, 3) := by decide +kernel
theorem dX12_oxenOf_36 : decode cX12_oxenOf 36 = .ok (.istore_n 2, 1) := by decide +kernel
theorem dX12_oxenOf_37 : decode cX12_oxenOf 37 = .ok (.iconst 0, 1) := by decide +kernel
theorem dX12_oxenOf_38 : decode cX12_oxenOf 38 = .ok (.istore_n 3, 1) := by decide +kernel
theorem dX12_oxenOf_39 : decode cX12_oxenOf 39 = .ok (.iload_n 3, 1) := by decide +kernel
theorem dX12_oxenOf_40 : decode cX12_oxenOf 40 = .ok (.aload_n 0, 1) := by decide +kernel
theorem dX12_oxenOf_41 : decode cX12_oxenOf 41 = .ok (.invokevirtual 122, 3) := by decide +kernel
theorem dX12_oxenOf_44 : decode cX12_oxenOf 44 = .ok (.if_icmp .ge 66, 3) := by decide +kernel
theorem dX12_oxenOf_47 : decode cX12_oxenOf 47 = .ok (.aload_n 0, 1) := by decide +kernel
theorem dX12_oxenOf_48 : decode cX12_oxenOf 48 = .ok (.getfield 30, 3) := by decide +kernel
theorem dX12_oxenOf_51 : decode cX12_oxenOf 51 = .ok (.iload_n 3, 1) := by decide +kernel
theorem dX12_oxenOf_52 : decode cX12_oxenOf 52 = .ok (.iaload, 1) := by decide +kernel
theorem dX12_oxenOf_53 : decode cX12_oxenOf 53 = .ok (.iconst 2, 1) := by decide +kernel
theorem dX12_oxenOf_54 : decode cX12_oxenOf 54 = .ok (.if_icmp .ne 50, 3) := by decide +kernel
theorem dX12_oxenOf_57 : decode cX12_oxenOf 57 = .ok (.aload_n 0, 1) := by decide +kernel
theorem dX12_oxenOf_58 : decode cX12_oxenOf 58 = .ok (.iload_n 3, 1) := by decide +kernel
theorem dX12_oxenOf_59 : decode cX12_oxenOf 59 = .ok (.iconst 0, 1) := by decide +kernel
theorem dX12_oxenOf_60 : decode cX12_oxenOf 60 = .ok (.invokevirtual 363, 3) := by decide +kernel
theorem dX12_oxenOf_63 : decode cX12_oxenOf 63 = .ok (.aload_n 0, 1) := by decide +kernel
theorem dX12_oxenOf_64 : decode cX12_oxenOf 64 = .ok (.getfield 82, 3) := by decide +kernel
theorem dX12_oxenOf_67 : decode cX12_oxenOf 67 = .ok (.aload_n 0, 1) := by decide +kernel
theorem dX12_oxenOf_68 : decode cX12_oxenOf 68 = .ok (.getfield 43, 3) := by decide +kernel
theorem dX12_oxenOf_71 : decode cX12_oxenOf 71 = .ok (.bipush 36, 2) := by decide +kernel
theorem dX12_oxenOf_73 : decode cX12_oxenOf 73 = .ok (.iload_n 1, 1) := by decide +kernel
theorem dX12_oxenOf_74 : decode cX12_oxenOf 74 = .ok (.iadd, 1) := by decide +kernel
theorem dX12_oxenOf_75 : decode cX12_oxenOf 75 = .ok (.iaload, 1) := by decide +kernel
theorem dX12_oxenOf_76 : decode cX12_oxenOf 76 = .ok (.iaload, 1) := by decide +kernel
theorem dX12_oxenOf_77 : decode cX12_oxenOf 77 = .ok (.istore 4, 2) := by decide +kernel
theorem dX12_oxenOf_79 : decode cX12_oxenOf 79 = .ok (.aload_n 0, 1) := by decide +kernel
theorem dX12_oxenOf_80 : decode cX12_oxenOf 80 = .ok (.iload 4, 2) := by decide +kernel
theorem dX12_oxenOf_82 : decode cX12_oxenOf 82 = .ok (.iload_n 2, 1) := by decide +kernel
theorem dX12_oxenOf_83 : decode cX12_oxenOf 83 = .ok (.if_icmp .ge 7, 3) := by decide +kernel
theorem dX12_oxenOf_86 : decode cX12_oxenOf 86 = .ok (.iload_n 3, 1) := by decide +kernel
theorem dX12_oxenOf_87 : decode cX12_oxenOf 87 = .ok (.goto 7, 3) := by decide +kernel
theorem dX12_oxenOf_90 : decode cX12_oxenOf 90 = .ok (.aload_n 0, 1) := by decide +kernel
theorem dX12_oxenOf_91 : decode cX12_oxenOf 91 = .ok (.getfield 385, 3) := by decide +kernel
theorem dX12_oxenOf_94 : decode cX12_oxenOf 94 = .ok (.putfield 385, 3) := by decide +kernel
theorem dX12_oxenOf_97 : decode cX12_oxenOf 97 = .ok (.iload_n 2, 1) := by decide +kernel
theorem dX12_oxenOf_98 : decode cX12_oxenOf 98 = .ok (.iload 4, 2) := by decide +kernel
theorem dX12_oxenOf_100 : decode cX12_oxenOf 100 = .ok (.invokestatic 142, 3) := by decide +kernel
theorem dX12_oxenOf_103 : decode cX12_oxenOf 103 = .ok (.istore_n 2, 1) := by decide +kernel
theorem dX12_oxenOf_104 : decode cX12_oxenOf 104 = .ok (.iinc 3 1, 3) := by decide +kernel
theorem dX12_oxenOf_107 : decode cX12_oxenOf 107 = .ok (.goto (-68), 3) := by decide +kernel
theorem dX12_oxenOf_110 : decode cX12_oxenOf 110 = .ok (.iload_n 2, 1) := by decide +kernel
theorem dX12_oxenOf_111 : decode cX12_oxenOf 111 = .ok (.ireturn, 1) := by decide +kernel
theorem dX12_oxen_0 : decode cX12_oxen 0 = .ok (.aload_n 0, 1) := by decide +kernel
theorem dX12_oxen_1 : decode cX12_oxen 1 = .ok (.iconst 0, 1) := by decide +kernel
theorem dX12_oxen_2 : decode cX12_oxen 2 = .ok (.putfield 3, 3) := by decide +kernel
theorem dX12_oxen_5 : decode cX12_oxen 5 = .ok (.aload_n 0, 1) := by decide +kernel
theorem dX12_oxen_6 : decode cX12_oxen 6 = .ok (.iload_n 1, 1) := by decide +kernel
theorem dX12_oxen_7 : decode cX12_oxen 7 = .ok (.invokevirtual 273, 3) := by decide +kernel
theorem dX12_oxen_10 : decode cX12_oxen 10 = .ok (.ifCond .ne 5, 3) := by decide +kernel
theorem dX12_oxen_13 : decode cX12_oxen 13 = .ok (.iconst (-1), 1) := by decide +kernel
theorem dX12_oxen_14 : decode cX12_oxen 14 = .ok (.ireturn, 1) := by decide +kernel
theorem dX12_oxen_15 : decode cX12_oxen 15 = .ok (.aload_n 0, 1) := by decide +kernel
theorem dX12_oxen_16 : decode cX12_oxen 16 = .ok (.iload_n 1, 1) := by decide +kernel
theorem dX12_oxen_17 : decode cX12_oxen 17 = .ok (.invokevirtual 388, 3) := by decide +kernel
theorem dX12_oxen_20 : decode cX12_oxen 20 = .ok (.istore_n 2, 1) := by decide +kernel
theorem dX12_oxen_21 : decode cX12_oxen 21 = .ok (.iload_n 2, 1) := by decide +kernel
theorem dX12_oxen_22 : decode cX12_oxen 22 = .ok (.ldc_w 349, 3) := by decide +kernel
theorem dX12_oxen_25 : decode cX12_oxen 25 = .ok (.if_icmp .lt 6, 3) := by decide +kernel
theorem dX12_oxen_28 : decode cX12_oxen 28 = .ok (.bipush (-2), 2) := by decide +kernel
theorem dX12_oxen_30 : decode cX12_oxen 30 = .ok (.ireturn, 1) := by decide +kernel
theorem dX12_oxen_31 : decode cX12_oxen 31 = .ok (.aload_n 0, 1) := by decide +kernel
theorem dX12_oxen_32 : decode cX12_oxen 32 = .ok (.iconst 0, 1) := by decide +kernel
theorem dX12_oxen_33 : decode cX12_oxen 33 = .ok (.putfield 15, 3) := by decide +kernel
theorem dX12_oxen_36 : decode cX12_oxen 36 = .ok (.aload_n 0, 1) := by decide +kernel
theorem dX12_oxen_37 : decode cX12_oxen 37 = .ok (.aload_n 0, 1) := by decide +kernel
theorem dX12_oxen_38 : decode cX12_oxen 38 = .ok (.getfield 385, 3) := by decide +kernel
theorem dX12_oxen_41 : decode cX12_oxen 41 = .ok (.i2l, 1) := by decide +kernel
theorem dX12_oxen_42 : decode cX12_oxen 42 = .ok (.invokevirtual 326, 3) := by decide +kernel
theorem dX12_oxen_45 : decode cX12_oxen 45 = .ok (.iload_n 2, 1) := by decide +kernel
theorem dX12_oxen_46 : decode cX12_oxen 46 = .ok (.ireturn, 1) := by decide +kernel
theorem dX12_can_0 : decode cX12_can 0 = .ok (.aload_n 0, 1) := by decide +kernel
theorem dX12_can_1 : decode cX12_can 1 = .ok (.iconst 0, 1) := by decide +kernel
theorem dX12_can_2 : decode cX12_can 2 = .ok (.putfield 3, 3) := by decide +kernel
theorem dX12_can_5 : decode cX12_can 5 = .ok (.iconst 0, 1) := by decide +kernel
theorem dX12_can_6 : decode cX12_can 6 = .ok (.istore_n 1, 1) := by decide +kernel
theorem dX12_can_7 : decode cX12_can 7 = .ok (.iconst 0, 1) := by decide +kernel
theorem dX12_can_8 : decode cX12_can 8 = .ok (.istore_n 2, 1) := by decide +kernel
theorem dX12_can_9 : decode cX12_can 9 = .ok (.iload_n 2, 1) := by decide +kernel
theorem dX12_can_10 : decode cX12_can 10 = .ok (.aload_n 0, 1) := by decide +kernel
theorem dX12_can_11 : decode cX12_can 11 = .ok (.getfield 130, 3) := by decide +kernel
theorem dX12_can_14 : decode cX12_can 14 = .ok (.if_icmp .ge 33, 3) := by decide +kernel
theorem dX12_can_17 : decode cX12_can 17 = .ok (.iload_n 1, 1) := by decide +kernel
theorem dX12_can_18 : decode cX12_can 18 = .ok (.aload_n 0, 1) := by decide +kernel
theorem dX12_can_19 : decode cX12_can 19 = .ok (.iload_n 2, 1) := by decide +kernel
theorem dX12_can_20 : decode cX12_can 20 = .ok (.invokevirtual 388, 3) := by decide +kernel
theorem dX12_can_23 : decode cX12_can 23 = .ok (.aload_n 0, 1) := by decide +kernel
theorem dX12_can_24 : decode cX12_can 24 = .ok (.getfield 40, 3) := by decide +kernel
theorem dX12_can_27 : decode cX12_can 27 = .ok (.iconst 0, 1) := by decide +kernel
theorem dX12_can_28 : decode cX12_can 28 = .ok (.iaload, 1) := by decide +kernel
theorem dX12_can_29 : decode cX12_can 29 = .ok (.if_icmp .gt 9, 3) := by decide +kernel
theorem dX12_can_32 : decode cX12_can 32 = .ok (.iconst 1, 1) := by decide +kernel
theorem dX12_can_33 : decode cX12_can 33 = .ok (.iload_n 2, 1) := by decide +kernel
theorem dX12_can_34 : decode cX12_can 34 = .ok (.ishl, 1) := by decide +kernel
theorem dX12_can_35 : decode cX12_can 35 = .ok (.goto 4, 3) := by decide +kernel
theorem dX12_can_38 : decode cX12_can 38 = .ok (.iconst 0, 1) := by decide +kernel
theorem dX12_can_39 : decode cX12_can 39 = .ok (.ior, 1) := by decide +kernel
theorem dX12_can_40 : decode cX12_can 40 = .ok (.istore_n 1, 1) := by decide +kernel
theorem dX12_can_41 : decode cX12_can 41 = .ok (.iinc 2 1, 3) := by decide +kernel
theorem dX12_can_44 : decode cX12_can 44 = .ok (.goto (-35), 3) := by decide +kernel
theorem dX12_can_47 : decode cX12_can 47 = .ok (.aload_n 0, 1) := by decide +kernel
theorem dX12_can_48 : decode cX12_can 48 = .ok (.iconst 0, 1) := by decide +kernel
theorem dX12_can_49 : decode cX12_can 49 = .ok (.putfield 15, 3) := by decide +kernel
theorem dX12_can_52 : decode cX12_can 52 = .ok (.aload_n 0, 1) := by decide +kernel
theorem dX12_can_53 : decode cX12_can 53 = .ok (.iload_n 1, 1) := by decide +kernel
theorem dX12_can_54 : decode cX12_can 54 = .ok (.invokestatic 344, 3) := by decide +kernel
theorem dX12_can_57 : decode cX12_can 57 = .ok (.i2l, 1) := by decide +kernel
theorem dX12_can_58 : decode cX12_can 58 = .ok (.invokevirtual 326, 3) := by decide +kernel
theorem dX12_can_61 : decode cX12_can 61 = .ok (.iload_n 1, 1) := by decide +kernel
theorem dX12_can_62 : decode cX12_can 62 = .ok (.ireturn, 1) := by decide +kernel
theorem dX12_anyWay_0 : decode cX12_anyWay 0 = .ok (.iconst 0, 1) := by decide +kernel
theorem dX12_anyWay_1 : decode cX12_anyWay 1 = .ok (.istore_n 1, 1) := by decide +kernel
theorem dX12_anyWay_2 : decode cX12_anyWay 2 = .ok (.iload_n 1, 1) := by decide +kernel
theorem dX12_anyWay_3 : decode cX12_anyWay 3 = .ok (.bipush 36, 2) := by decide +kernel
theorem dX12_anyWay_5 : decode cX12_anyWay 5 = .ok (.if_icmp .ge 32, 3) := by decide +kernel
theorem dX12_anyWay_8 : decode cX12_anyWay 8 = .ok (.aload_n 0, 1) := by decide +kernel
theorem dX12_anyWay_9 : decode cX12_anyWay 9 = .ok (.getfield 82, 3) := by decide +kernel
theorem dX12_anyWay_12 : decode cX12_anyWay 12 = .ok (.iload_n 1, 1) := by decide +kernel
theorem dX12_anyWay_13 : decode cX12_anyWay 13 = .ok (.aload_n 0, 1) := by decide +kernel
theorem dX12_anyWay_14 : decode cX12_anyWay 14 = .ok (.getfield 30, 3) := by decide +kernel
theorem dX12_anyWay_17 : decode cX12_anyWay 17 = .ok (.iload_n 1, 1) := by decide +kernel
theorem dX12_anyWay_18 : decode cX12_anyWay 18 = .ok (.iaload, 1) := by decide +kernel
theorem dX12_anyWay_19 : decode cX12_anyWay 19 = .ok (.iconst 2, 1) := by decide +kernel
theorem dX12_anyWay_20 : decode cX12_anyWay 20 = .ok (.if_icmp .ne 7, 3) := by decide +kernel
theorem dX12_anyWay_23 : decode cX12_anyWay 23 = .ok (.iconst 0, 1) := by decide +kernel
theorem dX12_anyWay_24 : decode cX12_anyWay 24 = .ok (.goto 6, 3) := by decide +kernel
theorem dX12_anyWay_27 : decode cX12_anyWay 27 = .ok (.ldc_w 349, 3) := by decide +kernel
theorem dX12_anyWay_30 : decode cX12_anyWay 30 = .ok (.iastore, 1) := by decide +kernel
theorem dX12_anyWay_31 : decode cX12_anyWay 31 = .ok (.iinc 1 1, 3) := by decide +kernel
theorem dX12_anyWay_34 : decode cX12_anyWay 34 = .ok (.goto (-32), 3) := by decide +kernel
theorem dX12_anyWay_37 : decode cX12_anyWay 37 = .ok (.iconst 1, 1) := by decide +kernel
theorem dX12_anyWay_38 : decode cX12_anyWay 38 = .ok (.istore_n 1, 1) := by decide +kernel
theorem dX12_anyWay_39 : decode cX12_anyWay 39 = .ok (.iload_n 1, 1) := by decide +kernel
theorem dX12_anyWay_40 : decode cX12_anyWay 40 = .ok (.ifCond .eq 99, 3) := by decide +kernel
theorem dX12_anyWay_43 : decode cX12_anyWay 43 = .ok (.iconst 0, 1) := by decide +kernel
theorem dX12_anyWay_44 : decode cX12_anyWay 44 = .ok (.istore_n 1, 1) := by decide +kernel
theorem dX12_anyWay_45 : decode cX12_anyWay 45 = .ok (.iconst 0, 1) := by decide +kernel
theorem dX12_anyWay_46 : decode cX12_anyWay 46 = .ok (.istore_n 2, 1) := by decide +kernel
theorem dX12_anyWay_47 : decode cX12_anyWay 47 = .ok (.iload_n 2, 1) := by decide +kernel
theorem dX12_anyWay_48 : decode cX12_anyWay 48 = .ok (.sipush 144, 3) := by decide +kernel
theorem dX12_anyWay_51 : decode cX12_anyWay 51 = .ok (.if_icmp .ge 85, 3) := by decide +kernel
theorem dX12_anyWay_54 : decode cX12_anyWay 54 = .ok (.aload_n 0, 1) := by decide +kernel
theorem dX12_anyWay_55 : decode cX12_anyWay 55 = .ok (.getfield 88, 3) := by decide +kernel
theorem dX12_anyWay_58 : decode cX12_anyWay 58 = .ok (.iload_n 2, 1) := by decide +kernel
theorem dX12_anyWay_59 : decode cX12_anyWay 59 = .ok (.iaload, 1) := by decide +kernel
theorem dX12_anyWay_60 : decode cX12_anyWay 60 = .ok (.ifCond .lt 70, 3) := by decide +kernel
theorem dX12_anyWay_63 : decode cX12_anyWay 63 = .ok (.aload_n 0, 1) := by decide +kernel
theorem dX12_anyWay_64 : decode cX12_anyWay 64 = .ok (.getfield 82, 3) := by decide +kernel
theorem dX12_anyWay_67 : decode cX12_anyWay 67 = .ok (.aload_n 0, 1) := by decide +kernel
theorem dX12_anyWay_68 : decode cX12_anyWay 68 = .ok (.iload_n 2, 1) := by decide +kernel
theorem dX12_anyWay_69 : decode cX12_anyWay 69 = .ok (.iconst 4, 1) := by decide +kernel
theorem dX12_anyWay_70 : decode cX12_anyWay 70 = .ok (.idiv, 1) := by decide +kernel
theorem dX12_anyWay_71 : decode cX12_anyWay 71 = .ok (.iload_n 2, 1) := by decide +kernel
theorem dX12_anyWay_72 : decode cX12_anyWay 72 = .ok (.iconst 4, 1) := by decide +kernel
theorem dX12_anyWay_73 : decode cX12_anyWay 73 = .ok (.irem, 1) := by decide +kernel
theorem dX12_anyWay_74 : decode cX12_anyWay 74 = .ok (.invokevirtual 283, 3) := by decide +kernel
theorem dX12_anyWay_77 : decode cX12_anyWay 77 = .ok (.iaload, 1) := by decide +kernel
theorem dX12_anyWay_78 : decode cX12_anyWay 78 = .ok (.aload_n 0, 1) := by decide +kernel
theorem dX12_anyWay_79 : decode cX12_anyWay 79 = .ok (.getfield 88, 3) := by decide +kernel
theorem dX12_anyWay_82 : decode cX12_anyWay 82 = .ok (.iload_n 2, 1) := by decide +kernel
theorem dX12_anyWay_83 : decode cX12_anyWay 83 = .ok (.iaload, 1) := by decide +kernel
theorem dX12_anyWay_84 : decode cX12_anyWay 84 = .ok (.invokestatic 258, 3) := by decide +kernel
theorem dX12_anyWay_87 : decode cX12_anyWay 87 = .ok (.istore_n 3, 1) := by decide +kernel
theorem dX12_anyWay_88 : decode cX12_anyWay 88 = .ok (.iload_n 1, 1) := by decide +kernel
theorem dX12_anyWay_89 : decode cX12_anyWay 89 = .ok (.ifCond .ne 15, 3) := by decide +kernel
theorem dX12_anyWay_92 : decode cX12_anyWay 92 = .ok (.iload_n 3, 1) := by decide +kernel
theorem dX12_anyWay_93 : decode cX12_anyWay 93 = .ok (.aload_n 0, 1) := by decide +kernel
theorem dX12_anyWay_94 : decode cX12_anyWay 94 = .ok (.getfield 82, 3) := by decide +kernel
theorem dX12_anyWay_97 : decode cX12_anyWay 97 = .ok (.iload_n 2, 1) := by decide +kernel
theorem dX12_anyWay_98 : decode cX12_anyWay 98 = .ok (.iconst 4, 1) := by decide +kernel
theorem dX12_anyWay_99 : decode cX12_anyWay 99 = .ok (.idiv, 1) := by decide +kernel
theorem dX12_anyWay_100 : decode cX12_anyWay 100 = .ok (.iaload, 1) := by decide +kernel
theorem dX12_anyWay_101 : decode cX12_anyWay 101 = .ok (.if_icmp .ge 7, 3) := by decide +kernel
theorem dX12_anyWay_104 : decode cX12_anyWay 104 = .ok (.iconst 1, 1) := by decide +kernel
theorem dX12_anyWay_105 : decode cX12_anyWay 105 = .ok (.goto 4, 3) := by decide +kernel
theorem dX12_anyWay_108 : decode cX12_anyWay 108 = .ok (.iconst 0, 1) := by decide +kernel
theorem dX12_anyWay_109 : decode cX12_anyWay 109 = .ok (.istore_n 1, 1) := by decide +kernel
theorem dX12_anyWay_110 : decode cX12_anyWay 110 = .ok (.aload_n 0, 1) := by decide +kernel
theorem dX12_anyWay_111 : decode cX12_anyWay 111 = .ok (.getfield 82, 3) := by decide +kernel
theorem dX12_anyWay_114 : decode cX12_anyWay 114 = .ok (.iload_n 2, 1) := by decide +kernel
theorem dX12_anyWay_115 : decode cX12_anyWay 115 = .ok (.iconst 4, 1) := by decide +kernel
theorem dX12_anyWay_116 : decode cX12_anyWay 116 = .ok (.idiv, 1) := by decide +kernel
theorem dX12_anyWay_117 : decode cX12_anyWay 117 = .ok (.aload_n 0, 1) := by decide +kernel
theorem dX12_anyWay_118 : decode cX12_anyWay 118 = .ok (.getfield 82, 3) := by decide +kernel
theorem dX12_anyWay_121 : decode cX12_anyWay 121 = .ok (.iload_n 2, 1) := by decide +kernel
theorem dX12_anyWay_122 : decode cX12_anyWay 122 = .ok (.iconst 4, 1) := by decide +kernel
theorem dX12_anyWay_123 : decode cX12_anyWay 123 = .ok (.idiv, 1) := by decide +kernel
theorem dX12_anyWay_124 : decode cX12_anyWay 124 = .ok (.iaload, 1) := by decide +kernel
theorem dX12_anyWay_125 : decode cX12_anyWay 125 = .ok (.iload_n 3, 1) := by decide +kernel
theorem dX12_anyWay_126 : decode cX12_anyWay 126 = .ok (.invokestatic 142, 3) := by decide +kernel
theorem dX12_anyWay_129 : decode cX12_anyWay 129 = .ok (.iastore, 1) := by decide +kernel
theorem dX12_anyWay_130 : decode cX12_anyWay 130 = .ok (.iinc 2 1, 3) := by decide +kernel
theorem dX12_anyWay_133 : decode cX12_anyWay 133 = .ok (.goto (-86), 3) := by decide +kernel
theorem dX12_anyWay_136 : decode cX12_anyWay 136 = .ok (.goto (-97), 3) := by decide +kernel
theorem dX12_anyWay_139 : decode cX12_anyWay 139 = .ok (.ldc_w 349, 3) := by decide +kernel
theorem dX12_anyWay_142 : decode cX12_anyWay 142 = .ok (.istore_n 2, 1) := by decide +kernel
theorem dX12_anyWay_143 : decode cX12_anyWay 143 = .ok (.iconst 0, 1) := by decide +kernel
theorem dX12_anyWay_144 : decode cX12_anyWay 144 = .ok (.istore_n 3, 1) := by decide +kernel
theorem dX12_anyWay_145 : decode cX12_anyWay 145 = .ok (.iload_n 3, 1) := by decide +kernel
theorem dX12_anyWay_146 : decode cX12_anyWay 146 = .ok (.aload_n 0, 1) := by decide +kernel
theorem dX12_anyWay_147 : decode cX12_anyWay 147 = .ok (.invokevirtual 122, 3) := by decide +kernel
theorem dX12_anyWay_150 : decode cX12_anyWay 150 = .ok (.if_icmp .ge 34, 3) := by decide +kernel
theorem dX12_anyWay_153 : decode cX12_anyWay 153 = .ok (.aload_n 0, 1) := by decide +kernel
theorem dX12_anyWay_154 : decode cX12_anyWay 154 = .ok (.getfield 30, 3) := by decide +kernel
theorem dX12_anyWay_157 : decode cX12_anyWay 157 = .ok (.iload_n 3, 1) := by decide +kernel
theorem dX12_anyWay_158 : decode cX12_anyWay 158 = .ok (.iaload, 1) := by decide +kernel
theorem dX12_anyWay_159 : decode cX12_anyWay 159 = .ok (.iconst 1, 1) := by decide +kernel
theorem dX12_anyWay_160 : decode cX12_anyWay 160 = .ok (.if_icmp .ne 16, 3) := by decide +kernel
theorem dX12_anyWay_163 : decode cX12_anyWay 163 = .ok (.iload_n 2, 1) := by decide +kernel
theorem dX12_anyWay_164 : decode cX12_anyWay 164 = .ok (.aload_n 0, 1) := by decide +kernel
theorem dX12_anyWay_165 : decode cX12_anyWay 165 = .ok (.getfield 82, 3) := by decide +kernel
theorem dX12_anyWay_168 : decode cX12_anyWay 168 = .ok (.iload_n 3, 1) := by decide +kernel
theorem dX12_anyWay_169 : decode cX12_anyWay 169 = .ok (.iaload, 1) := by decide +kernel
theorem dX12_anyWay_170 : decode cX12_anyWay 170 = .ok (.invokestatic 142, 3) := by decide +kernel
theorem dX12_anyWay_173 : decode cX12_anyWay 173 = .ok (.goto 4, 3) := by decide +kernel
theorem dX12_anyWay_176 : decode cX12_anyWay 176 = .ok (.iload_n 2, 1) := by decide +kernel
theorem dX12_anyWay_177 : decode cX12_anyWay 177 = .ok (.istore_n 2, 1) := by decide +kernel
theorem dX12_anyWay_178 : decode cX12_anyWay 178 = .ok (.iinc 3 1, 3) := by decide +kernel
theorem dX12_anyWay_181 : decode cX12_anyWay 181 = .ok (.goto (-36), 3) := by decide +kernel
theorem dX12_anyWay_184 : decode cX12_anyWay 184 = .ok (.iload_n 2, 1) := by decide +kernel
theorem dX12_anyWay_185 : decode cX12_anyWay 185 = .ok (.ireturn, 1) := by decide +kernel
theorem dX12_laysPlanks_0 : decode cX12_laysPlanks 0 = .ok (.iload_n 3, 1) := by decide +kernel
theorem dX12_laysPlanks_1 : decode cX12_laysPlanks 1 = .ok (.ifCond .ne 73, 3) := by decide +kernel
theorem dX12_laysPlanks_4 : decode cX12_laysPlanks 4 = .ok (.aload_n 0, 1) := by decide +kernel
theorem dX12_laysPlanks_5 : decode cX12_laysPlanks 5 = .ok (.aload_n 0, 1) := by decide +kernel
theorem dX12_laysPlanks_6 : decode cX12_laysPlanks 6 = .ok (.getfield 46, 3) := by decide +kernel
theorem dX12_laysPlanks_9 : decode cX12_laysPlanks 9 = .ok (.iload_n 1, 1) := by decide +kernel
theorem dX12_laysPlanks_10 : decode cX12_laysPlanks 10 = .ok (.aload_n 0, 1) := by decide +kernel
theorem dX12_laysPlanks_11 : decode cX12_laysPlanks 11 = .ok (.getfield 43, 3) := by decide +kernel
theorem dX12_laysPlanks_14 : decode cX12_laysPlanks 14 = .ok (.bipush 46, 2) := by decide +kernel
theorem dX12_laysPlanks_16 : decode cX12_laysPlanks 16 = .ok (.iaload, 1) := by decide +kernel
theorem dX12_laysPlanks_17 : decode cX12_laysPlanks 17 = .ok (.aload_n 0, 1) := by decide +kernel
theorem dX12_laysPlanks_18 : decode cX12_laysPlanks 18 = .ok (.getfield 43, 3) := by decide +kernel
theorem dX12_laysPlanks_21 : decode cX12_laysPlanks 21 = .ok (.bipush 47, 2) := by decide +kernel
theorem dX12_laysPlanks_23 : decode cX12_laysPlanks 23 = .ok (.iaload, 1) := by decide +kernel
theorem dX12_laysPlanks_24 : decode cX12_laysPlanks 24 = .ok (.invokevirtual 359, 3) := by decide +kernel
theorem dX12_laysPlanks_27 : decode cX12_laysPlanks 27 = .ok (.aload_n 0, 1) := by decide +kernel
theorem dX12_laysPlanks_28 : decode cX12_laysPlanks 28 = .ok (.invokevirtual 391, 3) := by decide +kernel
theorem dX12_laysPlanks_31 : decode cX12_laysPlanks 31 = .ok (.istore 6, 2) := by decide +kernel
theorem dX12_laysPlanks_33 : decode cX12_laysPlanks 33 = .ok (.iload 6, 2) := by decide +kernel
theorem dX12_laysPlanks_35 : decode cX12_laysPlanks 35 = .ok (.aload_n 0, 1) := by decide +kernel
theorem dX12_laysPlanks_36 : decode cX12_laysPlanks 36 = .ok (.getfield 394, 3) := by decide +kernel
theorem dX12_laysPlanks_39 : decode cX12_laysPlanks 39 = .ok (.if_icmp .lt 22, 3) := by decide +kernel
theorem dX12_laysPlanks_42 : decode cX12_laysPlanks 42 = .ok (.iload 6, 2) := by decide +kernel
theorem dX12_laysPlanks_44 : decode cX12_laysPlanks 44 = .ok (.aload_n 0, 1) := by decide +kernel
theorem dX12_laysPlanks_45 : decode cX12_laysPlanks 45 = .ok (.getfield 394, 3) := by decide +kernel
theorem dX12_laysPlanks_48 : decode cX12_laysPlanks 48 = .ok (.if_icmp .ne 25, 3) := by decide +kernel
theorem dX12_laysPlanks_51 : decode cX12_laysPlanks 51 = .ok (.lload 4, 2) := by decide +kernel
theorem dX12_laysPlanks_53 : decode cX12_laysPlanks 53 = .ok (.aload_n 0, 1) := by decide +kernel
theorem dX12_laysPlanks_54 : decode cX12_laysPlanks 54 = .ok (.getfield 397, 3) := by decide +kernel
theorem dX12_laysPlanks_57 : decode cX12_laysPlanks 57 = .ok (.lcmp, 1) := by decide +kernel
theorem dX12_laysPlanks_58 : decode cX12_laysPlanks 58 = .ok (.ifCond .ge 15, 3) := by decide +kernel
theorem dX12_laysPlanks_61 : decode cX12_laysPlanks 61 = .ok (.aload_n 0, 1) := by decide +kernel
theorem dX12_laysPlanks_62 : decode cX12_laysPlanks 62 = .ok (.iload 6, 2) := by decide +kernel
theorem dX12_laysPlanks_64 : decode cX12_laysPlanks 64 = .ok (.putfield 394, 3) := by decide +kernel
theorem dX12_laysPlanks_67 : decode cX12_laysPlanks 67 = .ok (.aload_n 0, 1) := by decide +kernel
theorem dX12_laysPlanks_68 : decode cX12_laysPlanks 68 = .ok (.lload 4, 2) := by decide +kernel
theorem dX12_laysPlanks_70 : decode cX12_laysPlanks 70 = .ok (.putfield 397, 3) := by decide +kernel
theorem dX12_laysPlanks_73 : decode cX12_laysPlanks 73 = .ok (.return_, 1) := by decide +kernel
theorem dX12_laysPlanks_74 : decode cX12_laysPlanks 74 = .ok (.iload_n 2, 1) := by decide +kernel
theorem dX12_laysPlanks_75 : decode cX12_laysPlanks 75 = .ok (.istore 6, 2) := by decide +kernel
theorem dX12_laysPlanks_77 : decode cX12_laysPlanks 77 = .ok (.iload 6, 2) := by decide +kernel
theorem dX12_laysPlanks_79 : decode cX12_laysPlanks 79 = .ok (.aload_n 0, 1) := by decide +kernel
theorem dX12_laysPlanks_80 : decode cX12_laysPlanks 80 = .ok (.invokevirtual 122, 3) := by decide +kernel
theorem dX12_laysPlanks_83 : decode cX12_laysPlanks 83 = .ok (.if_icmp .ge 64, 3) := by decide +kernel
theorem dX12_laysPlanks_86 : decode cX12_laysPlanks 86 = .ok (.aload_n 0, 1) := by decide +kernel
theorem dX12_laysPlanks_87 : decode cX12_laysPlanks 87 = .ok (.getfield 30, 3) := by decide +kernel
theorem dX12_laysPlanks_90 : decode cX12_laysPlanks 90 = .ok (.iload 6, 2) := by decide +kernel
theorem dX12_laysPlanks_92 : decode cX12_laysPlanks 92 = .ok (.iaload, 1) := by decide +kernel
theorem dX12_laysPlanks_93 : decode cX12_laysPlanks 93 = .ok (.ifCond .ne 48, 3) := by decide +kernel
theorem dX12_laysPlanks_96 : decode cX12_laysPlanks 96 = .ok (.aload_n 0, 1) := by decide +kernel
theorem dX12_laysPlanks_97 : decode cX12_laysPlanks 97 = .ok (.getfield 46, 3) := by decide +kernel
theorem dX12_laysPlanks_100 : decode cX12_laysPlanks 100 = .ok (.iload 6, 2) := by decide +kernel
theorem dX12_laysPlanks_102 : decode cX12_laysPlanks 102 = .ok (.iaload, 1) := by decide +kernel
theorem dX12_laysPlanks_103 : decode cX12_laysPlanks 103 = .ok (.ifCond .ne 38, 3) := by decide +kernel
theorem dX12_laysPlanks_106 : decode cX12_laysPlanks 106 = .ok (.aload_n 0, 1) := by decide +kernel
theorem dX12_laysPlanks_107 : decode cX12_laysPlanks 107 = .ok (.getfield 46, 3) := by decide +kernel
theorem dX12_laysPlanks_110 : decode cX12_laysPlanks 110 = .ok (.iload 6, 2) := by decide +kernel
theorem dX12_laysPlanks_112 : decode cX12_laysPlanks 112 = .ok (.iconst 1, 1) := by decide +kernel
theorem dX12_laysPlanks_113 : decode cX12_laysPlanks 113 = .ok (.iastore, 1) := by decide +kernel
theorem dX12_laysPlanks_114 : decode cX12_laysPlanks 114 = .ok (.aload_n 0, 1) := by decide +kernel
theorem dX12_laysPlanks_115 : decode cX12_laysPlanks 115 = .ok (.iload_n 1, 1) := by decide +kernel
theorem dX12_laysPlanks_116 : decode cX12_laysPlanks 116 = .ok (.iload 6, 2) := by decide +kernel
theorem dX12_laysPlanks_118 : decode cX12_laysPlanks 118 = .ok (.iconst 1, 1) := by decide +kernel
theorem dX12_laysPlanks_119 : decode cX12_laysPlanks 119 = .ok (.iadd, 1) := by decide +kernel
theorem dX12_laysPlanks_120 : decode cX12_laysPlanks 120 = .ok (.iload_n 3, 1) := by decide +kernel
theorem dX12_laysPlanks_121 : decode cX12_laysPlanks 121 = .ok (.iconst 1, 1) := by decide +kernel
theorem dX12_laysPlanks_122 : decode cX12_laysPlanks 122 = .ok (.isub, 1) := by decide +kernel
theorem dX12_laysPlanks_123 : decode cX12_laysPlanks 123 = .ok (.lload 4, 2) := by decide +kernel
theorem dX12_laysPlanks_125 : decode cX12_laysPlanks 125 = .ok (.lconst 1, 1) := by decide +kernel
theorem dX12_laysPlanks_126 : decode cX12_laysPlanks 126 = .ok (.iload 6, 2) := by decide +kernel
theorem dX12_laysPlanks_128 : decode cX12_laysPlanks 128 = .ok (.lshl, 1) := by decide +kernel
theorem dX12_laysPlanks_129 : decode cX12_laysPlanks 129 = .ok (.lor, 1) := by decide +kernel
theorem dX12_laysPlanks_130 : decode cX12_laysPlanks 130 = .ok (.invokevirtual 401, 3) := by decide +kernel
theorem dX12_laysPlanks_133 : decode cX12_laysPlanks 133 = .ok (.aload_n 0, 1) := by decide +kernel
theorem dX12_laysPlanks_134 : decode cX12_laysPlanks 134 = .ok (.getfield 46, 3) := by decide +kernel
theorem dX12_laysPlanks_137 : decode cX12_laysPlanks 137 = .ok (.iload 6, 2) := by decide +kernel
theorem dX12_laysPlanks_139 : decode cX12_laysPlanks 139 = .ok (.iconst 0, 1) := by decide +kernel
theorem dX12_laysPlanks_140 : decode cX12_laysPlanks 140 = .ok (.iastore, 1) := by decide +kernel
theorem dX12_laysPlanks_141 : decode cX12_laysPlanks 141 = .ok (.iinc 6 1, 3) := by decide +kernel
theorem dX12_laysPlanks_144 : decode cX12_laysPlanks 144 = .ok (.goto (-67), 3) := by decide +kernel
theorem dX12_laysPlanks_147 : decode cX12_laysPlanks 147 = .ok (.return_, 1) := by decide +kernel
theorem dX12_planks_0 : decode cX12_planks 0 = .ok (.aload_n 0, 1) := by decide +kernel
theorem dX12_planks_1 : decode cX12_planks 1 = .ok (.iconst 0, 1) := by decide +kernel
theorem dX12_planks_2 : decode cX12_planks 2 = .ok (.putfield 3, 3) := by decide +kernel
theorem dX12_planks_5 : decode cX12_planks 5 = .ok (.iload_n 1, 1) := by decide +kernel
theorem dX12_planks_6 : decode cX12_planks 6 = .ok (.i2l, 1) := by decide +kernel
theorem dX12_planks_7 : decode cX12_planks 7 = .ok (.lconst 1, 1) := by decide +kernel
theorem dX12_planks_8 : decode cX12_planks 8 = .ok (.ldc2_w 353, 3) := by decide +kernel
theorem dX12_planks_11 : decode cX12_planks 11 = .ok (.invokestatic 126, 3) := by decide +kernel
theorem dX12_planks_14 : decode cX12_planks 14 = .ok (.ifCond .eq 15, 3) := by decide +kernel
theorem dX12_planks_17 : decode cX12_planks 17 = .ok (.iload_n 2, 1) := by decide +kernel
theorem dX12_planks_18 : decode cX12_planks 18 = .ok (.i2l, 1) := by decide +kernel
theorem dX12_planks_19 : decode cX12_planks 19 = .ok (.lconst 0, 1) := by decide +kernel
theorem dX12_planks_20 : decode cX12_planks 20 = .ok (.ldc2_w 405, 3) := by decide +kernel
theorem dX12_planks_23 : decode cX12_planks 23 = .ok (.invokestatic 126, 3) := by decide +kernel
theorem dX12_planks_26 : decode cX12_planks 26 = .ok (.ifCond .ne 5, 3) := by decide +kernel
theorem dX12_planks_29 : decode cX12_planks 29 = .ok (.iconst (-1), 1) := by decide +kernel
theorem dX12_planks_30 : decode cX12_planks 30 = .ok (.ireturn, 1) := by decide +kernel
theorem dX12_planks_31 : decode cX12_planks 31 = .ok (.aload_n 0, 1) := by decide +kernel
theorem dX12_planks_32 : decode cX12_planks 32 = .ok (.invokevirtual 407, 3) := by decide +kernel
theorem dX12_planks_35 : decode cX12_planks 35 = .ok (.aload_n 0, 1) := by decide +kernel
theorem dX12_planks_36 : decode cX12_planks 36 = .ok (.ldc_w 349, 3) := by decide +kernel
theorem dX12_planks_39 : decode cX12_planks 39 = .ok (.putfield 394, 3) := by decide +kernel
theorem dX12_planks_42 : decode cX12_planks 42 = .ok (.aload_n 0, 1) := by decide +kernel
theorem dX12_planks_43 : decode cX12_planks 43 = .ok (.lconst 0, 1) := by decide +kernel
theorem dX12_planks_44 : decode cX12_planks 44 = .ok (.putfield 397, 3) := by decide +kernel
theorem dX12_planks_47 : decode cX12_planks 47 = .ok (.aload_n 0, 1) := by decide +kernel
theorem dX12_planks_48 : decode cX12_planks 48 = .ok (.iload_n 1, 1) := by decide +kernel
theorem dX12_planks_49 : decode cX12_planks 49 = .ok (.iconst 0, 1) := by decide +kernel
theorem dX12_planks_50 : decode cX12_planks 50 = .ok (.iload_n 2, 1) := by decide +kernel
theorem dX12_planks_51 : decode cX12_planks 51 = .ok (.lconst 0, 1) := by decide +kernel
theorem dX12_planks_52 : decode cX12_planks 52 = .ok (.invokevirtual 401, 3) := by decide +kernel
theorem dX12_planks_55 : decode cX12_planks 55 = .ok (.aload_n 0, 1) := by decide +kernel
theorem dX12_planks_56 : decode cX12_planks 56 = .ok (.getfield 394, 3) := by decide +kernel
theorem dX12_planks_59 : decode cX12_planks 59 = .ok (.ldc_w 349, 3) := by decide +kernel
theorem dX12_planks_62 : decode cX12_planks 62 = .ok (.if_icmp .lt 6, 3) := by decide +kernel
theorem dX12_planks_65 : decode cX12_planks 65 = .ok (.bipush (-2), 2) := by decide +kernel
theorem dX12_planks_67 : decode cX12_planks 67 = .ok (.ireturn, 1) := by decide +kernel
theorem dX12_planks_68 : decode cX12_planks 68 = .ok (.aload_n 0, 1) := by decide +kernel
theorem dX12_planks_69 : decode cX12_planks 69 = .ok (.iconst 0, 1) := by decide +kernel
theorem dX12_planks_70 : decode cX12_planks 70 = .ok (.putfield 15, 3) := by decide +kernel
theorem dX12_planks_73 : decode cX12_planks 73 = .ok (.aload_n 0, 1) := by decide +kernel
theorem dX12_planks_74 : decode cX12_planks 74 = .ok (.aload_n 0, 1) := by decide +kernel
theorem dX12_planks_75 : decode cX12_planks 75 = .ok (.getfield 397, 3) := by decide +kernel
theorem dX12_planks_78 : decode cX12_planks 78 = .ok (.invokevirtual 326, 3) := by decide +kernel
theorem dX12_planks_81 : decode cX12_planks 81 = .ok (.aload_n 0, 1) := by decide +kernel
theorem dX12_planks_82 : decode cX12_planks 82 = .ok (.getfield 394, 3) := by decide +kernel
theorem dX12_planks_85 : decode cX12_planks 85 = .ok (.ireturn, 1) := by decide +kernel
theorem dX12_puts_0 : decode cX12_puts 0 = .ok (.iconst 0, 1) := by decide +kernel
theorem dX12_puts_1 : decode cX12_puts 1 = .ok (.istore_n 1, 1) := by decide +kernel
theorem dX12_puts_2 : decode cX12_puts 2 = .ok (.iload_n 1, 1) := by decide +kernel
theorem dX12_puts_3 : decode cX12_puts 3 = .ok (.bipush 50, 2) := by decide +kernel
theorem dX12_puts_5 : decode cX12_puts 5 = .ok (.if_icmp .ge 21, 3) := by decide +kernel
theorem dX12_puts_8 : decode cX12_puts 8 = .ok (.aload_n 0, 1) := by decide +kernel
theorem dX12_puts_9 : decode cX12_puts 9 = .ok (.getfield 46, 3) := by decide +kernel
theorem dX12_puts_12 : decode cX12_puts 12 = .ok (.iload_n 1, 1) := by decide +kernel
theorem dX12_puts_13 : decode cX12_puts 13 = .ok (.aload_n 0, 1) := by decide +kernel
theorem dX12_puts_14 : decode cX12_puts 14 = .ok (.getfield 43, 3) := by decide +kernel
theorem dX12_puts_17 : decode cX12_puts 17 = .ok (.iload_n 1, 1) := by decide +kernel
theorem dX12_puts_18 : decode cX12_puts 18 = .ok (.iaload, 1) := by decide +kernel
theorem dX12_puts_19 : decode cX12_puts 19 = .ok (.iastore, 1) := by decide +kernel
theorem dX12_puts_20 : decode cX12_puts 20 = .ok (.iinc 1 1, 3) := by decide +kernel
theorem dX12_puts_23 : decode cX12_puts 23 = .ok (.goto (-21), 3) := by decide +kernel
theorem dX12_puts_26 : decode cX12_puts 26 = .ok (.return_, 1) := by decide +kernel
theorem dX12_hoursOf_0 : decode cX12_hoursOf 0 = .ok (.lconst 1, 1) := by decide +kernel
theorem dX12_hoursOf_1 : decode cX12_hoursOf 1 = .ok (.aload_n 0, 1) := by decide +kernel
theorem dX12_hoursOf_2 : decode cX12_hoursOf 2 = .ok (.getfield 43, 3) := by decide +kernel
theorem dX12_hoursOf_5 : decode cX12_hoursOf 5 = .ok (.bipush 36, 2) := by decide +kernel
theorem dX12_hoursOf_7 : decode cX12_hoursOf 7 = .ok (.iload_n 1, 1) := by decide +kernel
theorem dX12_hoursOf_8 : decode cX12_hoursOf 8 = .ok (.iadd, 1) := by decide +kernel
theorem dX12_hoursOf_9 : decode cX12_hoursOf 9 = .ok (.iaload, 1) := by decide +kernel
theorem dX12_hoursOf_10 : decode cX12_hoursOf 10 = .ok (.lshl, 1) := by decide +kernel
theorem dX12_hoursOf_11 : decode cX12_hoursOf 11 = .ok (.lstore_n 2, 1) := by decide +kernel
theorem dX12_hoursOf_12 : decode cX12_hoursOf 12 = .ok (.iconst 0, 1) := by decide +kernel
theorem dX12_hoursOf_13 : decode cX12_hoursOf 13 = .ok (.istore 4, 2) := by decide +kernel
theorem dX12_hoursOf_15 : decode cX12_hoursOf 15 = .ok (.iload 4, 2) := by decide +kernel
theorem dX12_hoursOf_17 : decode cX12_hoursOf 17 = .ok (.bipush 60, 2) := by decide +kernel
theorem dX12_hoursOf_19 : decode cX12_hoursOf 19 = .ok (.if_icmp .gt 162, 3) := by decide +kernel
theorem dX12_hoursOf_22 : decode cX12_hoursOf 22 = .ok (.aload_n 0, 1) := by decide +kernel
theorem dX12_hoursOf_23 : decode cX12_hoursOf 23 = .ok (.lload_n 2, 1) := by decide +kernel
theorem dX12_hoursOf_24 : decode cX12_hoursOf 24 = .ok (.iconst 2, 1) := by decide +kernel
theorem dX12_hoursOf_25 : decode cX12_hoursOf 25 = .ok (.invokevirtual 381, 3) := by decide +kernel
theorem dX12_hoursOf_28 : decode cX12_hoursOf 28 = .ok (.ifCond .eq 6, 3) := by decide +kernel
theorem dX12_hoursOf_31 : decode cX12_hoursOf 31 = .ok (.iload 4, 2) := by decide +kernel
theorem dX12_hoursOf_33 : decode cX12_hoursOf 33 = .ok (.ireturn, 1) := by decide +kernel
theorem dX12_hoursOf_34 : decode cX12_hoursOf 34 = .ok (.aload_n 0, 1) := by decide +kernel
theorem dX12_hoursOf_35 : decode cX12_hoursOf 35 = .ok (.getfield 43, 3) := by decide +kernel
theorem dX12_hoursOf_38 : decode cX12_hoursOf 38 = .ok (.bipush 47, 2) := by decide +kernel
theorem dX12_hoursOf_40 : decode cX12_hoursOf 40 = .ok (.iaload, 1) := by decide +kernel
theorem dX12_hoursOf_41 : decode cX12_hoursOf 41 = .ok (.iload 4, 2) := by decide +kernel
theorem dX12_hoursOf_43 : decode cX12_hoursOf 43 = .ok (.iadd, 1) := by decide +kernel
theorem dX12_hoursOf_44 : decode cX12_hoursOf 44 = .ok (.istore 5, 2) := by decide +kernel
theorem dX12_hoursOf_46 : decode cX12_hoursOf 46 = .ok (.aload_n 0, 1) := by decide +kernel
theorem dX12_hoursOf_47 : decode cX12_hoursOf 47 = .ok (.aload_n 0, 1) := by decide +kernel
theorem dX12_hoursOf_48 : decode cX12_hoursOf 48 = .ok (.getfield 43, 3) := by decide +kernel
theorem dX12_hoursOf_51 : decode cX12_hoursOf 51 = .ok (.aload_n 0, 1) := by decide +kernel
theorem dX12_hoursOf_52 : decode cX12_hoursOf 52 = .ok (.getfield 37, 3) := by decide +kernel
theorem dX12_hoursOf_55 : decode cX12_hoursOf 55 = .ok (.iload_n 1, 1) := by decide +kernel
theorem dX12_hoursOf_56 : decode cX12_hoursOf 56 = .ok (.iaload, 1) := by decide +kernel
theorem dX12_hoursOf_57 : decode cX12_hoursOf 57 = .ok (.aload_n 0, 1) := by decide +kernel
theorem dX12_hoursOf_58 : decode cX12_hoursOf 58 = .ok (.getfield 43, 3) := by decide +kernel
theorem dX12_hoursOf_61 : decode cX12_hoursOf 61 = .ok (.bipush 46, 2) := by decide +kernel
theorem dX12_hoursOf_63 : decode cX12_hoursOf 63 = .ok (.iaload, 1) := by decide +kernel
theorem dX12_hoursOf_64 : decode cX12_hoursOf 64 = .ok (.iload 5, 2) := by decide +kernel
theorem dX12_hoursOf_66 : decode cX12_hoursOf 66 = .ok (.bipush 10, 2) := by decide +kernel
theorem dX12_hoursOf_68 : decode cX12_hoursOf 68 = .ok (.idiv, 1) := by decide +kernel
theorem dX12_hoursOf_69 : decode cX12_hoursOf 69 = .ok (.iadd, 1) := by decide +kernel
theorem dX12_hoursOf_70 : decode cX12_hoursOf 70 = .ok (.iload 5, 2) := by decide +kernel
theorem dX12_hoursOf_72 : decode cX12_hoursOf 72 = .ok (.bipush 10, 2) := by decide +kernel
theorem dX12_hoursOf_74 : decode cX12_hoursOf 74 = .ok (.irem, 1) := by decide +kernel
theorem dX12_hoursOf_75 : decode cX12_hoursOf 75 = .ok (.invokevirtual 359, 3) := by decide +kernel
theorem dX12_hoursOf_78 : decode cX12_hoursOf 78 = .ok (.lload_n 2, 1) := by decide +kernel
theorem dX12_hoursOf_79 : decode cX12_hoursOf 79 = .ok (.lstore 6, 2) := by decide +kernel
theorem dX12_hoursOf_81 : decode cX12_hoursOf 81 = .ok (.iconst 0, 1) := by decide +kernel
theorem dX12_hoursOf_82 : decode cX12_hoursOf 82 = .ok (.istore 8, 2) := by decide +kernel
theorem dX12_hoursOf_84 : decode cX12_hoursOf 84 = .ok (.iload 8, 2) := by decide +kernel
theorem dX12_hoursOf_86 : decode cX12_hoursOf 86 = .ok (.sipush 144, 3) := by decide +kernel
theorem dX12_hoursOf_89 : decode cX12_hoursOf 89 = .ok (.if_icmp .ge 83, 3) := by decide +kernel
theorem dX12_hoursOf_92 : decode cX12_hoursOf 92 = .ok (.lload_n 2, 1) := by decide +kernel
theorem dX12_hoursOf_93 : decode cX12_hoursOf 93 = .ok (.iload 8, 2) := by decide +kernel
theorem dX12_hoursOf_95 : decode cX12_hoursOf 95 = .ok (.iconst 4, 1) := by decide +kernel
theorem dX12_hoursOf_96 : decode cX12_hoursOf 96 = .ok (.idiv, 1) := by decide +kernel
theorem dX12_hoursOf_97 : decode cX12_hoursOf 97 = .ok (.lshr, 1) := by decide +kernel
theorem dX12_hoursOf_98 : decode cX12_hoursOf 98 = .ok (.lconst 1, 1) := by decide +kernel
theorem dX12_hoursOf_99 : decode cX12_hoursOf 99 = .ok (.land, 1) := by decide +kernel
theorem dX12_hoursOf_100 : decode cX12_hoursOf 100 = .ok (.lconst 1, 1) := by decide +kernel
theorem dX12_hoursOf_101 : decode cX12_hoursOf 101 = .ok (.lcmp, 1) := by decide +kernel
theorem dX12_hoursOf_102 : decode cX12_hoursOf 102 = .ok (.ifCond .ne 33, 3) := by decide +kernel
theorem dX12_hoursOf_105 : decode cX12_hoursOf 105 = .ok (.aload_n 0, 1) := by decide +kernel
theorem dX12_hoursOf_106 : decode cX12_hoursOf 106 = .ok (.getfield 88, 3) := by decide +kernel
theorem dX12_hoursOf_109 : decode cX12_hoursOf 109 = .ok (.iload 8, 2) := by decide +kernel
theorem dX12_hoursOf_111 : decode cX12_hoursOf 111 = .ok (.iaload, 1) := by decide +kernel
theorem dX12_hoursOf_112 : decode cX12_hoursOf 112 = .ok (.ifCond .lt 23, 3) := by decide +kernel
theorem dX12_hoursOf_115 : decode cX12_hoursOf 115 = .ok (.aload_n 0, 1) := by decide +kernel
theorem dX12_hoursOf_116 : decode cX12_hoursOf 116 = .ok (.getfield 88, 3) := by decide +kernel
theorem dX12_hoursOf_119 : decode cX12_hoursOf 119 = .ok (.iload 8, 2) := by decide +kernel
theorem dX12_hoursOf_121 : decode cX12_hoursOf 121 = .ok (.iaload, 1) := by decide +kernel
theorem dX12_hoursOf_122 : decode cX12_hoursOf 122 = .ok (.aload_n 0, 1) := by decide +kernel
theorem dX12_hoursOf_123 : decode cX12_hoursOf 123 = .ok (.getfield 40, 3) := by decide +kernel
theorem dX12_hoursOf_126 : decode cX12_hoursOf 126 = .ok (.iconst 0, 1) := by decide +kernel
theorem dX12_hoursOf_127 : decode cX12_hoursOf 127 = .ok (.iaload, 1) := by decide +kernel
theorem dX12_hoursOf_128 : decode cX12_hoursOf 128 = .ok (.if_icmp .gt 7, 3) := by decide +kernel
theorem dX12_hoursOf_131 : decode cX12_hoursOf 131 = .ok (.iconst 1, 1) := by decide +kernel
theorem dX12_hoursOf_132 : decode cX12_hoursOf 132 = .ok (.goto 4, 3) := by decide +kernel
theorem dX12_hoursOf_135 : decode cX12_hoursOf 135 = .ok (.iconst 0, 1) := by decide +kernel
theorem dX12_hoursOf_136 : decode cX12_hoursOf 136 = .ok (.istore 9, 2) := by decide +kernel
theorem dX12_hoursOf_138 : decode cX12_hoursOf 138 = .ok (.lload 6, 2) := by decide +kernel
theorem dX12_hoursOf_140 : decode cX12_hoursOf 140 = .ok (.iload 9, 2) := by decide +kernel
theorem dX12_hoursOf_142 : decode cX12_hoursOf 142 = .ok (.ifCond .eq 20, 3) := by decide +kernel
theorem dX12_hoursOf_145 : decode cX12_hoursOf 145 = .ok (.lconst 1, 1) := by decide +kernel
theorem dX12_hoursOf_146 : decode cX12_hoursOf 146 = .ok (.aload_n 0, 1) := by decide +kernel
theorem dX12_hoursOf_147 : decode cX12_hoursOf 147 = .ok (.iload 8, 2) := by decide +kernel
theorem dX12_hoursOf_149 : decode cX12_hoursOf 149 = .ok (.iconst 4, 1) := by decide +kernel
theorem dX12_hoursOf_150 : decode cX12_hoursOf 150 = .ok (.idiv, 1) := by decide +kernel
theorem dX12_hoursOf_151 : decode cX12_hoursOf 151 = .ok (.iload 8, 2) := by decide +kernel
theorem dX12_hoursOf_153 : decode cX12_hoursOf 153 = .ok (.iconst 4, 1) := by decide +kernel
theorem dX12_hoursOf_154 : decode cX12_hoursOf 154 = .ok (.irem, 1) := by decide +kernel
theorem dX12_hoursOf_155 : decode cX12_hoursOf 155 = .ok (.invokevirtual 283, 3) := by decide +kernel
theorem dX12_hoursOf_158 : decode cX12_hoursOf 158 = .ok (.lshl, 1) := by decide +kernel
theorem dX12_hoursOf_159 : decode cX12_hoursOf 159 = .ok (.goto 4, 3) := by decide +kernel
theorem dX12_hoursOf_162 : decode cX12_hoursOf 162 = .ok (.lconst 0, 1) := by decide +kernel
theorem dX12_hoursOf_163 : decode cX12_hoursOf 163 = .ok (.lor, 1) := by decide +kernel
theorem dX12_hoursOf_164 : decode cX12_hoursOf 164 = .ok (.lstore 6, 2) := by decide +kernel
theorem dX12_hoursOf_166 : decode cX12_hoursOf 166 = .ok (.iinc 8 1, 3) := by decide +kernel
theorem dX12_hoursOf_169 : decode cX12_hoursOf 169 = .ok (.goto (-85), 3) := by decide +kernel
theorem dX12_hoursOf_172 : decode cX12_hoursOf 172 = .ok (.lload 6, 2) := by decide +kernel
theorem dX12_hoursOf_174 : decode cX12_hoursOf 174 = .ok (.lstore_n 2, 1) := by decide +kernel
theorem dX12_hoursOf_175 : decode cX12_hoursOf 175 = .ok (.iinc 4 1, 3) := by decide +kernel
theorem dX12_hoursOf_178 : decode cX12_hoursOf 178 = .ok (.goto (-163), 3) := by decide +kernel
theorem dX12_hoursOf_181 : decode cX12_hoursOf 181 = .ok (.bipush 61, 2) := by decide +kernel
theorem dX12_hoursOf_183 : decode cX12_hoursOf 183 = .ok (.ireturn, 1) := by decide +kernel
theorem dX12_over_0 : decode cX12_over 0 = .ok (.aload_n 0, 1) := by decide +kernel
theorem dX12_over_1 : decode cX12_over 1 = .ok (.iconst 0, 1) := by decide +kernel
theorem dX12_over_2 : decode cX12_over 2 = .ok (.putfield 3, 3) := by decide +kernel
theorem dX12_over_5 : decode cX12_over 5 = .ok (.aload_n 0, 1) := by decide +kernel
theorem dX12_over_6 : decode cX12_over 6 = .ok (.iload_n 1, 1) := by decide +kernel
theorem dX12_over_7 : decode cX12_over 7 = .ok (.invokevirtual 273, 3) := by decide +kernel
theorem dX12_over_10 : decode cX12_over 10 = .ok (.ifCond .ne 5, 3) := by decide +kernel
theorem dX12_over_13 : decode cX12_over 13 = .ok (.iconst (-1), 1) := by decide +kernel
theorem dX12_over_14 : decode cX12_over 14 = .ok (.ireturn, 1) := by decide +kernel
theorem dX12_over_15 : decode cX12_over 15 = .ok (.aload_n 0, 1) := by decide +kernel
theorem dX12_over_16 : decode cX12_over 16 = .ok (.iload_n 1, 1) := by decide +kernel
theorem dX12_over_17 : decode cX12_over 17 = .ok (.invokevirtual 410, 3) := by decide +kernel
theorem dX12_over_20 : decode cX12_over 20 = .ok (.istore_n 2, 1) := by decide +kernel
theorem dX12_over_21 : decode cX12_over 21 = .ok (.iload_n 2, 1) := by decide +kernel
theorem dX12_over_22 : decode cX12_over 22 = .ok (.bipush 60, 2) := by decide +kernel
theorem dX12_over_24 : decode cX12_over 24 = .ok (.if_icmp .le 8, 3) := by decide +kernel
theorem dX12_over_27 : decode cX12_over 27 = .ok (.bipush (-2), 2) := by decide +kernel
theorem dX12_over_29 : decode cX12_over 29 = .ok (.goto 4, 3) := by decide +kernel
theorem dX12_over_32 : decode cX12_over 32 = .ok (.iload_n 2, 1) := by decide +kernel
theorem dX12_over_33 : decode cX12_over 33 = .ok (.ireturn, 1) := by decide +kernel
theorem dX12_kind_0 : decode cX12_kind 0 = .ok (.aload_n 0, 1) := by decide +kernel
theorem dX12_kind_1 : decode cX12_kind 1 = .ok (.iconst 0, 1) := by decide +kernel
theorem dX12_kind_2 : decode cX12_kind 2 = .ok (.putfield 3, 3) := by decide +kernel
theorem dX12_kind_5 : decode cX12_kind 5 = .ok (.iload_n 1, 1) := by decide +kernel
theorem dX12_kind_6 : decode cX12_kind 6 = .ok (.i2l, 1) := by decide +kernel
theorem dX12_kind_7 : decode cX12_kind 7 = .ok (.lconst 0, 1) := by decide +kernel
theorem dX12_kind_8 : decode cX12_kind 8 = .ok (.ldc2_w 353, 3) := by decide +kernel
theorem dX12_kind_11 : decode cX12_kind 11 = .ok (.invokestatic 126, 3) := by decide +kernel
theorem dX12_kind_14 : decode cX12_kind 14 = .ok (.ifCond .eq 15, 3) := by decide +kernel
theorem dX12_kind_17 : decode cX12_kind 17 = .ok (.iload_n 2, 1) := by decide +kernel
theorem dX12_kind_18 : decode cX12_kind 18 = .ok (.i2l, 1) := by decide +kernel
theorem dX12_kind_19 : decode cX12_kind 19 = .ok (.lconst 0, 1) := by decide +kernel
theorem dX12_kind_20 : decode cX12_kind 20 = .ok (.ldc2_w 413, 3) := by decide +kernel
theorem dX12_kind_23 : decode cX12_kind 23 = .ok (.invokestatic 126, 3) := by decide +kernel
theorem dX12_kind_26 : decode cX12_kind 26 = .ok (.ifCond .ne 5, 3) := by decide +kernel
theorem dX12_kind_29 : decode cX12_kind 29 = .ok (.iconst (-1), 1) := by decide +kernel
theorem dX12_kind_30 : decode cX12_kind 30 = .ok (.ireturn, 1) := by decide +kernel
theorem dX12_kind_31 : decode cX12_kind 31 = .ok (.aload_n 0, 1) := by decide +kernel
theorem dX12_kind_32 : decode cX12_kind 32 = .ok (.iconst 0, 1) := by decide +kernel
theorem dX12_kind_33 : decode cX12_kind 33 = .ok (.putfield 15, 3) := by decide +kernel
theorem dX12_kind_36 : decode cX12_kind 36 = .ok (.aload_n 0, 1) := by decide +kernel
theorem dX12_kind_37 : decode cX12_kind 37 = .ok (.iload_n 2, 1) := by decide +kernel
theorem dX12_kind_38 : decode cX12_kind 38 = .ok (.aload_n 0, 1) := by decide +kernel
theorem dX12_kind_39 : decode cX12_kind 39 = .ok (.getfield 43, 3) := by decide +kernel
theorem dX12_kind_42 : decode cX12_kind 42 = .ok (.bipush 46, 2) := by decide +kernel
theorem dX12_kind_44 : decode cX12_kind 44 = .ok (.iaload, 1) := by decide +kernel
theorem dX12_kind_45 : decode cX12_kind 45 = .ok (.iload_n 1, 1) := by decide +kernel
theorem dX12_kind_46 : decode cX12_kind 46 = .ok (.iadd, 1) := by decide +kernel
theorem dX12_kind_47 : decode cX12_kind 47 = .ok (.invokestatic 302, 3) := by decide +kernel
theorem dX12_kind_50 : decode cX12_kind 50 = .ok (.i2l, 1) := by decide +kernel
theorem dX12_kind_51 : decode cX12_kind 51 = .ok (.invokevirtual 326, 3) := by decide +kernel
theorem dX12_kind_54 : decode cX12_kind 54 = .ok (.aload_n 0, 1) := by decide +kernel
theorem dX12_kind_55 : decode cX12_kind 55 = .ok (.getfield 43, 3) := by decide +kernel
theorem dX12_kind_58 : decode cX12_kind 58 = .ok (.bipush 46, 2) := by decide +kernel
theorem dX12_kind_60 : decode cX12_kind 60 = .ok (.iaload, 1) := by decide +kernel
theorem dX12_kind_61 : decode cX12_kind 61 = .ok (.iload_n 1, 1) := by decide +kernel
theorem dX12_kind_62 : decode cX12_kind 62 = .ok (.iadd, 1) := by decide +kernel
theorem dX12_kind_63 : decode cX12_kind 63 = .ok (.iconst 4, 1) := by decide +kernel
theorem dX12_kind_64 : decode cX12_kind 64 = .ok (.irem, 1) := by decide +kernel
theorem dX12_kind_65 : decode cX12_kind 65 = .ok (.ireturn, 1) := by decide +kernel
theorem dX12_quiet_0 : decode cX12_quiet 0 = .ok (.aload_n 0, 1) := by decide +kernel
theorem dX12_quiet_1 : decode cX12_quiet 1 = .ok (.iconst 0, 1) := by decide +kernel
theorem dX12_quiet_2 : decode cX12_quiet 2 = .ok (.putfield 3, 3) := by decide +kernel
theorem dX12_quiet_5 : decode cX12_quiet 5 = .ok (.iload_n 1, 1) := by decide +kernel
theorem dX12_quiet_6 : decode cX12_quiet 6 = .ok (.i2l, 1) := by decide +kernel
theorem dX12_quiet_7 : decode cX12_quiet 7 = .ok (.lconst 0, 1) := by decide +kernel
theorem dX12_quiet_8 : decode cX12_quiet 8 = .ok (.ldc2_w 353, 3) := by decide +kernel
theorem dX12_quiet_11 : decode cX12_quiet 11 = .ok (.invokestatic 126, 3) := by decide +kernel
theorem dX12_quiet_14 : decode cX12_quiet 14 = .ok (.ifCond .ne 5, 3) := by decide +kernel
theorem dX12_quiet_17 : decode cX12_quiet 17 = .ok (.iconst (-1), 1) := by decide +kernel
theorem dX12_quiet_18 : decode cX12_quiet 18 = .ok (.ireturn, 1) := by decide +kernel
theorem dX12_quiet_19 : decode cX12_quiet 19 = .ok (.sipush 9999, 3) := by decide +kernel
theorem dX12_quiet_22 : decode cX12_quiet 22 = .ok (.istore_n 2, 1) := by decide +kernel
theorem dX12_quiet_23 : decode cX12_quiet 23 = .ok (.iload_n 2, 1) := by decide +kernel
theorem dX12_quiet_24 : decode cX12_quiet 24 = .ok (.aload_n 0, 1) := by decide +kernel
theorem dX12_quiet_25 : decode cX12_quiet 25 = .ok (.getfield 43, 3) := by decide +kernel
theorem dX12_quiet_28 : decode cX12_quiet 28 = .ok (.bipush 46, 2) := by decide +kernel
theorem dX12_quiet_30 : decode cX12_quiet 30 = .ok (.iaload, 1) := by decide +kernel
theorem dX12_quiet_31 : decode cX12_quiet 31 = .ok (.iload_n 1, 1) := by decide +kernel
theorem dX12_quiet_32 : decode cX12_quiet 32 = .ok (.iadd, 1) := by decide +kernel
theorem dX12_quiet_33 : decode cX12_quiet 33 = .ok (.invokestatic 302, 3) := by decide +kernel
theorem dX12_quiet_36 : decode cX12_quiet 36 = .ok (.aload_n 0, 1) := by decide +kernel
theorem dX12_quiet_37 : decode cX12_quiet 37 = .ok (.getfield 40, 3) := by decide +kernel
theorem dX12_quiet_40 : decode cX12_quiet 40 = .ok (.iconst 1, 1) := by decide +kernel
theorem dX12_quiet_41 : decode cX12_quiet 41 = .ok (.iaload, 1) := by decide +kernel
theorem dX12_quiet_42 : decode cX12_quiet 42 = .ok (.if_icmp .le 9, 3) := by decide +kernel
theorem dX12_quiet_45 : decode cX12_quiet 45 = .ok (.iinc 2 (-1), 3) := by decide +kernel
theorem dX12_quiet_48 : decode cX12_quiet 48 = .ok (.goto (-25), 3) := by decide +kernel
theorem dX12_quiet_51 : decode cX12_quiet 51 = .ok (.iload_n 2, 1) := by decide +kernel
theorem dX12_quiet_52 : decode cX12_quiet 52 = .ok (.ireturn, 1) := by decide +kernel
theorem dX12_night_0 : decode cX12_night 0 = .ok (.aload_n 0, 1) := by decide +kernel
theorem dX12_night_1 : decode cX12_night 1 = .ok (.iconst 0, 1) := by decide +kernel
theorem dX12_night_2 : decode cX12_night 2 = .ok (.putfield 3, 3) := by decide +kernel
theorem dX12_night_5 : decode cX12_night 5 = .ok (.aload_n 0, 1) := by decide +kernel
theorem dX12_night_6 : decode cX12_night 6 = .ok (.iload_n 1, 1) := by decide +kernel
theorem dX12_night_7 : decode cX12_night 7 = .ok (.iload_n 2, 1) := by decide +kernel
theorem dX12_night_8 : decode cX12_night 8 = .ok (.iload_n 3, 1) := by decide +kernel
theorem dX12_night_9 : decode cX12_night 9 = .ok (.invokevirtual 355, 3) := by decide +kernel
theorem dX12_night_12 : decode cX12_night 12 = .ok (.ifCond .ne 5, 3) := by decide +kernel
theorem dX12_night_15 : decode cX12_night 15 = .ok (.iconst (-1), 1) := by decide +kernel
theorem dX12_night_16 : decode cX12_night 16 = .ok (.ireturn, 1) := by decide +kernel
theorem dX12_night_17 : decode cX12_night 17 = .ok (.bipush (-2), 2) := by decide +kernel
theorem dX12_night_19 : decode cX12_night 19 = .ok (.istore 4, 2) := by decide +kernel
theorem dX12_night_21 : decode cX12_night 21 = .ok (.ldc_w 349, 3) := by decide +kernel
theorem dX12_night_24 : decode cX12_night 24 = .ok (.istore 5, 2) := by decide +kernel
theorem dX12_night_26 : decode cX12_night 26 = .ok (.iconst 0, 1) := by decide +kernel
theorem dX12_night_27 : decode cX12_night 27 = .ok (.istore 6, 2) := by decide +kernel
theorem dX12_night_29 : decode cX12_night 29 = .ok (.iload 6, 2) := by decide +kernel
theorem dX12_night_31 : decode cX12_night 31 = .ok (.iconst 4, 1) := by decide +kernel
theorem dX12_night_32 : decode cX12_night 32 = .ok (.if_icmp .ge 173, 3) := by decide +kernel
theorem dX12_night_35 : decode cX12_night 35 = .ok (.aload_n 0, 1) := by decide +kernel
theorem dX12_night_36 : decode cX12_night 36 = .ok (.aload_n 0, 1) := by decide +kernel
theorem dX12_night_37 : decode cX12_night 37 = .ok (.getfield 43, 3) := by decide +kernel
theorem dX12_night_40 : decode cX12_night 40 = .ok (.iload_n 1, 1) := by decide +kernel
theorem dX12_night_41 : decode cX12_night 41 = .ok (.aload_n 0, 1) := by decide +kernel
theorem dX12_night_42 : decode cX12_night 42 = .ok (.getfield 43, 3) := by decide +kernel
theorem dX12_night_45 : decode cX12_night 45 = .ok (.bipush 46, 2) := by decide +kernel
theorem dX12_night_47 : decode cX12_night 47 = .ok (.iaload, 1) := by decide +kernel
theorem dX12_night_48 : decode cX12_night 48 = .ok (.iload 6, 2) := by decide +kernel
theorem dX12_night_50 : decode cX12_night 50 = .ok (.iadd, 1) := by decide +kernel
theorem dX12_night_51 : decode cX12_night 51 = .ok (.iconst 0, 1) := by decide +kernel
theorem dX12_night_52 : decode cX12_night 52 = .ok (.invokevirtual 359, 3) := by decide +kernel
theorem dX12_night_55 : decode cX12_night 55 = .ok (.aload_n 0, 1) := by decide +kernel
theorem dX12_night_56 : decode cX12_night 56 = .ok (.iload_n 3, 1) := by decide +kernel
theorem dX12_night_57 : decode cX12_night 57 = .ok (.iconst 1, 1) := by decide +kernel
theorem dX12_night_58 : decode cX12_night 58 = .ok (.invokevirtual 363, 3) := by decide +kernel
theorem dX12_night_61 : decode cX12_night 61 = .ok (.aload_n 0, 1) := by decide +kernel
theorem dX12_night_62 : decode cX12_night 62 = .ok (.iload_n 2, 1) := by decide +kernel
theorem dX12_night_63 : decode cX12_night 63 = .ok (.iload_n 3, 1) := by decide +kernel
theorem dX12_night_64 : decode cX12_night 64 = .ok (.invokevirtual 367, 3) := by decide +kernel
theorem dX12_night_67 : decode cX12_night 67 = .ok (.ifCond .ne 15, 3) := by decide +kernel
theorem dX12_night_70 : decode cX12_night 70 = .ok (.aload_n 0, 1) := by decide +kernel
theorem dX12_night_71 : decode cX12_night 71 = .ok (.getfield 82, 3) := by decide +kernel
theorem dX12_night_74 : decode cX12_night 74 = .ok (.iload_n 2, 1) := by decide +kernel
theorem dX12_night_75 : decode cX12_night 75 = .ok (.iaload, 1) := by decide +kernel
theorem dX12_night_76 : decode cX12_night 76 = .ok (.ldc_w 349, 3) := by decide +kernel
theorem dX12_night_79 : decode cX12_night 79 = .ok (.if_icmp .lt 6, 3) := by decide +kernel
theorem dX12_night_82 : decode cX12_night 82 = .ok (.bipush (-2), 2) := by decide +kernel
theorem dX12_night_84 : decode cX12_night 84 = .ok (.ireturn, 1) := by decide +kernel
theorem dX12_night_85 : decode cX12_night 85 = .ok (.iconst 0, 1) := by decide +kernel
theorem dX12_night_86 : decode cX12_night 86 = .ok (.istore 7, 2) := by decide +kernel
theorem dX12_night_88 : decode cX12_night 88 = .ok (.iload_n 2, 1) := by decide +kernel
theorem dX12_night_89 : decode cX12_night 89 = .ok (.istore 8, 2) := by decide +kernel
theorem dX12_night_91 : decode cX12_night 91 = .ok (.iload 8, 2) := by decide +kernel
theorem dX12_night_93 : decode cX12_night 93 = .ok (.iload_n 3, 1) := by decide +kernel
theorem dX12_night_94 : decode cX12_night 94 = .ok (.if_icmp .eq 80, 3) := by decide +kernel
theorem dX12_night_97 : decode cX12_night 97 = .ok (.aload_n 0, 1) := by decide +kernel
theorem dX12_night_98 : decode cX12_night 98 = .ok (.iload 8, 2) := by decide +kernel
theorem dX12_night_100 : decode cX12_night 100 = .ok (.invokevirtual 374, 3) := by decide +kernel
theorem dX12_night_103 : decode cX12_night 103 = .ok (.istore 9, 2) := by decide +kernel
theorem dX12_night_105 : decode cX12_night 105 = .ok (.iconst 0, 1) := by decide +kernel
theorem dX12_night_106 : decode cX12_night 106 = .ok (.istore 10, 2) := by decide +kernel
theorem dX12_night_108 : decode cX12_night 108 = .ok (.iload 10, 2) := by decide +kernel
theorem dX12_night_110 : decode cX12_night 110 = .ok (.iconst 4, 1) := by decide +kernel
theorem dX12_night_111 : decode cX12_night 111 = .ok (.if_icmp .ge 56, 3) := by decide +kernel
theorem dX12_night_114 : decode cX12_night 114 = .ok (.iload 7, 2) := by decide +kernel
theorem dX12_night_116 : decode cX12_night 116 = .ok (.aload_n 0, 1) := by decide +kernel
theorem dX12_night_117 : decode cX12_night 117 = .ok (.iload 8, 2) := by decide +kernel
theorem dX12_night_119 : decode cX12_night 119 = .ok (.iload 10, 2) := by decide +kernel
theorem dX12_night_121 : decode cX12_night 121 = .ok (.invokevirtual 283, 3) := by decide +kernel
theorem dX12_night_124 : decode cX12_night 124 = .ok (.iload 9, 2) := by decide +kernel
theorem dX12_night_126 : decode cX12_night 126 = .ok (.if_icmp .ne 31, 3) := by decide +kernel
theorem dX12_night_129 : decode cX12_night 129 = .ok (.aload_n 0, 1) := by decide +kernel
theorem dX12_night_130 : decode cX12_night 130 = .ok (.getfield 88, 3) := by decide +kernel
theorem dX12_night_133 : decode cX12_night 133 = .ok (.iconst 4, 1) := by decide +kernel
theorem dX12_night_134 : decode cX12_night 134 = .ok (.iload 8, 2) := by decide +kernel
theorem dX12_night_136 : decode cX12_night 136 = .ok (.imul, 1) := by decide +kernel
theorem dX12_night_137 : decode cX12_night 137 = .ok (.iload 10, 2) := by decide +kernel
theorem dX12_night_139 : decode cX12_night 139 = .ok (.iadd, 1) := by decide +kernel
theorem dX12_night_140 : decode cX12_night 140 = .ok (.iaload, 1) := by decide +kernel
theorem dX12_night_141 : decode cX12_night 141 = .ok (.aload_n 0, 1) := by decide +kernel
theorem dX12_night_142 : decode cX12_night 142 = .ok (.getfield 43, 3) := by decide +kernel
theorem dX12_night_145 : decode cX12_night 145 = .ok (.bipush 46, 2) := by decide +kernel
theorem dX12_night_147 : decode cX12_night 147 = .ok (.iaload, 1) := by decide +kernel
theorem dX12_night_148 : decode cX12_night 148 = .ok (.iload 6, 2) := by decide +kernel
theorem dX12_night_150 : decode cX12_night 150 = .ok (.iadd, 1) := by decide +kernel
theorem dX12_night_151 : decode cX12_night 151 = .ok (.invokestatic 302, 3) := by decide +kernel
theorem dX12_night_154 : decode cX12_night 154 = .ok (.goto 4, 3) := by decide +kernel
theorem dX12_night_157 : decode cX12_night 157 = .ok (.iconst 0, 1) := by decide +kernel
theorem dX12_night_158 : decode cX12_night 158 = .ok (.iadd, 1) := by decide +kernel
theorem dX12_night_159 : decode cX12_night 159 = .ok (.istore 7, 2) := by decide +kernel
theorem dX12_night_161 : decode cX12_night 161 = .ok (.iinc 10 1, 3) := by decide +kernel
theorem dX12_night_164 : decode cX12_night 164 = .ok (.goto (-56), 3) := by decide +kernel
theorem dX12_night_167 : decode cX12_night 167 = .ok (.iload 9, 2) := by decide +kernel
theorem dX12_night_169 : decode cX12_night 169 = .ok (.istore 8, 2) := by decide +kernel
theorem dX12_night_171 : decode cX12_night 171 = .ok (.goto (-80), 3) := by decide +kernel
theorem dX12_night_174 : decode cX12_night 174 = .ok (.iload 7, 2) := by decide +kernel
theorem dX12_night_176 : decode cX12_night 176 = .ok (.iload 5, 2) := by decide +kernel
theorem dX12_night_178 : decode cX12_night 178 = .ok (.if_icmp .ge 8, 3) := by decide +kernel
theorem dX12_night_181 : decode cX12_night 181 = .ok (.iload 6, 2) := by decide +kernel
theorem dX12_night_183 : decode cX12_night 183 = .ok (.goto 5, 3) := by decide +kernel
theorem dX12_night_186 : decode cX12_night 186 = .ok (.iload 4, 2) := by decide +kernel
theorem dX12_night_188 : decode cX12_night 188 = .ok (.istore 4, 2) := by decide +kernel
theorem dX12_night_190 : decode cX12_night 190 = .ok (.iload 5, 2) := by decide +kernel
theorem dX12_night_192 : decode cX12_night 192 = .ok (.iload 7, 2) := by decide +kernel
theorem dX12_night_194 : decode cX12_night 194 = .ok (.invokestatic 142, 3) := by decide +kernel
theorem dX12_night_197 : decode cX12_night 197 = .ok (.istore 5, 2) := by decide +kernel
theorem dX12_night_199 : decode cX12_night 199 = .ok (.iinc 6 1, 3) := by decide +kernel
theorem dX12_night_202 : decode cX12_night 202 = .ok (.goto (-173), 3) := by decide +kernel
theorem dX12_night_205 : decode cX12_night 205 = .ok (.aload_n 0, 1) := by decide +kernel
theorem dX12_night_206 : decode cX12_night 206 = .ok (.iconst 0, 1) := by decide +kernel
theorem dX12_night_207 : decode cX12_night 207 = .ok (.putfield 15, 3) := by decide +kernel
theorem dX12_night_210 : decode cX12_night 210 = .ok (.aload_n 0, 1) := by decide +kernel
theorem dX12_night_211 : decode cX12_night 211 = .ok (.iload 5, 2) := by decide +kernel
theorem dX12_night_213 : decode cX12_night 213 = .ok (.i2l, 1) := by decide +kernel
theorem dX12_night_214 : decode cX12_night 214 = .ok (.invokevirtual 326, 3) := by decide +kernel
theorem dX12_night_217 : decode cX12_night 217 = .ok (.iload 4, 2) := by decide +kernel
theorem dX12_night_219 : decode cX12_night 219 = .ok (.ireturn, 1) := by decide +kernel
theorem dX12_needs_0 : decode cX12_needs 0 = .ok (.iload_n 2, 1) := by decide +kernel
theorem dX12_needs_1 : decode cX12_needs 1 = .ok (.aload_n 0, 1) := by decide +kernel
theorem dX12_needs_2 : decode cX12_needs 2 = .ok (.getfield 91, 3) := by decide +kernel
theorem dX12_needs_5 : decode cX12_needs 5 = .ok (.iload_n 1, 1) := by decide +kernel
theorem dX12_needs_6 : decode cX12_needs 6 = .ok (.iaload, 1) := by decide +kernel
theorem dX12_needs_7 : decode cX12_needs 7 = .ok (.imul, 1) := by decide +kernel
theorem dX12_needs_8 : decode cX12_needs 8 = .ok (.bipush 99, 2) := by decide +kernel
theorem dX12_needs_10 : decode cX12_needs 10 = .ok (.iadd, 1) := by decide +kernel
theorem dX12_needs_11 : decode cX12_needs 11 = .ok (.bipush 100, 2) := by decide +kernel
theorem dX12_needs_13 : decode cX12_needs 13 = .ok (.idiv, 1) := by decide +kernel
theorem dX12_needs_14 : decode cX12_needs 14 = .ok (.ireturn, 1) := by decide +kernel
theorem dX12_canHold_0 : decode cX12_canHold 0 = .ok (.iconst 0, 1) := by decide +kernel
theorem dX12_canHold_1 : decode cX12_canHold 1 = .ok (.istore_n 3, 1) := by decide +kernel
theorem dX12_canHold_2 : decode cX12_canHold 2 = .ok (.iconst 0, 1) := by decide +kernel
theorem dX12_canHold_3 : decode cX12_canHold 3 = .ok (.istore 4, 2) := by decide +kernel
theorem dX12_canHold_5 : decode cX12_canHold 5 = .ok (.iload 4, 2) := by decide +kernel
theorem dX12_canHold_7 : decode cX12_canHold 7 = .ok (.aload_n 0, 1) := by decide +kernel
theorem dX12_canHold_8 : decode cX12_canHold 8 = .ok (.getfield 415, 3) := by decide +kernel
theorem dX12_canHold_11 : decode cX12_canHold 11 = .ok (.if_icmp .ge 19, 3) := by decide +kernel
theorem dX12_canHold_14 : decode cX12_canHold 14 = .ok (.iload_n 3, 1) := by decide +kernel
theorem dX12_canHold_15 : decode cX12_canHold 15 = .ok (.aload_n 0, 1) := by decide +kernel
theorem dX12_canHold_16 : decode cX12_canHold 16 = .ok (.iload 4, 2) := by decide +kernel
theorem dX12_canHold_18 : decode cX12_canHold 18 = .ok (.iload_n 2, 1) := by decide +kernel
theorem dX12_canHold_19 : decode cX12_canHold 19 = .ok (.invokevirtual 418, 3) := by decide +kernel
theorem dX12_canHold_22 : decode cX12_canHold 22 = .ok (.iadd, 1) := by decide +kernel
theorem dX12_canHold_23 : decode cX12_canHold 23 = .ok (.istore_n 3, 1) := by decide +kernel
theorem dX12_canHold_24 : decode cX12_canHold 24 = .ok (.iinc 4 1, 3) := by decide +kernel
theorem dX12_canHold_27 : decode cX12_canHold 27 = .ok (.goto (-22), 3) := by decide +kernel
theorem dX12_canHold_30 : decode cX12_canHold 30 = .ok (.iload_n 3, 1) := by decide +kernel
theorem dX12_canHold_31 : decode cX12_canHold 31 = .ok (.iload_n 1, 1) := by decide +kernel
theorem dX12_canHold_32 : decode cX12_canHold 32 = .ok (.if_icmp .gt 7, 3) := by decide +kernel
theorem dX12_canHold_35 : decode cX12_canHold 35 = .ok (.iconst 1, 1) := by decide +kernel
theorem dX12_canHold_36 : decode cX12_canHold 36 = .ok (.goto 4, 3) := by decide +kernel
theorem dX12_canHold_39 : decode cX12_canHold 39 = .ok (.iconst 0, 1) := by decide +kernel
theorem dX12_canHold_40 : decode cX12_canHold 40 = .ok (.ireturn, 1) := by decide +kernel
theorem dX12_walls_0 : decode cX12_walls 0 = .ok (.aload_n 0, 1) := by decide +kernel
theorem dX12_walls_1 : decode cX12_walls 1 = .ok (.iconst 0, 1) := by decide +kernel
theorem dX12_walls_2 : decode cX12_walls 2 = .ok (.putfield 3, 3) := by decide +kernel
theorem dX12_walls_5 : decode cX12_walls 5 = .ok (.aload_n 0, 1) := by decide +kernel
theorem dX12_walls_6 : decode cX12_walls 6 = .ok (.bipush 80, 2) := by decide +kernel
theorem dX12_walls_8 : decode cX12_walls 8 = .ok (.invokevirtual 185, 3) := by decide +kernel
theorem dX12_walls_11 : decode cX12_walls 11 = .ok (.pop, 1) := by decide +kernel
theorem dX12_walls_12 : decode cX12_walls 12 = .ok (.iload_n 1, 1) := by decide +kernel
theorem dX12_walls_13 : decode cX12_walls 13 = .ok (.i2l, 1) := by decide +kernel
theorem dX12_walls_14 : decode cX12_walls 14 = .ok (.lconst 0, 1) := by decide +kernel
theorem dX12_walls_15 : decode cX12_walls 15 = .ok (.ldc2_w 353, 3) := by decide +kernel
theorem dX12_walls_18 : decode cX12_walls 18 = .ok (.invokestatic 126, 3) := by decide +kernel
theorem dX12_walls_21 : decode cX12_walls 21 = .ok (.ifCond .ne 6, 3) := by decide +kernel
theorem dX12_walls_24 : decode cX12_walls 24 = .ok (.bipush (-100), 2) := by decide +kernel
theorem dX12_walls_26 : decode cX12_walls 26 = .ok (.ireturn, 1) := by decide +kernel
theorem dX12_walls_27 : decode cX12_walls 27 = .ok (.aload_n 0, 1) := by decide +kernel
theorem dX12_walls_28 : decode cX12_walls 28 = .ok (.iconst 0, 1) := by decide +kernel
theorem dX12_walls_29 : decode cX12_walls 29 = .ok (.putfield 415, 3) := by decide +kernel
theorem dX12_walls_32 : decode cX12_walls 32 = .ok (.iconst 1, 1) := by decide +kernel
theorem dX12_walls_33 : decode cX12_walls 33 = .ok (.istore_n 2, 1) := by decide +kernel
theorem dX12_walls_34 : decode cX12_walls 34 = .ok (.iload_n 2, 1) := by decide +kernel
theorem dX12_walls_35 : decode cX12_walls 35 = .ok (.ifCond .eq 75, 3) := by decide +kernel
theorem dX12_walls_38 : decode cX12_walls 38 = .ok (.aload_n 0, 1) := by decide +kernel
theorem dX12_walls_39 : decode cX12_walls 39 = .ok (.getfield 415, 3) := by decide +kernel
theorem dX12_walls_42 : decode cX12_walls 42 = .ok (.iconst 4, 1) := by decide +kernel
theorem dX12_walls_43 : decode cX12_walls 43 = .ok (.if_icmp .ge 67, 3) := by decide +kernel
theorem dX12_walls_46 : decode cX12_walls 46 = .ok (.aload_n 0, 1) := by decide +kernel
theorem dX12_walls_47 : decode cX12_walls 47 = .ok (.getfield 415, 3) := by decide +kernel
theorem dX12_walls_50 : decode cX12_walls 50 = .ok (.ifCond .eq 14, 3) := by decide +kernel
theorem dX12_walls_53 : decode cX12_walls 53 = .ok (.aload_n 0, 1) := by decide +kernel
theorem dX12_walls_54 : decode cX12_walls 54 = .ok (.getfield 136, 3) := by decide +kernel
theorem dX12_walls_57 : decode cX12_walls 57 = .ok (.aload_n 0, 1) := by decide +kernel
theorem dX12_walls_58 : decode cX12_walls 58 = .ok (.getfield 148, 3) := by decide +kernel
theorem dX12_walls_61 : decode cX12_walls 61 = .ok (.if_icmp .ge 49, 3) := by decide +kernel
theorem dX12_walls_64 : decode cX12_walls 64 = .ok (.aload_n 0, 1) := by decide +kernel
theorem dX12_walls_65 : decode cX12_walls 65 = .ok (.bipush 48, 2) := by decide +kernel
theorem dX12_walls_67 : decode cX12_walls 67 = .ok (.iconst 1, 1) := by decide +kernel
theorem dX12_walls_68 : decode cX12_walls 68 = .ok (.bipush 9, 2) := by decide +kernel
theorem dX12_walls_70 : decode cX12_walls 70 = .ok (.invokevirtual 335, 3) := by decide +kernel
theorem dX12_walls_73 : decode cX12_walls 73 = .ok (.istore_n 3, 1) := by decide +kernel
theorem dX12_walls_74 : decode cX12_walls 74 = .ok (.iload_n 3, 1) := by decide +kernel
theorem dX12_walls_75 : decode cX12_walls 75 = .ok (.ifCond .le 7, 3) := by decide +kernel
theorem dX12_walls_78 : decode cX12_walls 78 = .ok (.iconst 1, 1) := by decide +kernel
theorem dX12_walls_79 : decode cX12_walls 79 = .ok (.goto 4, 3) := by decide +kernel
theorem dX12_walls_82 : decode cX12_walls 82 = .ok (.iconst 0, 1) := by decide +kernel
theorem dX12_walls_83 : decode cX12_walls 83 = .ok (.istore_n 2, 1) := by decide +kernel
theorem dX12_walls_84 : decode cX12_walls 84 = .ok (.aload_n 0, 1) := by decide +kernel
theorem dX12_walls_85 : decode cX12_walls 85 = .ok (.getfield 91, 3) := by decide +kernel
theorem dX12_walls_88 : decode cX12_walls 88 = .ok (.aload_n 0, 1) := by decide +kernel
theorem dX12_walls_89 : decode cX12_walls 89 = .ok (.getfield 415, 3) := by decide +kernel
theorem dX12_walls_92 : decode cX12_walls 92 = .ok (.iload_n 3, 1) := by decide +kernel
theorem dX12_walls_93 : decode cX12_walls 93 = .ok (.iastore, 1) := by decide +kernel
theorem dX12_walls_94 : decode cX12_walls 94 = .ok (.aload_n 0, 1) := by decide +kernel
theorem dX12_walls_95 : decode cX12_walls 95 = .ok (.dup, 1) := by decide +kernel
theorem dX12_walls_96 : decode cX12_walls 96 = .ok (.getfield 415, 3) := by decide +kernel
theorem dX12_walls_99 : decode cX12_walls 99 = .ok (.iload_n 2, 1) := by decide +kernel
theorem dX12_walls_100 : decode cX12_walls 100 = .ok (.invokestatic 151, 3) := by decide +kernel
theorem dX12_walls_103 : decode cX12_walls 103 = .ok (.iadd, 1) := by decide +kernel
theorem dX12_walls_104 : decode cX12_walls 104 = .ok (.putfield 415, 3) := by decide +kernel
theorem dX12_walls_107 : decode cX12_walls 107 = .ok (.goto (-73), 3) := by decide +kernel
theorem dX12_walls_110 : decode cX12_walls 110 = .ok (.iload_n 2, 1) := by decide +kernel
theorem dX12_walls_111 : decode cX12_walls 111 = .ok (.ifCond .eq 14, 3) := by decide +kernel
theorem dX12_walls_114 : decode cX12_walls 114 = .ok (.aload_n 0, 1) := by decide +kernel
theorem dX12_walls_115 : decode cX12_walls 115 = .ok (.getfield 136, 3) := by decide +kernel
theorem dX12_walls_118 : decode cX12_walls 118 = .ok (.aload_n 0, 1) := by decide +kernel
theorem dX12_walls_119 : decode cX12_walls 119 = .ok (.getfield 148, 3) := by decide +kernel
theorem dX12_walls_122 : decode cX12_walls 122 = .ok (.if_icmp .ge 10, 3) := by decide +kernel
theorem dX12_walls_125 : decode cX12_walls 125 = .ok (.iconst (-1), 1) := by decide +kernel
theorem dX12_walls_126 : decode cX12_walls 126 = .ok (.aload_n 0, 1) := by decide +kernel
theorem dX12_walls_127 : decode cX12_walls 127 = .ok (.getfield 136, 3) := by decide +kernel
theorem dX12_walls_130 : decode cX12_walls 130 = .ok (.isub, 1) := by decide +kernel
theorem dX12_walls_131 : decode cX12_walls 131 = .ok (.ireturn, 1) := by decide +kernel
theorem dX12_walls_132 : decode cX12_walls 132 = .ok (.iconst 0, 1) := by decide +kernel
theorem dX12_walls_133 : decode cX12_walls 133 = .ok (.istore_n 3, 1) := by decide +kernel
theorem dX12_walls_134 : decode cX12_walls 134 = .ok (.aload_n 0, 1) := by decide +kernel
theorem dX12_walls_135 : decode cX12_walls 135 = .ok (.iload_n 1, 1) := by decide +kernel
theorem dX12_walls_136 : decode cX12_walls 136 = .ok (.iload_n 3, 1) := by decide +kernel
theorem dX12_walls_137 : decode cX12_walls 137 = .ok (.iconst 1, 1) := by decide +kernel
theorem dX12_walls_138 : decode cX12_walls 138 = .ok (.iadd, 1) := by decide +kernel
theorem dX12_walls_139 : decode cX12_walls 139 = .ok (.invokevirtual 421, 3) := by decide +kernel
theorem dX12_walls_142 : decode cX12_walls 142 = .ok (.ifCond .eq 9, 3) := by decide +kernel
theorem dX12_walls_145 : decode cX12_walls 145 = .ok (.iinc 3 1, 3) := by decide +kernel
theorem dX12_walls_148 : decode cX12_walls 148 = .ok (.goto (-14), 3) := by decide +kernel
theorem dX12_walls_151 : decode cX12_walls 151 = .ok (.aload_n 0, 1) := by decide +kernel
theorem dX12_walls_152 : decode cX12_walls 152 = .ok (.iconst 0, 1) := by decide +kernel
theorem dX12_walls_153 : decode cX12_walls 153 = .ok (.putfield 15, 3) := by decide +kernel
theorem dX12_walls_156 : decode cX12_walls 156 = .ok (.iload_n 1, 1) := by decide +kernel
theorem dX12_walls_157 : decode cX12_walls 157 = .ok (.istore 4, 2) := by decide +kernel
theorem dX12_walls_159 : decode cX12_walls 159 = .ok (.iconst 0, 1) := by decide +kernel
theorem dX12_walls_160 : decode cX12_walls 160 = .ok (.istore 5, 2) := by decide +kernel
theorem dX12_walls_162 : decode cX12_walls 162 = .ok (.iload 5, 2) := by decide +kernel
theorem dX12_walls_164 : decode cX12_walls 164 = .ok (.aload_n 0, 1) := by decide +kernel
theorem dX12_walls_165 : decode cX12_walls 165 = .ok (.getfield 415, 3) := by decide +kernel
theorem dX12_walls_168 : decode cX12_walls 168 = .ok (.if_icmp .ge 48, 3) := by decide +kernel
theorem dX12_walls_171 : decode cX12_walls 171 = .ok (.iload 5, 2) := by decide +kernel
theorem dX12_walls_173 : decode cX12_walls 173 = .ok (.aload_n 0, 1) := by decide +kernel
theorem dX12_walls_174 : decode cX12_walls 174 = .ok (.getfield 415, 3) := by decide +kernel
theorem dX12_walls_177 : decode cX12_walls 177 = .ok (.iconst 1, 1) := by decide +kernel
theorem dX12_walls_178 : decode cX12_walls 178 = .ok (.isub, 1) := by decide +kernel
theorem dX12_walls_179 : decode cX12_walls 179 = .ok (.if_icmp .ne 8, 3) := by decide +kernel
theorem dX12_walls_182 : decode cX12_walls 182 = .ok (.iload 4, 2) := by decide +kernel
theorem dX12_walls_184 : decode cX12_walls 184 = .ok (.goto 10, 3) := by decide +kernel
theorem dX12_walls_187 : decode cX12_walls 187 = .ok (.aload_n 0, 1) := by decide +kernel
theorem dX12_walls_188 : decode cX12_walls 188 = .ok (.iload 5, 2) := by decide +kernel
theorem dX12_walls_190 : decode cX12_walls 190 = .ok (.iload_n 3, 1) := by decide +kernel
theorem dX12_walls_191 : decode cX12_walls 191 = .ok (.invokevirtual 418, 3) := by decide +kernel
theorem dX12_walls_194 : decode cX12_walls 194 = .ok (.istore 6, 2) := by decide +kernel
theorem dX12_walls_196 : decode cX12_walls 196 = .ok (.aload_n 0, 1) := by decide +kernel
theorem dX12_walls_197 : decode cX12_walls 197 = .ok (.iload 6, 2) := by decide +kernel
theorem dX12_walls_199 : decode cX12_walls 199 = .ok (.i2l, 1) := by decide +kernel
theorem dX12_walls_200 : decode cX12_walls 200 = .ok (.invokevirtual 326, 3) := by decide +kernel
theorem dX12_walls_203 : decode cX12_walls 203 = .ok (.iload 4, 2) := by decide +kernel
theorem dX12_walls_205 : decode cX12_walls 205 = .ok (.iload 6, 2) := by decide +kernel
theorem dX12_walls_207 : decode cX12_walls 207 = .ok (.isub, 1) := by decide +kernel
theorem dX12_walls_208 : decode cX12_walls 208 = .ok (.istore 4, 2) := by decide +kernel
theorem dX12_walls_210 : decode cX12_walls 210 = .ok (.iinc 5 1, 3) := by decide +kernel
theorem dX12_walls_213 : decode cX12_walls 213 = .ok (.goto (-51), 3) := by decide +kernel
theorem dX12_walls_216 : decode cX12_walls 216 = .ok (.iload_n 3, 1) := by decide +kernel
theorem dX12_walls_217 : decode cX12_walls 217 = .ok (.ireturn, 1) := by decide +kernel
theorem dX12_wonLess_0 : decode cX12_wonLess 0 = .ok (.iload_n 0, 1) := by decide +kernel
theorem dX12_wonLess_1 : decode cX12_wonLess 1 = .ok (.iload_n 1, 1) := by decide +kernel
theorem dX12_wonLess_2 : decode cX12_wonLess 2 = .ok (.if_icmp .le 7, 3) := by decide +kernel
theorem dX12_wonLess_5 : decode cX12_wonLess 5 = .ok (.iconst 1, 1) := by decide +kernel
theorem dX12_wonLess_6 : decode cX12_wonLess 6 = .ok (.goto 13, 3) := by decide +kernel
theorem dX12_wonLess_9 : decode cX12_wonLess 9 = .ok (.iload_n 0, 1) := by decide +kernel
theorem dX12_wonLess_10 : decode cX12_wonLess 10 = .ok (.iload_n 1, 1) := by decide +kernel
theorem dX12_wonLess_11 : decode cX12_wonLess 11 = .ok (.if_icmp .ge 7, 3) := by decide +kernel
theorem dX12_wonLess_14 : decode cX12_wonLess 14 = .ok (.iconst (-1), 1) := by decide +kernel
theorem dX12_wonLess_15 : decode cX12_wonLess 15 = .ok (.goto 4, 3) := by decide +kernel
theorem dX12_wonLess_18 : decode cX12_wonLess 18 = .ok (.iconst 0, 1) := by decide +kernel
theorem dX12_wonLess_19 : decode cX12_wonLess 19 = .ok (.ireturn, 1) := by decide +kernel
theorem dX12_storm_0 : decode cX12_storm 0 = .ok (.aload_n 0, 1) := by decide +kernel
theorem dX12_storm_1 : decode cX12_storm 1 = .ok (.iconst 0, 1) := by decide +kernel
theorem dX12_storm_2 : decode cX12_storm 2 = .ok (.putfield 3, 3) := by decide +kernel
theorem dX12_storm_5 : decode cX12_storm 5 = .ok (.iload_n 1, 1) := by decide +kernel
theorem dX12_storm_6 : decode cX12_storm 6 = .ok (.ifCond .lt 27, 3) := by decide +kernel
theorem dX12_storm_9 : decode cX12_storm 9 = .ok (.iload_n 2, 1) := by decide +kernel
theorem dX12_storm_10 : decode cX12_storm 10 = .ok (.ifCond .lt 23, 3) := by decide +kernel
theorem dX12_storm_13 : decode cX12_storm 13 = .ok (.iload_n 1, 1) := by decide +kernel
theorem dX12_storm_14 : decode cX12_storm 14 = .ok (.bipush 6, 2) := by decide +kernel
theorem dX12_storm_16 : decode cX12_storm 16 = .ok (.if_icmp .gt 17, 3) := by decide +kernel
theorem dX12_storm_19 : decode cX12_storm 19 = .ok (.iload_n 2, 1) := by decide +kernel
theorem dX12_storm_20 : decode cX12_storm 20 = .ok (.bipush 6, 2) := by decide +kernel
theorem dX12_storm_22 : decode cX12_storm 22 = .ok (.if_icmp .gt 11, 3) := by decide +kernel
theorem dX12_storm_25 : decode cX12_storm 25 = .ok (.iload_n 1, 1) := by decide +kernel
theorem dX12_storm_26 : decode cX12_storm 26 = .ok (.iload_n 2, 1) := by decide +kernel
theorem dX12_storm_27 : decode cX12_storm 27 = .ok (.iadd, 1) := by decide +kernel
theorem dX12_storm_28 : decode cX12_storm 28 = .ok (.bipush 6, 2) := by decide +kernel
theorem dX12_storm_30 : decode cX12_storm 30 = .ok (.if_icmp .le 5, 3) := by decide +kernel
theorem dX12_storm_33 : decode cX12_storm 33 = .ok (.iconst (-1), 1) := by decide +kernel
theorem dX12_storm_34 : decode cX12_storm 34 = .ok (.ireturn, 1) := by decide +kernel
theorem dX12_storm_35 : decode cX12_storm 35 = .ok (.iconst 0, 1) := by decide +kernel
theorem dX12_storm_36 : decode cX12_storm 36 = .ok (.istore_n 3, 1) := by decide +kernel
theorem dX12_storm_37 : decode cX12_storm 37 = .ok (.bipush (-4), 2) := by decide +kernel
theorem dX12_storm_39 : decode cX12_storm 39 = .ok (.istore 4, 2) := by decide +kernel
theorem dX12_storm_41 : decode cX12_storm 41 = .ok (.iconst 0, 1) := by decide +kernel
theorem dX12_storm_42 : decode cX12_storm 42 = .ok (.istore 5, 2) := by decide +kernel
theorem dX12_storm_44 : decode cX12_storm 44 = .ok (.iconst 0, 1) := by decide +kernel
theorem dX12_storm_45 : decode cX12_storm 45 = .ok (.istore 6, 2) := by decide +kernel
theorem dX12_storm_47 : decode cX12_storm 47 = .ok (.iconst 0, 1) := by decide +kernel
theorem dX12_storm_48 : decode cX12_storm 48 = .ok (.istore 7, 2) := by decide +kernel
theorem dX12_storm_50 : decode cX12_storm 50 = .ok (.iload 7, 2) := by decide +kernel
theorem dX12_storm_52 : decode cX12_storm 52 = .ok (.bipush 6, 2) := by decide +kernel
theorem dX12_storm_54 : decode cX12_storm 54 = .ok (.if_icmp .gt 100, 3) := by decide +kernel
theorem dX12_storm_57 : decode cX12_storm 57 = .ok (.iconst 0, 1) := by decide +kernel
theorem dX12_storm_58 : decode cX12_storm 58 = .ok (.istore 8, 2) := by decide +kernel
theorem dX12_storm_60 : decode cX12_storm 60 = .ok (.iload 7, 2) := by decide +kernel
theorem dX12_storm_62 : decode cX12_storm 62 = .ok (.iload 8, 2) := by decide +kernel
theorem dX12_storm_64 : decode cX12_storm 64 = .ok (.iadd, 1) := by decide +kernel
theorem dX12_storm_65 : decode cX12_storm 65 = .ok (.bipush 6, 2) := by decide +kernel
theorem dX12_storm_67 : decode cX12_storm 67 = .ok (.if_icmp .gt 81, 3) := by decide +kernel
theorem dX12_storm_70 : decode cX12_storm 70 = .ok (.iload 7, 2) := by decide +kernel
theorem dX12_storm_72 : decode cX12_storm 72 = .ok (.iload_n 1, 1) := by decide +kernel
theorem dX12_storm_73 : decode cX12_storm 73 = .ok (.invokestatic 424, 3) := by decide +kernel
theorem dX12_storm_76 : decode cX12_storm 76 = .ok (.iload 8, 2) := by decide +kernel
theorem dX12_storm_78 : decode cX12_storm 78 = .ok (.iload_n 2, 1) := by decide +kernel
theorem dX12_storm_79 : decode cX12_storm 79 = .ok (.invokestatic 424, 3) := by decide +kernel
theorem dX12_storm_82 : decode cX12_storm 82 = .ok (.iadd, 1) := by decide +kernel
theorem dX12_storm_83 : decode cX12_storm 83 = .ok (.bipush 6, 2) := by decide +kernel
theorem dX12_storm_85 : decode cX12_storm 85 = .ok (.iload 7, 2) := by decide +kernel
theorem dX12_storm_87 : decode cX12_storm 87 = .ok (.isub, 1) := by decide +kernel
theorem dX12_storm_88 : decode cX12_storm 88 = .ok (.iload 8, 2) := by decide +kernel
theorem dX12_storm_90 : decode cX12_storm 90 = .ok (.isub, 1) := by decide +kernel
theorem dX12_storm_91 : decode cX12_storm 91 = .ok (.bipush 6, 2) := by decide +kernel
theorem dX12_storm_93 : decode cX12_storm 93 = .ok (.iload_n 1, 1) := by decide +kernel
theorem dX12_storm_94 : decode cX12_storm 94 = .ok (.isub, 1) := by decide +kernel
theorem dX12_storm_95 : decode cX12_storm 95 = .ok (.iload_n 2, 1) := by decide +kernel
theorem dX12_storm_96 : decode cX12_storm 96 = .ok (.isub, 1) := by decide +kernel
theorem dX12_storm_97 : decode cX12_storm 97 = .ok (.invokestatic 424, 3) := by decide +kernel
theorem dX12_storm_100 : decode cX12_storm 100 = .ok (.iadd, 1) := by decide +kernel
theorem dX12_storm_101 : decode cX12_storm 101 = .ok (.istore 9, 2) := by decide +kernel
theorem dX12_storm_103 : decode cX12_storm 103 = .ok (.iload 9, 2) := by decide +kernel
theorem dX12_storm_105 : decode cX12_storm 105 = .ok (.iload 4, 2) := by decide +kernel
theorem dX12_storm_107 : decode cX12_storm 107 = .ok (.if_icmp .le 17, 3) := by decide +kernel
theorem dX12_storm_110 : decode cX12_storm 110 = .ok (.iload 9, 2) := by decide +kernel
theorem dX12_storm_112 : decode cX12_storm 112 = .ok (.istore 4, 2) := by decide +kernel
theorem dX12_storm_114 : decode cX12_storm 114 = .ok (.iconst 0, 1) := by decide +kernel
theorem dX12_storm_115 : decode cX12_storm 115 = .ok (.istore_n 3, 1) := by decide +kernel
theorem dX12_storm_116 : decode cX12_storm 116 = .ok (.iload 7, 2) := by decide +kernel
theorem dX12_storm_118 : decode cX12_storm 118 = .ok (.istore 5, 2) := by decide +kernel
theorem dX12_storm_120 : decode cX12_storm 120 = .ok (.iload 8, 2) := by decide +kernel
theorem dX12_storm_122 : decode cX12_storm 122 = .ok (.istore 6, 2) := by decide +kernel
theorem dX12_storm_124 : decode cX12_storm 124 = .ok (.iload_n 3, 1) := by decide +kernel
theorem dX12_storm_125 : decode cX12_storm 125 = .ok (.iload 9, 2) := by decide +kernel
theorem dX12_storm_127 : decode cX12_storm 127 = .ok (.iload 4, 2) := by decide +kernel
theorem dX12_storm_129 : decode cX12_storm 129 = .ok (.if_icmp .ne 7, 3) := by decide +kernel
theorem dX12_storm_132 : decode cX12_storm 132 = .ok (.iconst 1, 1) := by decide +kernel
theorem dX12_storm_133 : decode cX12_storm 133 = .ok (.goto 4, 3) := by decide +kernel
theorem dX12_storm_136 : decode cX12_storm 136 = .ok (.iconst 0, 1) := by decide +kernel
theorem dX12_storm_137 : decode cX12_storm 137 = .ok (.invokestatic 151, 3) := by decide +kernel
theorem dX12_storm_140 : decode cX12_storm 140 = .ok (.iadd, 1) := by decide +kernel
theorem dX12_storm_141 : decode cX12_storm 141 = .ok (.istore_n 3, 1) := by decide +kernel
theorem dX12_storm_142 : decode cX12_storm 142 = .ok (.iinc 8 1, 3) := by decide +kernel
theorem dX12_storm_145 : decode cX12_storm 145 = .ok (.goto (-85), 3) := by decide +kernel
theorem dX12_storm_148 : decode cX12_storm 148 = .ok (.iinc 7 1, 3) := by decide +kernel
theorem dX12_storm_151 : decode cX12_storm 151 = .ok (.goto (-101), 3) := by decide +kernel
theorem dX12_storm_154 : decode cX12_storm 154 = .ok (.aload_n 0, 1) := by decide +kernel
theorem dX12_storm_155 : decode cX12_storm 155 = .ok (.iconst 0, 1) := by decide +kernel
theorem dX12_storm_156 : decode cX12_storm 156 = .ok (.putfield 15, 3) := by decide +kernel
theorem dX12_storm_159 : decode cX12_storm 159 = .ok (.aload_n 0, 1) := by decide +kernel
theorem dX12_storm_160 : decode cX12_storm 160 = .ok (.iload 5, 2) := by decide +kernel
theorem dX12_storm_162 : decode cX12_storm 162 = .ok (.i2l, 1) := by decide +kernel
theorem dX12_storm_163 : decode cX12_storm 163 = .ok (.invokevirtual 326, 3) := by decide +kernel
theorem dX12_storm_166 : decode cX12_storm 166 = .ok (.aload_n 0, 1) := by decide +kernel
theorem dX12_storm_167 : decode cX12_storm 167 = .ok (.iload 6, 2) := by decide +kernel
theorem dX12_storm_169 : decode cX12_storm 169 = .ok (.i2l, 1) := by decide +kernel
theorem dX12_storm_170 : decode cX12_storm 170 = .ok (.invokevirtual 326, 3) := by decide +kernel
theorem dX12_storm_173 : decode cX12_storm 173 = .ok (.aload_n 0, 1) := by decide +kernel
theorem dX12_storm_174 : decode cX12_storm 174 = .ok (.iload 4, 2) := by decide +kernel
theorem dX12_storm_176 : decode cX12_storm 176 = .ok (.i2l, 1) := by decide +kernel
theorem dX12_storm_177 : decode cX12_storm 177 = .ok (.invokevirtual 326, 3) := by decide +kernel
theorem dX12_storm_180 : decode cX12_storm 180 = .ok (.iload_n 3, 1) := by decide +kernel
theorem dX12_storm_181 : decode cX12_storm 181 = .ok (.ireturn, 1) := by decide +kernel
theorem dX12_town_0 : decode cX12_town 0 = .ok (.aload_n 0, 1) := by decide +kernel
theorem dX12_town_1 : decode cX12_town 1 = .ok (.iconst 0, 1) := by decide +kernel
theorem dX12_town_2 : decode cX12_town 2 = .ok (.putfield 3, 3) := by decide +kernel
theorem dX12_town_5 : decode cX12_town 5 = .ok (.iload_n 1, 1) := by decide +kernel
theorem dX12_town_6 : decode cX12_town 6 = .ok (.i2l, 1) := by decide +kernel
theorem dX12_town_7 : decode cX12_town 7 = .ok (.lconst 1, 1) := by decide +kernel
theorem dX12_town_8 : decode cX12_town 8 = .ok (.ldc2_w 427, 3) := by decide +kernel
theorem dX12_town_11 : decode cX12_town 11 = .ok (.invokestatic 126, 3) := by decide +kernel
theorem dX12_town_14 : decode cX12_town 14 = .ok (.ifCond .eq 15, 3) := by decide +kernel
theorem dX12_town_17 : decode cX12_town 17 = .ok (.iload_n 2, 1) := by decide +kernel
theorem dX12_town_18 : decode cX12_town 18 = .ok (.i2l, 1) := by decide +kernel
theorem dX12_town_19 : decode cX12_town 19 = .ok (.lconst 1, 1) := by decide +kernel
theorem dX12_town_20 : decode cX12_town 20 = .ok (.ldc2_w 429, 3) := by decide +kernel
theorem dX12_town_23 : decode cX12_town 23 = .ok (.invokestatic 126, 3) := by decide +kernel
theorem dX12_town_26 : decode cX12_town 26 = .ok (.ifCond .ne 5, 3) := by decide +kernel
theorem dX12_town_29 : decode cX12_town 29 = .ok (.iconst (-1), 1) := by decide +kernel
theorem dX12_town_30 : decode cX12_town 30 = .ok (.ireturn, 1) := by decide +kernel
theorem dX12_town_31 : decode cX12_town 31 = .ok (.iload_n 2, 1) := by decide +kernel
theorem dX12_town_32 : decode cX12_town 32 = .ok (.istore_n 3, 1) := by decide +kernel
theorem dX12_town_33 : decode cX12_town 33 = .ok (.iload_n 3, 1) := by decide +kernel
theorem dX12_town_34 : decode cX12_town 34 = .ok (.ifCond .lt 190, 3) := by decide +kernel
theorem dX12_town_37 : decode cX12_town 37 = .ok (.iload_n 1, 1) := by decide +kernel
theorem dX12_town_38 : decode cX12_town 38 = .ok (.istore 4, 2) := by decide +kernel
theorem dX12_town_40 : decode cX12_town 40 = .ok (.iload 4, 2) := by decide +kernel
theorem dX12_town_42 : decode cX12_town 42 = .ok (.ifCond .lt 176, 3) := by decide +kernel
theorem dX12_town_45 : decode cX12_town 45 = .ok (.bipush 21, 2) := by decide +kernel
theorem dX12_town_47 : decode cX12_town 47 = .ok (.iload 4, 2) := by decide +kernel
theorem dX12_town_49 : decode cX12_town 49 = .ok (.imul, 1) := by decide +kernel
theorem dX12_town_50 : decode cX12_town 50 = .ok (.iload_n 3, 1) := by decide +kernel
theorem dX12_town_51 : decode cX12_town 51 = .ok (.iadd, 1) := by decide +kernel
theorem dX12_town_52 : decode cX12_town 52 = .ok (.istore 5, 2) := by decide +kernel
theorem dX12_town_54 : decode cX12_town 54 = .ok (.aload_n 0, 1) := by decide +kernel
theorem dX12_town_55 : decode cX12_town 55 = .ok (.getfield 94, 3) := by decide +kernel
theorem dX12_town_58 : decode cX12_town 58 = .ok (.iload 5, 2) := by decide +kernel
theorem dX12_town_60 : decode cX12_town 60 = .ok (.iconst 0, 1) := by decide +kernel
theorem dX12_town_61 : decode cX12_town 61 = .ok (.iastore, 1) := by decide +kernel
theorem dX12_town_62 : decode cX12_town 62 = .ok (.aload_n 0, 1) := by decide +kernel
theorem dX12_town_63 : decode cX12_town 63 = .ok (.getfield 97, 3) := by decide +kernel
theorem dX12_town_66 : decode cX12_town 66 = .ok (.iload 5, 2) := by decide +kernel
theorem dX12_town_68 : decode cX12_town 68 = .ok (.iload 4, 2) := by decide +kernel
theorem dX12_town_70 : decode cX12_town 70 = .ok (.ifCond .ne 7, 3) := by decide +kernel
theorem dX12_town_73 : decode cX12_town 73 = .ok (.iconst 0, 1) := by decide +kernel
theorem dX12_town_74 : decode cX12_town 74 = .ok (.goto 7, 3) := by decide +kernel
theorem dX12_town_77 : decode cX12_town 77 = .ok (.iload_n 1, 1) := by decide +kernel
theorem dX12_town_78 : decode cX12_town 78 = .ok (.iload 4, 2) := by decide +kernel
theorem dX12_town_80 : decode cX12_town 80 = .ok (.isub, 1) := by decide +kernel
theorem dX12_town_81 : decode cX12_town 81 = .ok (.iastore, 1) := by decide +kernel
theorem dX12_town_82 : decode cX12_town 82 = .ok (.aload_n 0, 1) := by decide +kernel
theorem dX12_town_83 : decode cX12_town 83 = .ok (.getfield 100, 3) := by decide +kernel
theorem dX12_town_86 : decode cX12_town 86 = .ok (.iload 5, 2) := by decide +kernel
theorem dX12_town_88 : decode cX12_town 88 = .ok (.iconst 0, 1) := by decide +kernel
theorem dX12_town_89 : decode cX12_town 89 = .ok (.iastore, 1) := by decide +kernel
theorem dX12_town_90 : decode cX12_town 90 = .ok (.iconst 1, 1) := by decide +kernel
theorem dX12_town_91 : decode cX12_town 91 = .ok (.istore 6, 2) := by decide +kernel
theorem dX12_town_93 : decode cX12_town 93 = .ok (.iload 6, 2) := by decide +kernel
theorem dX12_town_95 : decode cX12_town 95 = .ok (.iconst 3, 1) := by decide +kernel
theorem dX12_town_96 : decode cX12_town 96 = .ok (.if_icmp .gt 80, 3) := by decide +kernel
theorem dX12_town_99 : decode cX12_town 99 = .ok (.iload_n 3, 1) := by decide +kernel
theorem dX12_town_100 : decode cX12_town 100 = .ok (.iload_n 2, 1) := by decide +kernel
theorem dX12_town_101 : decode cX12_town 101 = .ok (.if_icmp .ge 75, 3) := by decide +kernel
theorem dX12_town_104 : decode cX12_town 104 = .ok (.iload 4, 2) := by decide +kernel
theorem dX12_town_106 : decode cX12_town 106 = .ok (.iload 6, 2) := by decide +kernel
theorem dX12_town_108 : decode cX12_town 108 = .ok (.iadd, 1) := by decide +kernel
theorem dX12_town_109 : decode cX12_town 109 = .ok (.iload_n 1, 1) := by decide +kernel
theorem dX12_town_110 : decode cX12_town 110 = .ok (.if_icmp .gt 66, 3) := by decide +kernel
theorem dX12_town_113 : decode cX12_town 113 = .ok (.bipush 21, 2) := by decide +kernel
theorem dX12_town_115 : decode cX12_town 115 = .ok (.iload 4, 2) := by decide +kernel
theorem dX12_town_117 : decode cX12_town 117 = .ok (.iload 6, 2) := by decide +kernel
theorem dX12_town_119 : decode cX12_town 119 = .ok (.iadd, 1) := by decide +kernel
theorem dX12_town_120 : decode cX12_town 120 = .ok (.imul, 1) := by decide +kernel
theorem dX12_town_121 : decode cX12_town 121 = .ok (.iload_n 3, 1) := by decide +kernel
theorem dX12_town_122 : decode cX12_town 122 = .ok (.iadd, 1) := by decide +kernel
theorem dX12_town_123 : decode cX12_town 123 = .ok (.iconst 1, 1) := by decide +kernel
theorem dX12_town_124 : decode cX12_town 124 = .ok (.iadd, 1) := by decide +kernel
theorem dX12_town_125 : decode cX12_town 125 = .ok (.istore 7, 2) := by decide +kernel
theorem dX12_town_127 : decode cX12_town 127 = .ok (.aload_n 0, 1) := by decide +kernel
theorem dX12_town_128 : decode cX12_town 128 = .ok (.getfield 97, 3) := by decide +kernel
theorem dX12_town_131 : decode cX12_town 131 = .ok (.iload 7, 2) := by decide +kernel
theorem dX12_town_133 : decode cX12_town 133 = .ok (.iaload, 1) := by decide +kernel
theorem dX12_town_134 : decode cX12_town 134 = .ok (.aload_n 0, 1) := by decide +kernel
theorem dX12_town_135 : decode cX12_town 135 = .ok (.getfield 94, 3) := by decide +kernel
theorem dX12_town_138 : decode cX12_town 138 = .ok (.iload 5, 2) := by decide +kernel
theorem dX12_town_140 : decode cX12_town 140 = .ok (.iaload, 1) := by decide +kernel
theorem dX12_town_141 : decode cX12_town 141 = .ok (.if_icmp .le 29, 3) := by decide +kernel
theorem dX12_town_144 : decode cX12_town 144 = .ok (.aload_n 0, 1) := by decide +kernel
theorem dX12_town_145 : decode cX12_town 145 = .ok (.getfield 94, 3) := by decide +kernel
theorem dX12_town_148 : decode cX12_town 148 = .ok (.iload 5, 2) := by decide +kernel
theorem dX12_town_150 : decode cX12_town 150 = .ok (.aload_n 0, 1) := by decide +kernel
theorem dX12_town_151 : decode cX12_town 151 = .ok (.getfield 97, 3) := by decide +kernel
theorem dX12_town_154 : decode cX12_town 154 = .ok (.iload 7, 2) := by decide +kernel
theorem dX12_town_156 : decode cX12_town 156 = .ok (.iaload, 1) := by decide +kernel
theorem dX12_town_157 : decode cX12_town 157 = .ok (.iastore, 1) := by decide +kernel
theorem dX12_town_158 : decode cX12_town 158 = .ok (.aload_n 0, 1) := by decide +kernel
theorem dX12_town_159 : decode cX12_town 159 = .ok (.getfield 100, 3) := by decide +kernel
theorem dX12_town_162 : decode cX12_town 162 = .ok (.iload 5, 2) := by decide +kernel
theorem dX12_town_164 : decode cX12_town 164 = .ok (.iload 4, 2) := by decide +kernel
theorem dX12_town_166 : decode cX12_town 166 = .ok (.iload 6, 2) := by decide +kernel
theorem dX12_town_168 : decode cX12_town 168 = .ok (.iadd, 1) := by decide +kernel
theorem dX12_town_169 : decode cX12_town 169 = .ok (.iastore, 1) := by decide +kernel
theorem dX12_town_170 : decode cX12_town 170 = .ok (.iinc 6 1, 3) := by decide +kernel
theorem dX12_town_173 : decode cX12_town 173 = .ok (.goto (-80), 3) := by decide +kernel
theorem dX12_town_176 : decode cX12_town 176 = .ok (.aload_n 0, 1) := by decide +kernel
theorem dX12_town_177 : decode cX12_town 177 = .ok (.getfield 100, 3) := by decide +kernel
theorem dX12_town_180 : decode cX12_town 180 = .ok (.iload 5, 2) := by decide +kernel
theorem dX12_town_182 : decode cX12_town 182 = .ok (.iaload, 1) := by decide +kernel
theorem dX12_town_183 : decode cX12_town 183 = .ok (.ifCond .le 29, 3) := by decide +kernel
theorem dX12_town_186 : decode cX12_town 186 = .ok (.aload_n 0, 1) := by decide +kernel
theorem dX12_town_187 : decode cX12_town 187 = .ok (.getfield 97, 3) := by decide +kernel
theorem dX12_town_190 : decode cX12_town 190 = .ok (.iload 5, 2) := by decide +kernel
theorem dX12_town_192 : decode cX12_town 192 = .ok (.aload_n 0, 1) := by decide +kernel
theorem dX12_town_193 : decode cX12_town 193 = .ok (.getfield 94, 3) := by decide +kernel
theorem dX12_town_196 : decode cX12_town 196 = .ok (.bipush 21, 2) := by decide +kernel
theorem dX12_town_198 : decode cX12_town 198 = .ok (.aload_n 0, 1) := by decide +kernel
theorem dX12_town_199 : decode cX12_town 199 = .ok (.getfield 100, 3) := by decide +kernel
theorem dX12_town_202 : decode cX12_town 202 = .ok (.iload 5, 2) := by decide +kernel
theorem dX12_town_204 : decode cX12_town 204 = .ok (.iaload, 1) := by decide +kernel
theorem dX12_town_205 : decode cX12_town 205 = .ok (.imul, 1) := by decide +kernel
theorem dX12_town_206 : decode cX12_town 206 = .ok (.iload_n 3, 1) := by decide +kernel
theorem dX12_town_207 : decode cX12_town 207 = .ok (.iadd, 1) := by decide +kernel
theorem dX12_town_208 : decode cX12_town 208 = .ok (.iconst 1, 1) := by decide +kernel
theorem dX12_town_209 : decode cX12_town 209 = .ok (.iadd, 1) := by decide +kernel
theorem dX12_town_210 : decode cX12_town 210 = .ok (.iaload, 1) := by decide +kernel
theorem dX12_town_211 : decode cX12_town 211 = .ok (.iastore, 1) := by decide +kernel
theorem dX12_town_212 : decode cX12_town 212 = .ok (.iinc 4 (-1), 3) := by decide +kernel
theorem dX12_town_215 : decode cX12_town 215 = .ok (.goto (-175), 3) := by decide +kernel
theorem dX12_town_218 : decode cX12_town 218 = .ok (.iinc 3 (-1), 3) := by decide +kernel
theorem dX12_town_221 : decode cX12_town 221 = .ok (.goto (-188), 3) := by decide +kernel
theorem dX12_town_224 : decode cX12_town 224 = .ok (.aload_n 0, 1) := by decide +kernel
theorem dX12_town_225 : decode cX12_town 225 = .ok (.iconst 0, 1) := by decide +kernel
theorem dX12_town_226 : decode cX12_town 226 = .ok (.putfield 15, 3) := by decide +kernel
theorem dX12_town_229 : decode cX12_town 229 = .ok (.aload_n 0, 1) := by decide +kernel
theorem dX12_town_230 : decode cX12_town 230 = .ok (.aload_n 0, 1) := by decide +kernel
theorem dX12_town_231 : decode cX12_town 231 = .ok (.getfield 97, 3) := by decide +kernel
theorem dX12_town_234 : decode cX12_town 234 = .ok (.iconst 0, 1) := by decide +kernel
theorem dX12_town_235 : decode cX12_town 235 = .ok (.iaload, 1) := by decide +kernel
theorem dX12_town_236 : decode cX12_town 236 = .ok (.i2l, 1) := by decide +kernel
theorem dX12_town_237 : decode cX12_town 237 = .ok (.invokevirtual 326, 3) := by decide +kernel
theorem dX12_town_240 : decode cX12_town 240 = .ok (.aload_n 0, 1) := by decide +kernel
theorem dX12_town_241 : decode cX12_town 241 = .ok (.aload_n 0, 1) := by decide +kernel
theorem dX12_town_242 : decode cX12_town 242 = .ok (.getfield 100, 3) := by decide +kernel
theorem dX12_town_245 : decode cX12_town 245 = .ok (.iconst 0, 1) := by decide +kernel
theorem dX12_town_246 : decode cX12_town 246 = .ok (.iaload, 1) := by decide +kernel
theorem dX12_town_247 : decode cX12_town 247 = .ok (.i2l, 1) := by decide +kernel
theorem dX12_town_248 : decode cX12_town 248 = .ok (.invokevirtual 326, 3) := by decide +kernel
theorem dX12_town_251 : decode cX12_town 251 = .ok (.aload_n 0, 1) := by decide +kernel
theorem dX12_town_252 : decode cX12_town 252 = .ok (.getfield 94, 3) := by decide +kernel
theorem dX12_town_255 : decode cX12_town 255 = .ok (.iconst 0, 1) := by decide +kernel
theorem dX12_town_256 : decode cX12_town 256 = .ok (.iaload, 1) := by decide +kernel
theorem dX12_town_257 : decode cX12_town 257 = .ok (.ireturn, 1) := by decide +kernel
theorem dX12_power_0 : decode cX12_power 0 = .ok (.lconst 1, 1) := by decide +kernel
theorem dX12_power_1 : decode cX12_power 1 = .ok (.lstore_n 2, 1) := by decide +kernel
theorem dX12_power_2 : decode cX12_power 2 = .ok (.iconst 0, 1) := by decide +kernel
theorem dX12_power_3 : decode cX12_power 3 = .ok (.istore 4, 2) := by decide +kernel
theorem dX12_power_5 : decode cX12_power 5 = .ok (.iload 4, 2) := by decide +kernel
theorem dX12_power_7 : decode cX12_power 7 = .ok (.iload_n 1, 1) := by decide +kernel
theorem dX12_power_8 : decode cX12_power 8 = .ok (.if_icmp .ge 14, 3) := by decide +kernel
theorem dX12_power_11 : decode cX12_power 11 = .ok (.lload_n 2, 1) := by decide +kernel
theorem dX12_power_12 : decode cX12_power 12 = .ok (.iload_n 0, 1) := by decide +kernel
theorem dX12_power_13 : decode cX12_power 13 = .ok (.i2l, 1) := by decide +kernel
theorem dX12_power_14 : decode cX12_power 14 = .ok (.lmul, 1) := by decide +kernel
theorem dX12_power_15 : decode cX12_power 15 = .ok (.lstore_n 2, 1) := by decide +kernel
theorem dX12_power_16 : decode cX12_power 16 = .ok (.iinc 4 1, 3) := by decide +kernel
theorem dX12_power_19 : decode cX12_power 19 = .ok (.goto (-14), 3) := by decide +kernel
theorem dX12_power_22 : decode cX12_power 22 = .ok (.lload_n 2, 1) := by decide +kernel
theorem dX12_power_23 : decode cX12_power 23 = .ok (.lreturn, 1) := by decide +kernel
theorem dX12_secret_0 : decode cX12_secret 0 = .ok (.aload_n 0, 1) := by decide +kernel
theorem dX12_secret_1 : decode cX12_secret 1 = .ok (.iconst 0, 1) := by decide +kernel
theorem dX12_secret_2 : decode cX12_secret 2 = .ok (.putfield 3, 3) := by decide +kernel
theorem dX12_secret_5 : decode cX12_secret 5 = .ok (.iload_n 1, 1) := by decide +kernel
theorem dX12_secret_6 : decode cX12_secret 6 = .ok (.i2l, 1) := by decide +kernel
theorem dX12_secret_7 : decode cX12_secret 7 = .ok (.lconst 0, 1) := by decide +kernel
theorem dX12_secret_8 : decode cX12_secret 8 = .ok (.ldc2_w 431, 3) := by decide +kernel
theorem dX12_secret_11 : decode cX12_secret 11 = .ok (.invokestatic 126, 3) := by decide +kernel
theorem dX12_secret_14 : decode cX12_secret 14 = .ok (.ifCond .eq 15, 3) := by decide +kernel
theorem dX12_secret_17 : decode cX12_secret 17 = .ok (.iload_n 2, 1) := by decide +kernel
theorem dX12_secret_18 : decode cX12_secret 18 = .ok (.i2l, 1) := by decide +kernel
theorem dX12_secret_19 : decode cX12_secret 19 = .ok (.lconst 0, 1) := by decide +kernel
theorem dX12_secret_20 : decode cX12_secret 20 = .ok (.ldc2_w 433, 3) := by decide +kernel
theorem dX12_secret_23 : decode cX12_secret 23 = .ok (.invokestatic 126, 3) := by decide +kernel
theorem dX12_secret_26 : decode cX12_secret 26 = .ok (.ifCond .ne 5, 3) := by decide +kernel
theorem dX12_secret_29 : decode cX12_secret 29 = .ok (.iconst (-1), 1) := by decide +kernel
theorem dX12_secret_30 : decode cX12_secret 30 = .ok (.ireturn, 1) := by decide +kernel
theorem dX12_secret_31 : decode cX12_secret 31 = .ok (.bipush 10, 2) := by decide +kernel
theorem dX12_secret_33 : decode cX12_secret 33 = .ok (.iload_n 2, 1) := by decide +kernel
theorem dX12_secret_34 : decode cX12_secret 34 = .ok (.isub, 1) := by decide +kernel
theorem dX12_secret_35 : decode cX12_secret 35 = .ok (.iload_n 1, 1) := by decide +kernel
theorem dX12_secret_36 : decode cX12_secret 36 = .ok (.invokestatic 435, 3) := by decide +kernel
theorem dX12_secret_39 : decode cX12_secret 39 = .ok (.lstore_n 3, 1) := by decide +kernel
theorem dX12_secret_40 : decode cX12_secret 40 = .ok (.bipush 10, 2) := by decide +kernel
theorem dX12_secret_42 : decode cX12_secret 42 = .ok (.iload_n 1, 1) := by decide +kernel
theorem dX12_secret_43 : decode cX12_secret 43 = .ok (.invokestatic 435, 3) := by decide +kernel
theorem dX12_secret_46 : decode cX12_secret 46 = .ok (.lstore 5, 2) := by decide +kernel
theorem dX12_secret_48 : decode cX12_secret 48 = .ok (.lload_n 3, 1) := by decide +kernel
theorem dX12_secret_49 : decode cX12_secret 49 = .ok (.lload 5, 2) := by decide +kernel
theorem dX12_secret_51 : decode cX12_secret 51 = .ok (.invokestatic 7, 3) := by decide +kernel
theorem dX12_secret_54 : decode cX12_secret 54 = .ok (.lstore 7, 2) := by decide +kernel
theorem dX12_secret_56 : decode cX12_secret 56 = .ok (.aload_n 0, 1) := by decide +kernel
theorem dX12_secret_57 : decode cX12_secret 57 = .ok (.iconst 0, 1) := by decide +kernel
theorem dX12_secret_58 : decode cX12_secret 58 = .ok (.putfield 15, 3) := by decide +kernel
theorem dX12_secret_61 : decode cX12_secret 61 = .ok (.aload_n 0, 1) := by decide +kernel
theorem dX12_secret_62 : decode cX12_secret 62 = .ok (.lload_n 3, 1) := by decide +kernel
theorem dX12_secret_63 : decode cX12_secret 63 = .ok (.lload 7, 2) := by decide +kernel
theorem dX12_secret_65 : decode cX12_secret 65 = .ok (.ldiv, 1) := by decide +kernel
theorem dX12_secret_66 : decode cX12_secret 66 = .ok (.invokevirtual 326, 3) := by decide +kernel
theorem dX12_secret_69 : decode cX12_secret 69 = .ok (.aload_n 0, 1) := by decide +kernel
theorem dX12_secret_70 : decode cX12_secret 70 = .ok (.lload 5, 2) := by decide +kernel
theorem dX12_secret_72 : decode cX12_secret 72 = .ok (.lload 7, 2) := by decide +kernel
theorem dX12_secret_74 : decode cX12_secret 74 = .ok (.ldiv, 1) := by decide +kernel
theorem dX12_secret_75 : decode cX12_secret 75 = .ok (.invokevirtual 326, 3) := by decide +kernel
theorem dX12_secret_78 : decode cX12_secret 78 = .ok (.iconst 0, 1) := by decide +kernel
theorem dX12_secret_79 : decode cX12_secret 79 = .ok (.ireturn, 1) := by decide +kernel
theorem dX12_told_0 : decode cX12_told 0 = .ok (.aload_n 0, 1) := by decide +kernel
theorem dX12_told_1 : decode cX12_told 1 = .ok (.iconst 0, 1) := by decide +kernel
theorem dX12_told_2 : decode cX12_told 2 = .ok (.putfield 3, 3) := by decide +kernel
theorem dX12_told_5 : decode cX12_told 5 = .ok (.iload_n 1, 1) := by decide +kernel
theorem dX12_told_6 : decode cX12_told 6 = .ok (.i2l, 1) := by decide +kernel
theorem dX12_told_7 : decode cX12_told 7 = .ok (.lconst 0, 1) := by decide +kernel
theorem dX12_told_8 : decode cX12_told 8 = .ok (.ldc2_w 433, 3) := by decide +kernel
theorem dX12_told_11 : decode cX12_told 11 = .ok (.invokestatic 126, 3) := by decide +kernel
theorem dX12_told_14 : decode cX12_told 14 = .ok (.ifCond .eq 15, 3) := by decide +kernel
theorem dX12_told_17 : decode cX12_told 17 = .ok (.iload_n 2, 1) := by decide +kernel
theorem dX12_told_18 : decode cX12_told 18 = .ok (.i2l, 1) := by decide +kernel
theorem dX12_told_19 : decode cX12_told 19 = .ok (.lconst 0, 1) := by decide +kernel
theorem dX12_told_20 : decode cX12_told 20 = .ok (.ldc2_w 438, 3) := by decide +kernel
theorem dX12_told_23 : decode cX12_told 23 = .ok (.invokestatic 126, 3) := by decide +kernel
theorem dX12_told_26 : decode cX12_told 26 = .ok (.ifCond .ne 5, 3) := by decide +kernel
theorem dX12_told_29 : decode cX12_told 29 = .ok (.iconst (-1), 1) := by decide +kernel
theorem dX12_told_30 : decode cX12_told 30 = .ok (.ireturn, 1) := by decide +kernel
theorem dX12_told_31 : decode cX12_told 31 = .ok (.bipush (-2), 2) := by decide +kernel
theorem dX12_told_33 : decode cX12_told 33 = .ok (.istore_n 3, 1) := by decide +kernel
theorem dX12_told_34 : decode cX12_told 34 = .ok (.iconst 0, 1) := by decide +kernel
theorem dX12_told_35 : decode cX12_told 35 = .ok (.istore 4, 2) := by decide +kernel
theorem dX12_told_37 : decode cX12_told 37 = .ok (.iload 4, 2) := by decide +kernel
theorem dX12_told_39 : decode cX12_told 39 = .ok (.bipush 12, 2) := by decide +kernel
theorem dX12_told_41 : decode cX12_told 41 = .ok (.if_icmp .gt 43, 3) := by decide +kernel
theorem dX12_told_44 : decode cX12_told 44 = .ok (.ldc2_w 438, 3) := by decide +kernel
theorem dX12_told_47 : decode cX12_told 47 = .ok (.bipush 10, 2) := by decide +kernel
theorem dX12_told_49 : decode cX12_told 49 = .ok (.iload_n 1, 1) := by decide +kernel
theorem dX12_told_50 : decode cX12_told 50 = .ok (.isub, 1) := by decide +kernel
theorem dX12_told_51 : decode cX12_told 51 = .ok (.iload 4, 2) := by decide +kernel
theorem dX12_told_53 : decode cX12_told 53 = .ok (.invokestatic 435, 3) := by decide +kernel
theorem dX12_told_56 : decode cX12_told 56 = .ok (.lmul, 1) := by decide +kernel
theorem dX12_told_57 : decode cX12_told 57 = .ok (.iload_n 2, 1) := by decide +kernel
theorem dX12_told_58 : decode cX12_told 58 = .ok (.i2l, 1) := by decide +kernel
theorem dX12_told_59 : decode cX12_told 59 = .ok (.bipush 10, 2) := by decide +kernel
theorem dX12_told_61 : decode cX12_told 61 = .ok (.iload 4, 2) := by decide +kernel
theorem dX12_told_63 : decode cX12_told 63 = .ok (.invokestatic 435, 3) := by decide +kernel
theorem dX12_told_66 : decode cX12_told 66 = .ok (.lmul, 1) := by decide +kernel
theorem dX12_told_67 : decode cX12_told 67 = .ok (.lcmp, 1) := by decide +kernel
theorem dX12_told_68 : decode cX12_told 68 = .ok (.ifCond .lt 8, 3) := by decide +kernel
theorem dX12_told_71 : decode cX12_told 71 = .ok (.iload 4, 2) := by decide +kernel
theorem dX12_told_73 : decode cX12_told 73 = .ok (.goto 4, 3) := by decide +kernel
theorem dX12_told_76 : decode cX12_told 76 = .ok (.iload_n 3, 1) := by decide +kernel
theorem dX12_told_77 : decode cX12_told 77 = .ok (.istore_n 3, 1) := by decide +kernel
theorem dX12_told_78 : decode cX12_told 78 = .ok (.iinc 4 1, 3) := by decide +kernel
theorem dX12_told_81 : decode cX12_told 81 = .ok (.goto (-44), 3) := by decide +kernel
theorem dX12_told_84 : decode cX12_told 84 = .ok (.iload_n 3, 1) := by decide +kernel
theorem dX12_told_85 : decode cX12_told 85 = .ok (.ireturn, 1) := by decide +kernel
theorem dX12_trace_0 : decode cX12_trace 0 = .ok (.aload_n 0, 1) := by decide +kernel
theorem dX12_trace_1 : decode cX12_trace 1 = .ok (.iconst 0, 1) := by decide +kernel
theorem dX12_trace_2 : decode cX12_trace 2 = .ok (.putfield 3, 3) := by decide +kernel
theorem dX12_trace_5 : decode cX12_trace 5 = .ok (.iload_n 1, 1) := by decide +kernel
theorem dX12_trace_6 : decode cX12_trace 6 = .ok (.i2l, 1) := by decide +kernel
theorem dX12_trace_7 : decode cX12_trace 7 = .ok (.lconst 1, 1) := by decide +kernel
theorem dX12_trace_8 : decode cX12_trace 8 = .ok (.ldc2_w 353, 3) := by decide +kernel
theorem dX12_trace_11 : decode cX12_trace 11 = .ok (.invokestatic 126, 3) := by decide +kernel
theorem dX12_trace_14 : decode cX12_trace 14 = .ok (.ifCond .eq 22, 3) := by decide +kernel
theorem dX12_trace_17 : decode cX12_trace 17 = .ok (.iload_n 2, 1) := by decide +kernel
theorem dX12_trace_18 : decode cX12_trace 18 = .ok (.i2l, 1) := by decide +kernel
theorem dX12_trace_19 : decode cX12_trace 19 = .ok (.lconst 0, 1) := by decide +kernel
theorem dX12_trace_20 : decode cX12_trace 20 = .ok (.lconst 1, 1) := by decide +kernel
theorem dX12_trace_21 : decode cX12_trace 21 = .ok (.invokestatic 126, 3) := by decide +kernel
theorem dX12_trace_24 : decode cX12_trace 24 = .ok (.ifCond .eq 12, 3) := by decide +kernel
theorem dX12_trace_27 : decode cX12_trace 27 = .ok (.aload_n 0, 1) := by decide +kernel
theorem dX12_trace_28 : decode cX12_trace 28 = .ok (.getfield 195, 3) := by decide +kernel
theorem dX12_trace_31 : decode cX12_trace 31 = .ok (.bipush 12, 2) := by decide +kernel
theorem dX12_trace_33 : decode cX12_trace 33 = .ok (.if_icmp .ne 5, 3) := by decide +kernel
theorem dX12_trace_36 : decode cX12_trace 36 = .ok (.iconst (-1), 1) := by decide +kernel
theorem dX12_trace_37 : decode cX12_trace 37 = .ok (.ireturn, 1) := by decide +kernel
theorem dX12_trace_38 : decode cX12_trace 38 = .ok (.aload_n 0, 1) := by decide +kernel
theorem dX12_trace_39 : decode cX12_trace 39 = .ok (.getfield 103, 3) := by decide +kernel
theorem dX12_trace_42 : decode cX12_trace 42 = .ok (.aload_n 0, 1) := by decide +kernel
theorem dX12_trace_43 : decode cX12_trace 43 = .ok (.getfield 195, 3) := by decide +kernel
theorem dX12_trace_46 : decode cX12_trace 46 = .ok (.iload_n 1, 1) := by decide +kernel
theorem dX12_trace_47 : decode cX12_trace 47 = .ok (.iastore, 1) := by decide +kernel
theorem dX12_trace_48 : decode cX12_trace 48 = .ok (.aload_n 0, 1) := by decide +kernel
theorem dX12_trace_49 : decode cX12_trace 49 = .ok (.getfield 106, 3) := by decide +kernel
theorem dX12_trace_52 : decode cX12_trace 52 = .ok (.aload_n 0, 1) := by decide +kernel
theorem dX12_trace_53 : decode cX12_trace 53 = .ok (.getfield 195, 3) := by decide +kernel
theorem dX12_trace_56 : decode cX12_trace 56 = .ok (.iload_n 2, 1) := by decide +kernel
theorem dX12_trace_57 : decode cX12_trace 57 = .ok (.iastore, 1) := by decide +kernel
theorem dX12_trace_58 : decode cX12_trace 58 = .ok (.aload_n 0, 1) := by decide +kernel
theorem dX12_trace_59 : decode cX12_trace 59 = .ok (.dup, 1) := by decide +kernel
theorem dX12_trace_60 : decode cX12_trace 60 = .ok (.getfield 195, 3) := by decide +kernel
theorem dX12_trace_63 : decode cX12_trace 63 = .ok (.iconst 1, 1) := by decide +kernel
theorem dX12_trace_64 : decode cX12_trace 64 = .ok (.iadd, 1) := by decide +kernel
theorem dX12_trace_65 : decode cX12_trace 65 = .ok (.putfield 195, 3) := by decide +kernel
theorem dX12_trace_68 : decode cX12_trace 68 = .ok (.aload_n 0, 1) := by decide +kernel
theorem dX12_trace_69 : decode cX12_trace 69 = .ok (.getfield 195, 3) := by decide +kernel
theorem dX12_trace_72 : decode cX12_trace 72 = .ok (.ireturn, 1) := by decide +kernel
theorem dX12_forget_0 : decode cX12_forget 0 = .ok (.aload_n 0, 1) := by decide +kernel
theorem dX12_forget_1 : decode cX12_forget 1 = .ok (.iconst 0, 1) := by decide +kernel
theorem dX12_forget_2 : decode cX12_forget 2 = .ok (.putfield 3, 3) := by decide +kernel
theorem dX12_forget_5 : decode cX12_forget 5 = .ok (.aload_n 0, 1) := by decide +kernel
theorem dX12_forget_6 : decode cX12_forget 6 = .ok (.getfield 195, 3) := by decide +kernel
theorem dX12_forget_9 : decode cX12_forget 9 = .ok (.istore_n 1, 1) := by decide +kernel
theorem dX12_forget_10 : decode cX12_forget 10 = .ok (.aload_n 0, 1) := by decide +kernel
theorem dX12_forget_11 : decode cX12_forget 11 = .ok (.iconst 0, 1) := by decide +kernel
theorem dX12_forget_12 : decode cX12_forget 12 = .ok (.putfield 195, 3) := by decide +kernel
theorem dX12_forget_15 : decode cX12_forget 15 = .ok (.iload_n 1, 1) := by decide +kernel
theorem dX12_forget_16 : decode cX12_forget 16 = .ok (.ireturn, 1) := by decide +kernel
theorem dX12_fitting_0 : decode cX12_fitting 0 = .ok (.iconst 0, 1) := by decide +kernel
theorem dX12_fitting_1 : decode cX12_fitting 1 = .ok (.istore_n 1, 1) := by decide +kernel
theorem dX12_fitting_2 : decode cX12_fitting 2 = .ok (.iconst 0, 1) := by decide +kernel
theorem dX12_fitting_3 : decode cX12_fitting 3 = .ok (.istore_n 2, 1) := by decide +kernel
theorem dX12_fitting_4 : decode cX12_fitting 4 = .ok (.iload_n 2, 1) := by decide +kernel
theorem dX12_fitting_5 : decode cX12_fitting 5 = .ok (.aload_n 0, 1) := by decide +kernel
theorem dX12_fitting_6 : decode cX12_fitting 6 = .ok (.getfield 130, 3) := by decide +kernel
theorem dX12_fitting_9 : decode cX12_fitting 9 = .ok (.if_icmp .ge 87, 3) := by decide +kernel
theorem dX12_fitting_12 : decode cX12_fitting 12 = .ok (.iconst 1, 1) := by decide +kernel
theorem dX12_fitting_13 : decode cX12_fitting 13 = .ok (.istore_n 3, 1) := by decide +kernel
theorem dX12_fitting_14 : decode cX12_fitting 14 = .ok (.iconst 0, 1) := by decide +kernel
theorem dX12_fitting_15 : decode cX12_fitting 15 = .ok (.istore 4, 2) := by decide +kernel
theorem dX12_fitting_17 : decode cX12_fitting 17 = .ok (.iload 4, 2) := by decide +kernel
theorem dX12_fitting_19 : decode cX12_fitting 19 = .ok (.aload_n 0, 1) := by decide +kernel
theorem dX12_fitting_20 : decode cX12_fitting 20 = .ok (.getfield 195, 3) := by decide +kernel
theorem dX12_fitting_23 : decode cX12_fitting 23 = .ok (.if_icmp .ge 53, 3) := by decide +kernel
theorem dX12_fitting_26 : decode cX12_fitting 26 = .ok (.iload_n 3, 1) := by decide +kernel
theorem dX12_fitting_27 : decode cX12_fitting 27 = .ok (.ifCond .eq 41, 3) := by decide +kernel
theorem dX12_fitting_30 : decode cX12_fitting 30 = .ok (.aload_n 0, 1) := by decide +kernel
theorem dX12_fitting_31 : decode cX12_fitting 31 = .ok (.getfield 37, 3) := by decide +kernel
theorem dX12_fitting_34 : decode cX12_fitting 34 = .ok (.iload_n 2, 1) := by decide +kernel
theorem dX12_fitting_35 : decode cX12_fitting 35 = .ok (.iaload, 1) := by decide +kernel
theorem dX12_fitting_36 : decode cX12_fitting 36 = .ok (.aload_n 0, 1) := by decide +kernel
theorem dX12_fitting_37 : decode cX12_fitting 37 = .ok (.getfield 103, 3) := by decide +kernel
theorem dX12_fitting_40 : decode cX12_fitting 40 = .ok (.iload 4, 2) := by decide +kernel
theorem dX12_fitting_42 : decode cX12_fitting 42 = .ok (.iaload, 1) := by decide +kernel
theorem dX12_fitting_43 : decode cX12_fitting 43 = .ok (.if_icmp .lt 7, 3) := by decide +kernel
theorem dX12_fitting_46 : decode cX12_fitting 46 = .ok (.iconst 1, 1) := by decide +kernel
theorem dX12_fitting_47 : decode cX12_fitting 47 = .ok (.goto 4, 3) := by decide +kernel
theorem dX12_fitting_50 : decode cX12_fitting 50 = .ok (.iconst 0, 1) := by decide +kernel
theorem dX12_fitting_51 : decode cX12_fitting 51 = .ok (.invokestatic 151, 3) := by decide +kernel
theorem dX12_fitting_54 : decode cX12_fitting 54 = .ok (.aload_n 0, 1) := by decide +kernel
theorem dX12_fitting_55 : decode cX12_fitting 55 = .ok (.getfield 106, 3) := by decide +kernel
theorem dX12_fitting_58 : decode cX12_fitting 58 = .ok (.iload 4, 2) := by decide +kernel
theorem dX12_fitting_60 : decode cX12_fitting 60 = .ok (.iaload, 1) := by decide +kernel
theorem dX12_fitting_61 : decode cX12_fitting 61 = .ok (.if_icmp .ne 7, 3) := by decide +kernel
theorem dX12_fitting_64 : decode cX12_fitting 64 = .ok (.iconst 1, 1) := by decide +kernel
theorem dX12_fitting_65 : decode cX12_fitting 65 = .ok (.goto 4, 3) := by decide +kernel
theorem dX12_fitting_68 : decode cX12_fitting 68 = .ok (.iconst 0, 1) := by decide +kernel
theorem dX12_fitting_69 : decode cX12_fitting 69 = .ok (.istore_n 3, 1) := by decide +kernel
theorem dX12_fitting_70 : decode cX12_fitting 70 = .ok (.iinc 4 1, 3) := by decide +kernel
theorem dX12_fitting_73 : decode cX12_fitting 73 = .ok (.goto (-56), 3) := by decide +kernel
theorem dX12_fitting_76 : decode cX12_fitting 76 = .ok (.iload_n 1, 1) := by decide +kernel
theorem dX12_fitting_77 : decode cX12_fitting 77 = .ok (.iload_n 3, 1) := by decide +kernel
theorem dX12_fitting_78 : decode cX12_fitting 78 = .ok (.ifCond .eq 9, 3) := by decide +kernel
theorem dX12_fitting_81 : decode cX12_fitting 81 = .ok (.iconst 1, 1) := by decide +kernel
theorem dX12_fitting_82 : decode cX12_fitting 82 = .ok (.iload_n 2, 1) := by decide +kernel
theorem dX12_fitting_83 : decode cX12_fitting 83 = .ok (.ishl, 1) := by decide +kernel
theorem dX12_fitting_84 : decode cX12_fitting 84 = .ok (.goto 4, 3) := by decide +kernel
theorem dX12_fitting_87 : decode cX12_fitting 87 = .ok (.iconst 0, 1) := by decide +kernel
theorem dX12_fitting_88 : decode cX12_fitting 88 = .ok (.ior, 1) := by decide +kernel
theorem dX12_fitting_89 : decode cX12_fitting 89 = .ok (.istore_n 1, 1) := by decide +kernel
theorem dX12_fitting_90 : decode cX12_fitting 90 = .ok (.iinc 2 1, 3) := by decide +kernel
theorem dX12_fitting_93 : decode cX12_fitting 93 = .ok (.goto (-89), 3) := by decide +kernel
theorem dX12_fitting_96 : decode cX12_fitting 96 = .ok (.iload_n 1, 1) := by decide +kernel
theorem dX12_fitting_97 : decode cX12_fitting 97 = .ok (.ireturn, 1) := by decide +kernel
theorem dX12_fits_0 : decode cX12_fits 0 = .ok (.aload_n 0, 1) := by decide +kernel
theorem dX12_fits_1 : decode cX12_fits 1 = .ok (.iconst 0, 1) := by decide +kernel
theorem dX12_fits_2 : decode cX12_fits 2 = .ok (.putfield 3, 3) := by decide +kernel
theorem dX12_fits_5 : decode cX12_fits 5 = .ok (.aload_n 0, 1) := by decide +kernel
theorem dX12_fits_6 : decode cX12_fits 6 = .ok (.invokevirtual 440, 3) := by decide +kernel
theorem dX12_fits_9 : decode cX12_fits 9 = .ok (.istore_n 1, 1) := by decide +kernel
theorem dX12_fits_10 : decode cX12_fits 10 = .ok (.aload_n 0, 1) := by decide +kernel
theorem dX12_fits_11 : decode cX12_fits 11 = .ok (.iconst 0, 1) := by decide +kernel
theorem dX12_fits_12 : decode cX12_fits 12 = .ok (.putfield 15, 3) := by decide +kernel
theorem dX12_fits_15 : decode cX12_fits 15 = .ok (.aload_n 0, 1) := by decide +kernel
theorem dX12_fits_16 : decode cX12_fits 16 = .ok (.iload_n 1, 1) := by decide +kernel
theorem dX12_fits_17 : decode cX12_fits 17 = .ok (.invokestatic 344, 3) := by decide +kernel
theorem dX12_fits_20 : decode cX12_fits 20 = .ok (.i2l, 1) := by decide +kernel
theorem dX12_fits_21 : decode cX12_fits 21 = .ok (.invokevirtual 326, 3) := by decide +kernel
theorem dX12_fits_24 : decode cX12_fits 24 = .ok (.iload_n 1, 1) := by decide +kernel
theorem dX12_fits_25 : decode cX12_fits 25 = .ok (.ireturn, 1) := by decide +kernel
theorem dX12_ask_0 : decode cX12_ask 0 = .ok (.aload_n 0, 1) := by decide +kernel
theorem dX12_ask_1 : decode cX12_ask 1 = .ok (.iconst 0, 1) := by decide +kernel
theorem dX12_ask_2 : decode cX12_ask 2 = .ok (.putfield 3, 3) := by decide +kernel
theorem dX12_ask_5 : decode cX12_ask 5 = .ok (.aload_n 0, 1) := by decide +kernel
theorem dX12_ask_6 : decode cX12_ask 6 = .ok (.invokevirtual 440, 3) := by decide +kernel
theorem dX12_ask_9 : decode cX12_ask 9 = .ok (.istore_n 1, 1) := by decide +kernel
theorem dX12_ask_10 : decode cX12_ask 10 = .ok (.iload_n 1, 1) := by decide +kernel
theorem dX12_ask_11 : decode cX12_ask 11 = .ok (.ifCond .ne 6, 3) := by decide +kernel
theorem dX12_ask_14 : decode cX12_ask 14 = .ok (.bipush (-2), 2) := by decide +kernel
theorem dX12_ask_16 : decode cX12_ask 16 = .ok (.ireturn, 1) := by decide +kernel
theorem dX12_ask_17 : decode cX12_ask 17 = .ok (.iconst (-1), 1) := by decide +kernel
theorem dX12_ask_18 : decode cX12_ask 18 = .ok (.istore_n 2, 1) := by decide +kernel
theorem dX12_ask_19 : decode cX12_ask 19 = .ok (.ldc_w 349, 3) := by decide +kernel
theorem dX12_ask_22 : decode cX12_ask 22 = .ok (.istore_n 3, 1) := by decide +kernel
theorem dX12_ask_23 : decode cX12_ask 23 = .ok (.iconst 1, 1) := by decide +kernel
theorem dX12_ask_24 : decode cX12_ask 24 = .ok (.istore 4, 2) := by decide +kernel
theorem dX12_ask_26 : decode cX12_ask 26 = .ok (.iload 4, 2) := by decide +kernel
theorem dX12_ask_28 : decode cX12_ask 28 = .ok (.bipush 99, 2) := by decide +kernel
theorem dX12_ask_30 : decode cX12_ask 30 = .ok (.if_icmp .gt 98, 3) := by decide +kernel
theorem dX12_ask_33 : decode cX12_ask 33 = .ok (.iconst 0, 1) := by decide +kernel
theorem dX12_ask_34 : decode cX12_ask 34 = .ok (.istore 5, 2) := by decide +kernel
theorem dX12_ask_36 : decode cX12_ask 36 = .ok (.iconst 0, 1) := by decide +kernel
theorem dX12_ask_37 : decode cX12_ask 37 = .ok (.istore 6, 2) := by decide +kernel
theorem dX12_ask_39 : decode cX12_ask 39 = .ok (.iload 6, 2) := by decide +kernel
theorem dX12_ask_41 : decode cX12_ask 41 = .ok (.aload_n 0, 1) := by decide +kernel
theorem dX12_ask_42 : decode cX12_ask 42 = .ok (.getfield 130, 3) := by decide +kernel
theorem dX12_ask_45 : decode cX12_ask 45 = .ok (.if_icmp .ge 43, 3) := by decide +kernel
theorem dX12_ask_48 : decode cX12_ask 48 = .ok (.iload 5, 2) := by decide +kernel
theorem dX12_ask_50 : decode cX12_ask 50 = .ok (.iload_n 1, 1) := by decide +kernel
theorem dX12_ask_51 : decode cX12_ask 51 = .ok (.iload 6, 2) := by decide +kernel
theorem dX12_ask_53 : decode cX12_ask 53 = .ok (.invokestatic 276, 3) := by decide +kernel
theorem dX12_ask_56 : decode cX12_ask 56 = .ok (.ifCond .eq 19, 3) := by decide +kernel
theorem dX12_ask_59 : decode cX12_ask 59 = .ok (.aload_n 0, 1) := by decide +kernel
theorem dX12_ask_60 : decode cX12_ask 60 = .ok (.getfield 37, 3) := by decide +kernel
theorem dX12_ask_63 : decode cX12_ask 63 = .ok (.iload 6, 2) := by decide +kernel
theorem dX12_ask_65 : decode cX12_ask 65 = .ok (.iaload, 1) := by decide +kernel
theorem dX12_ask_66 : decode cX12_ask 66 = .ok (.iload 4, 2) := by decide +kernel
theorem dX12_ask_68 : decode cX12_ask 68 = .ok (.if_icmp .lt 7, 3) := by decide +kernel
theorem dX12_ask_71 : decode cX12_ask 71 = .ok (.iconst 1, 1) := by decide +kernel
theorem dX12_ask_72 : decode cX12_ask 72 = .ok (.goto 4, 3) := by decide +kernel
theorem dX12_ask_75 : decode cX12_ask 75 = .ok (.iconst 0, 1) := by decide +kernel
theorem dX12_ask_76 : decode cX12_ask 76 = .ok (.invokestatic 151, 3) := by decide +kernel
theorem dX12_ask_79 : decode cX12_ask 79 = .ok (.iadd, 1) := by decide +kernel
theorem dX12_ask_80 : decode cX12_ask 80 = .ok (.istore 5, 2) := by decide +kernel
theorem dX12_ask_82 : decode cX12_ask 82 = .ok (.iinc 6 1, 3) := by decide +kernel
theorem dX12_ask_85 : decode cX12_ask 85 = .ok (.goto (-46), 3) := by decide +kernel
theorem dX12_ask_88 : decode cX12_ask 88 = .ok (.iload 5, 2) := by decide +kernel
theorem dX12_ask_90 : decode cX12_ask 90 = .ok (.iload_n 1, 1) := by decide +kernel
theorem dX12_ask_91 : decode cX12_ask 91 = .ok (.invokestatic 344, 3) := by decide +kernel
theorem dX12_ask_94 : decode cX12_ask 94 = .ok (.iload 5, 2) := by decide +kernel
theorem dX12_ask_96 : decode cX12_ask 96 = .ok (.isub, 1) := by decide +kernel
theorem dX12_ask_97 : decode cX12_ask 97 = .ok (.invokestatic 258, 3) := by decide +kernel
theorem dX12_ask_100 : decode cX12_ask 100 = .ok (.istore 6, 2) := by decide +kernel
theorem dX12_ask_102 : decode cX12_ask 102 = .ok (.iload 6, 2) := by decide +kernel
theorem dX12_ask_104 : decode cX12_ask 104 = .ok (.iload_n 3, 1) := by decide +kernel
theorem dX12_ask_105 : decode cX12_ask 105 = .ok (.if_icmp .ge 8, 3) := by decide +kernel
theorem dX12_ask_108 : decode cX12_ask 108 = .ok (.iload 4, 2) := by decide +kernel
theorem dX12_ask_110 : decode cX12_ask 110 = .ok (.goto 4, 3) := by decide +kernel
theorem dX12_ask_113 : decode cX12_ask 113 = .ok (.iload_n 2, 1) := by decide +kernel
theorem dX12_ask_114 : decode cX12_ask 114 = .ok (.istore_n 2, 1) := by decide +kernel
theorem dX12_ask_115 : decode cX12_ask 115 = .ok (.iload_n 3, 1) := by decide +kernel
theorem dX12_ask_116 : decode cX12_ask 116 = .ok (.iload 6, 2) := by decide +kernel
theorem dX12_ask_118 : decode cX12_ask 118 = .ok (.invokestatic 142, 3) := by decide +kernel
theorem dX12_ask_121 : decode cX12_ask 121 = .ok (.istore_n 3, 1) := by decide +kernel
theorem dX12_ask_122 : decode cX12_ask 122 = .ok (.iinc 4 1, 3) := by decide +kernel
theorem dX12_ask_125 : decode cX12_ask 125 = .ok (.goto (-99), 3) := by decide +kernel
theorem dX12_ask_128 : decode cX12_ask 128 = .ok (.aload_n 0, 1) := by decide +kernel
theorem dX12_ask_129 : decode cX12_ask 129 = .ok (.iconst 0, 1) := by decide +kernel
theorem dX12_ask_130 : decode cX12_ask 130 = .ok (.putfield 15, 3) := by decide +kernel
theorem dX12_ask_133 : decode cX12_ask 133 = .ok (.aload_n 0, 1) := by decide +kernel
theorem dX12_ask_134 : decode cX12_ask 134 = .ok (.iload_n 3, 1) := by decide +kernel
theorem dX12_ask_135 : decode cX12_ask 135 = .ok (.i2l, 1) := by decide +kernel
theorem dX12_ask_136 : decode cX12_ask 136 = .ok (.invokevirtual 326, 3) := by decide +kernel
theorem dX12_ask_139 : decode cX12_ask 139 = .ok (.iload_n 2, 1) := by decide +kernel
theorem dX12_ask_140 : decode cX12_ask 140 = .ok (.ireturn, 1) := by decide +kernel
theorem dX12_law_0 : decode cX12_law 0 = .ok (.aload_n 0, 1) := by decide +kernel
theorem dX12_law_1 : decode cX12_law 1 = .ok (.iconst 0, 1) := by decide +kernel
theorem dX12_law_2 : decode cX12_law 2 = .ok (.putfield 3, 3) := by decide +kernel
theorem dX12_law_5 : decode cX12_law 5 = .ok (.aload_n 0, 1) := by decide +kernel
theorem dX12_law_6 : decode cX12_law 6 = .ok (.invokevirtual 247, 3) := by decide +kernel
theorem dX12_law_9 : decode cX12_law 9 = .ok (.istore_n 2, 1) := by decide +kernel
theorem dX12_law_10 : decode cX12_law 10 = .ok (.aload_n 0, 1) := by decide +kernel
theorem dX12_law_11 : decode cX12_law 11 = .ok (.iload_n 1, 1) := by decide +kernel
theorem dX12_law_12 : decode cX12_law 12 = .ok (.invokevirtual 273, 3) := by decide +kernel
theorem dX12_law_15 : decode cX12_law 15 = .ok (.ifCond .ne 7, 3) := by decide +kernel
theorem dX12_law_18 : decode cX12_law 18 = .ok (.sipush (-20000), 3) := by decide +kernel
theorem dX12_law_21 : decode cX12_law 21 = .ok (.ireturn, 1) := by decide +kernel
theorem dX12_law_22 : decode cX12_law 22 = .ok (.iload_n 2, 1) := by decide +kernel
theorem dX12_law_23 : decode cX12_law 23 = .ok (.ifCond .ge 11, 3) := by decide +kernel
theorem dX12_law_26 : decode cX12_law 26 = .ok (.iload_n 2, 1) := by decide +kernel
theorem dX12_law_27 : decode cX12_law 27 = .ok (.iconst 1, 1) := by decide +kernel
theorem dX12_law_28 : decode cX12_law 28 = .ok (.iadd, 1) := by decide +kernel
theorem dX12_law_29 : decode cX12_law 29 = .ok (.sipush 10000, 3) := by decide +kernel
theorem dX12_law_32 : decode cX12_law 32 = .ok (.isub, 1) := by decide +kernel
theorem dX12_law_33 : decode cX12_law 33 = .ok (.ireturn, 1) := by decide +kernel
theorem dX12_law_34 : decode cX12_law 34 = .ok (.aload_n 0, 1) := by decide +kernel
theorem dX12_law_35 : decode cX12_law 35 = .ok (.iload_n 1, 1) := by decide +kernel
theorem dX12_law_36 : decode cX12_law 36 = .ok (.invokevirtual 410, 3) := by decide +kernel
theorem dX12_law_39 : decode cX12_law 39 = .ok (.istore_n 3, 1) := by decide +kernel
theorem dX12_law_40 : decode cX12_law 40 = .ok (.aload_n 0, 1) := by decide +kernel
theorem dX12_law_41 : decode cX12_law 41 = .ok (.getfield 244, 3) := by decide +kernel
theorem dX12_law_44 : decode cX12_law 44 = .ok (.istore 4, 2) := by decide +kernel
theorem dX12_law_46 : decode cX12_law 46 = .ok (.iconst 0, 1) := by decide +kernel
theorem dX12_law_47 : decode cX12_law 47 = .ok (.istore 5, 2) := by decide +kernel
theorem dX12_law_49 : decode cX12_law 49 = .ok (.iload 5, 2) := by decide +kernel
theorem dX12_law_51 : decode cX12_law 51 = .ok (.aload_n 0, 1) := by decide +kernel
theorem dX12_law_52 : decode cX12_law 52 = .ok (.getfield 244, 3) := by decide +kernel
theorem dX12_law_55 : decode cX12_law 55 = .ok (.if_icmp .ge 23, 3) := by decide +kernel
theorem dX12_law_58 : decode cX12_law 58 = .ok (.aload_n 0, 1) := by decide +kernel
theorem dX12_law_59 : decode cX12_law 59 = .ok (.getfield 109, 3) := by decide +kernel
theorem dX12_law_62 : decode cX12_law 62 = .ok (.iload 5, 2) := by decide +kernel
theorem dX12_law_64 : decode cX12_law 64 = .ok (.aload_n 0, 1) := by decide +kernel
theorem dX12_law_65 : decode cX12_law 65 = .ok (.getfield 58, 3) := by decide +kernel
theorem dX12_law_68 : decode cX12_law 68 = .ok (.iload 5, 2) := by decide +kernel
theorem dX12_law_70 : decode cX12_law 70 = .ok (.iaload, 1) := by decide +kernel
theorem dX12_law_71 : decode cX12_law 71 = .ok (.iastore, 1) := by decide +kernel
theorem dX12_law_72 : decode cX12_law 72 = .ok (.iinc 5 1, 3) := by decide +kernel
theorem dX12_law_75 : decode cX12_law 75 = .ok (.goto (-26), 3) := by decide +kernel
theorem dX12_law_78 : decode cX12_law 78 = .ok (.aload_n 0, 1) := by decide +kernel
theorem dX12_law_79 : decode cX12_law 79 = .ok (.aload_n 0, 1) := by decide +kernel
theorem dX12_law_80 : decode cX12_law 80 = .ok (.getfield 61, 3) := by decide +kernel
theorem dX12_law_83 : decode cX12_law 83 = .ok (.aload_n 0, 1) := by decide +kernel
theorem dX12_law_84 : decode cX12_law 84 = .ok (.getfield 220, 3) := by decide +kernel
theorem dX12_law_87 : decode cX12_law 87 = .ok (.invokevirtual 250, 3) := by decide +kernel
theorem dX12_law_90 : decode cX12_law 90 = .ok (.aload_n 0, 1) := by decide +kernel
theorem dX12_law_91 : decode cX12_law 91 = .ok (.iload_n 1, 1) := by decide +kernel
theorem dX12_law_92 : decode cX12_law 92 = .ok (.invokevirtual 410, 3) := by decide +kernel
theorem dX12_law_95 : decode cX12_law 95 = .ok (.istore 5, 2) := by decide +kernel
theorem dX12_law_97 : decode cX12_law 97 = .ok (.aload_n 0, 1) := by decide +kernel
theorem dX12_law_98 : decode cX12_law 98 = .ok (.aload_n 0, 1) := by decide +kernel
theorem dX12_law_99 : decode cX12_law 99 = .ok (.getfield 109, 3) := by decide +kernel
theorem dX12_law_102 : decode cX12_law 102 = .ok (.iload 4, 2) := by decide +kernel
theorem dX12_law_104 : decode cX12_law 104 = .ok (.invokevirtual 250, 3) := by decide +kernel
theorem dX12_law_107 : decode cX12_law 107 = .ok (.aload_n 0, 1) := by decide +kernel
theorem dX12_law_108 : decode cX12_law 108 = .ok (.iconst 0, 1) := by decide +kernel
theorem dX12_law_109 : decode cX12_law 109 = .ok (.putfield 15, 3) := by decide +kernel
theorem dX12_law_112 : decode cX12_law 112 = .ok (.aload_n 0, 1) := by decide +kernel
theorem dX12_law_113 : decode cX12_law 113 = .ok (.iload 5, 2) := by decide +kernel
theorem dX12_law_115 : decode cX12_law 115 = .ok (.i2l, 1) := by decide +kernel
theorem dX12_law_116 : decode cX12_law 116 = .ok (.invokevirtual 326, 3) := by decide +kernel
theorem dX12_law_119 : decode cX12_law 119 = .ok (.aload_n 0, 1) := by decide +kernel
theorem dX12_law_120 : decode cX12_law 120 = .ok (.iload_n 3, 1) := by decide +kernel
theorem dX12_law_121 : decode cX12_law 121 = .ok (.i2l, 1) := by decide +kernel
theorem dX12_law_122 : decode cX12_law 122 = .ok (.invokevirtual 326, 3) := by decide +kernel
theorem dX12_law_125 : decode cX12_law 125 = .ok (.iload 5, 2) := by decide +kernel
theorem dX12_law_127 : decode cX12_law 127 = .ok (.iload_n 3, 1) := by decide +kernel
theorem dX12_law_128 : decode cX12_law 128 = .ok (.isub, 1) := by decide +kernel
theorem dX12_law_129 : decode cX12_law 129 = .ok (.ireturn, 1) := by decide +kernel
theorem dX12_wallHas_0 : decode cX12_wallHas 0 = .ok (.iload_n 1, 1) := by decide +kernel
theorem dX12_wallHas_1 : decode cX12_wallHas 1 = .ok (.iload_n 0, 1) := by decide +kernel
theorem dX12_wallHas_2 : decode cX12_wallHas 2 = .ok (.if_icmp .le 7, 3) := by decide +kernel
theorem dX12_wallHas_5 : decode cX12_wallHas 5 = .ok (.iconst 0, 1) := by decide +kernel
theorem dX12_wallHas_6 : decode cX12_wallHas 6 = .ok (.goto 4, 3) := by decide +kernel
theorem dX12_wallHas_9 : decode cX12_wallHas 9 = .ok (.iload_n 2, 1) := by decide +kernel
theorem dX12_wallHas_10 : decode cX12_wallHas 10 = .ok (.iload_n 3, 1) := by decide +kernel
theorem dX12_wallHas_11 : decode cX12_wallHas 11 = .ok (.iload_n 0, 1) := by decide +kernel
theorem dX12_wallHas_12 : decode cX12_wallHas 12 = .ok (.imul, 1) := by decide +kernel
theorem dX12_wallHas_13 : decode cX12_wallHas 13 = .ok (.isub, 1) := by decide +kernel
theorem dX12_wallHas_14 : decode cX12_wallHas 14 = .ok (.ireturn, 1) := by decide +kernel
theorem dX12_stormHas_0 : decode cX12_stormHas 0 = .ok (.iload_n 1, 1) := by decide +kernel
theorem dX12_stormHas_1 : decode cX12_stormHas 1 = .ok (.iload_n 0, 1) := by decide +kernel
theorem dX12_stormHas_2 : decode cX12_stormHas 2 = .ok (.if_icmp .le 7, 3) := by decide +kernel
theorem dX12_stormHas_5 : decode cX12_stormHas 5 = .ok (.iload_n 2, 1) := by decide +kernel
theorem dX12_stormHas_6 : decode cX12_stormHas 6 = .ok (.goto 4, 3) := by decide +kernel
theorem dX12_stormHas_9 : decode cX12_stormHas 9 = .ok (.iconst 0, 1) := by decide +kernel
theorem dX12_stormHas_10 : decode cX12_stormHas 10 = .ok (.iload_n 3, 1) := by decide +kernel
theorem dX12_stormHas_11 : decode cX12_stormHas 11 = .ok (.iload_n 1, 1) := by decide +kernel
theorem dX12_stormHas_12 : decode cX12_stormHas 12 = .ok (.imul, 1) := by decide +kernel
theorem dX12_stormHas_13 : decode cX12_stormHas 13 = .ok (.isub, 1) := by decide +kernel
theorem dX12_stormHas_14 : decode cX12_stormHas 14 = .ok (.ireturn, 1) := by decide +kernel
theorem dX12_isRest_0 : decode cX12_isRest 0 = .ok (.iconst 1, 1) := by decide +kernel
theorem dX12_isRest_1 : decode cX12_isRest 1 = .ok (.istore 4, 2) := by decide +kernel
theorem dX12_isRest_3 : decode cX12_isRest 3 = .ok (.iconst 0, 1) := by decide +kernel
theorem dX12_isRest_4 : decode cX12_isRest 4 = .ok (.istore 5, 2) := by decide +kernel
theorem dX12_isRest_6 : decode cX12_isRest 6 = .ok (.iload 5, 2) := by decide +kernel
theorem dX12_isRest_8 : decode cX12_isRest 8 = .ok (.bipush 9, 2) := by decide +kernel
theorem dX12_isRest_10 : decode cX12_isRest 10 = .ok (.if_icmp .gt 57, 3) := by decide +kernel
theorem dX12_isRest_13 : decode cX12_isRest 13 = .ok (.iload 4, 2) := by decide +kernel
theorem dX12_isRest_15 : decode cX12_isRest 15 = .ok (.ifCond .eq 43, 3) := by decide +kernel
theorem dX12_isRest_18 : decode cX12_isRest 18 = .ok (.iload 5, 2) := by decide +kernel
theorem dX12_isRest_20 : decode cX12_isRest 20 = .ok (.iload_n 1, 1) := by decide +kernel
theorem dX12_isRest_21 : decode cX12_isRest 21 = .ok (.iload_n 2, 1) := by decide +kernel
theorem dX12_isRest_22 : decode cX12_isRest 22 = .ok (.iload_n 3, 1) := by decide +kernel
theorem dX12_isRest_23 : decode cX12_isRest 23 = .ok (.invokestatic 443, 3) := by decide +kernel
theorem dX12_isRest_26 : decode cX12_isRest 26 = .ok (.iload_n 0, 1) := by decide +kernel
theorem dX12_isRest_27 : decode cX12_isRest 27 = .ok (.iload_n 1, 1) := by decide +kernel
theorem dX12_isRest_28 : decode cX12_isRest 28 = .ok (.iload_n 2, 1) := by decide +kernel
theorem dX12_isRest_29 : decode cX12_isRest 29 = .ok (.iload_n 3, 1) := by decide +kernel
theorem dX12_isRest_30 : decode cX12_isRest 30 = .ok (.invokestatic 443, 3) := by decide +kernel
theorem dX12_isRest_33 : decode cX12_isRest 33 = .ok (.if_icmp .gt 25, 3) := by decide +kernel
theorem dX12_isRest_36 : decode cX12_isRest 36 = .ok (.iload_n 0, 1) := by decide +kernel
theorem dX12_isRest_37 : decode cX12_isRest 37 = .ok (.iload 5, 2) := by decide +kernel
theorem dX12_isRest_39 : decode cX12_isRest 39 = .ok (.iload_n 2, 1) := by decide +kernel
theorem dX12_isRest_40 : decode cX12_isRest 40 = .ok (.iload_n 3, 1) := by decide +kernel
theorem dX12_isRest_41 : decode cX12_isRest 41 = .ok (.invokestatic 447, 3) := by decide +kernel
theorem dX12_isRest_44 : decode cX12_isRest 44 = .ok (.iload_n 0, 1) := by decide +kernel
theorem dX12_isRest_45 : decode cX12_isRest 45 = .ok (.iload_n 1, 1) := by decide +kernel
theorem dX12_isRest_46 : decode cX12_isRest 46 = .ok (.iload_n 2, 1) := by decide +kernel
theorem dX12_isRest_47 : decode cX12_isRest 47 = .ok (.iload_n 3, 1) := by decide +kernel
theorem dX12_isRest_48 : decode cX12_isRest 48 = .ok (.invokestatic 447, 3) := by decide +kernel
theorem dX12_isRest_51 : decode cX12_isRest 51 = .ok (.if_icmp .gt 7, 3) := by decide +kernel
theorem dX12_isRest_54 : decode cX12_isRest 54 = .ok (.iconst 1, 1) := by decide +kernel
theorem dX12_isRest_55 : decode cX12_isRest 55 = .ok (.goto 4, 3) := by decide +kernel
theorem dX12_isRest_58 : decode cX12_isRest 58 = .ok (.iconst 0, 1) := by decide +kernel
theorem dX12_isRest_59 : decode cX12_isRest 59 = .ok (.istore 4, 2) := by decide +kernel
theorem dX12_isRest_61 : decode cX12_isRest 61 = .ok (.iinc 5 1, 3) := by decide +kernel
theorem dX12_isRest_64 : decode cX12_isRest 64 = .ok (.goto (-58), 3) := by decide +kernel
theorem dX12_isRest_67 : decode cX12_isRest 67 = .ok (.iload 4, 2) := by decide +kernel
theorem dX12_isRest_69 : decode cX12_isRest 69 = .ok (.ireturn, 1) := by decide +kernel
theorem dX12_rests_0 : decode cX12_rests 0 = .ok (.aload_n 0, 1) := by decide +kernel
theorem dX12_rests_1 : decode cX12_rests 1 = .ok (.iconst 0, 1) := by decide +kernel
theorem dX12_rests_2 : decode cX12_rests 2 = .ok (.putfield 3, 3) := by decide +kernel
theorem dX12_rests_5 : decode cX12_rests 5 = .ok (.iload_n 1, 1) := by decide +kernel
theorem dX12_rests_6 : decode cX12_rests 6 = .ok (.i2l, 1) := by decide +kernel
theorem dX12_rests_7 : decode cX12_rests 7 = .ok (.lconst 1, 1) := by decide +kernel
theorem dX12_rests_8 : decode cX12_rests 8 = .ok (.ldc2_w 353, 3) := by decide +kernel
theorem dX12_rests_11 : decode cX12_rests 11 = .ok (.invokestatic 126, 3) := by decide +kernel
theorem dX12_rests_14 : decode cX12_rests 14 = .ok (.ifCond .eq 15, 3) := by decide +kernel
theorem dX12_rests_17 : decode cX12_rests 17 = .ok (.iload_n 2, 1) := by decide +kernel
theorem dX12_rests_18 : decode cX12_rests 18 = .ok (.i2l, 1) := by decide +kernel
theorem dX12_rests_19 : decode cX12_rests 19 = .ok (.lconst 0, 1) := by decide +kernel
theorem dX12_rests_20 : decode cX12_rests 20 = .ok (.ldc2_w 429, 3) := by decide +kernel
theorem dX12_rests_23 : decode cX12_rests 23 = .ok (.invokestatic 126, 3) := by decide +kernel
theorem dX12_rests_26 : decode cX12_rests 26 = .ok (.ifCond .ne 5, 3) := by decide +kernel
theorem dX12_rests_29 : decode cX12_rests 29 = .ok (.iconst (-1), 1) := by decide +kernel
theorem dX12_rests_30 : decode cX12_rests 30 = .ok (.ireturn, 1) := by decide +kernel
theorem dX12_rests_31 : decode cX12_rests 31 = .ok (.iconst 0, 1) := by decide +kernel
theorem dX12_rests_32 : decode cX12_rests 32 = .ok (.istore_n 3, 1) := by decide +kernel
theorem dX12_rests_33 : decode cX12_rests 33 = .ok (.aload_n 0, 1) := by decide +kernel
theorem dX12_rests_34 : decode cX12_rests 34 = .ok (.iconst 0, 1) := by decide +kernel
theorem dX12_rests_35 : decode cX12_rests 35 = .ok (.putfield 15, 3) := by decide +kernel
theorem dX12_rests_38 : decode cX12_rests 38 = .ok (.iconst 0, 1) := by decide +kernel
theorem dX12_rests_39 : decode cX12_rests 39 = .ok (.istore 4, 2) := by decide +kernel
theorem dX12_rests_41 : decode cX12_rests 41 = .ok (.iload 4, 2) := by decide +kernel
theorem dX12_rests_43 : decode cX12_rests 43 = .ok (.bipush 9, 2) := by decide +kernel
theorem dX12_rests_45 : decode cX12_rests 45 = .ok (.if_icmp .gt 58, 3) := by decide +kernel
theorem dX12_rests_48 : decode cX12_rests 48 = .ok (.iconst 0, 1) := by decide +kernel
theorem dX12_rests_49 : decode cX12_rests 49 = .ok (.istore 5, 2) := by decide +kernel
theorem dX12_rests_51 : decode cX12_rests 51 = .ok (.iload 5, 2) := by decide +kernel
theorem dX12_rests_53 : decode cX12_rests 53 = .ok (.bipush 9, 2) := by decide +kernel
theorem dX12_rests_55 : decode cX12_rests 55 = .ok (.if_icmp .gt 42, 3) := by decide +kernel
theorem dX12_rests_58 : decode cX12_rests 58 = .ok (.iload 4, 2) := by decide +kernel
theorem dX12_rests_60 : decode cX12_rests 60 = .ok (.iload 5, 2) := by decide +kernel
theorem dX12_rests_62 : decode cX12_rests 62 = .ok (.iload_n 1, 1) := by decide +kernel
theorem dX12_rests_63 : decode cX12_rests 63 = .ok (.iload_n 2, 1) := by decide +kernel
theorem dX12_rests_64 : decode cX12_rests 64 = .ok (.invokestatic 450, 3) := by decide +kernel
theorem dX12_rests_67 : decode cX12_rests 67 = .ok (.ifCond .eq 24, 3) := by decide +kernel
theorem dX12_rests_70 : decode cX12_rests 70 = .ok (.iload_n 3, 1) := by decide +kernel
theorem dX12_rests_71 : decode cX12_rests 71 = .ok (.ifCond .ne 17, 3) := by decide +kernel
theorem dX12_rests_74 : decode cX12_rests 74 = .ok (.aload_n 0, 1) := by decide +kernel
theorem dX12_rests_75 : decode cX12_rests 75 = .ok (.iload 4, 2) := by decide +kernel
theorem dX12_rests_77 : decode cX12_rests 77 = .ok (.i2l, 1) := by decide +kernel
theorem dX12_rests_78 : decode cX12_rests 78 = .ok (.invokevirtual 326, 3) := by decide +kernel
theorem dX12_rests_81 : decode cX12_rests 81 = .ok (.aload_n 0, 1) := by decide +kernel
theorem dX12_rests_82 : decode cX12_rests 82 = .ok (.iload 5, 2) := by decide +kernel
theorem dX12_rests_84 : decode cX12_rests 84 = .ok (.i2l, 1) := by decide +kernel
theorem dX12_rests_85 : decode cX12_rests 85 = .ok (.invokevirtual 326, 3) := by decide +kernel
theorem dX12_rests_88 : decode cX12_rests 88 = .ok (.iinc 3 1, 3) := by decide +kernel
theorem dX12_rests_91 : decode cX12_rests 91 = .ok (.iinc 5 1, 3) := by decide +kernel
theorem dX12_rests_94 : decode cX12_rests 94 = .ok (.goto (-43), 3) := by decide +kernel
theorem dX12_rests_97 : decode cX12_rests 97 = .ok (.iinc 4 1, 3) := by decide +kernel
theorem dX12_rests_100 : decode cX12_rests 100 = .ok (.goto (-59), 3) := by decide +kernel
theorem dX12_rests_103 : decode cX12_rests 103 = .ok (.iload_n 3, 1) := by decide +kernel
theorem dX12_rests_104 : decode cX12_rests 104 = .ok (.ireturn, 1) := by decide +kernel
theorem dX12_draws_0 : decode cX12_draws 0 = .ok (.aload_n 0, 1) := by decide +kernel
theorem dX12_draws_1 : decode cX12_draws 1 = .ok (.aload_n 0, 1) := by decide +kernel
theorem dX12_draws_2 : decode cX12_draws 2 = .ok (.getfield 454, 3) := by decide +kernel
theorem dX12_draws_5 : decode cX12_draws 5 = .ok (.ldc_w 457, 3) := by decide +kernel
theorem dX12_draws_8 : decode cX12_draws 8 = .ok (.imul, 1) := by decide +kernel
theorem dX12_draws_9 : decode cX12_draws 9 = .ok (.sipush 12345, 3) := by decide +kernel
theorem dX12_draws_12 : decode cX12_draws 12 = .ok (.iadd, 1) := by decide +kernel
theorem dX12_draws_13 : decode cX12_draws 13 = .ok (.putfield 454, 3) := by decide +kernel
theorem dX12_draws_16 : decode cX12_draws 16 = .ok (.aload_n 0, 1) := by decide +kernel
theorem dX12_draws_17 : decode cX12_draws 17 = .ok (.getfield 454, 3) := by decide +kernel
theorem dX12_draws_20 : decode cX12_draws 20 = .ok (.bipush 16, 2) := by decide +kernel
theorem dX12_draws_22 : decode cX12_draws 22 = .ok (.iushr, 1) := by decide +kernel
theorem dX12_draws_23 : decode cX12_draws 23 = .ok (.iload_n 1, 1) := by decide +kernel
theorem dX12_draws_24 : decode cX12_draws 24 = .ok (.irem, 1) := by decide +kernel
theorem dX12_draws_25 : decode cX12_draws 25 = .ok (.ireturn, 1) := by decide +kernel
theorem dX12_sieges_0 : decode cX12_sieges 0 = .ok (.aload_n 0, 1) := by decide +kernel
theorem dX12_sieges_1 : decode cX12_sieges 1 = .ok (.iconst 0, 1) := by decide +kernel
theorem dX12_sieges_2 : decode cX12_sieges 2 = .ok (.putfield 3, 3) := by decide +kernel
theorem dX12_sieges_5 : decode cX12_sieges 5 = .ok (.aload_n 0, 1) := by decide +kernel
theorem dX12_sieges_6 : decode cX12_sieges 6 = .ok (.getfield 130, 3) := by decide +kernel
theorem dX12_sieges_9 : decode cX12_sieges 9 = .ok (.ifCond .ne 6, 3) := by decide +kernel
theorem dX12_sieges_12 : decode cX12_sieges 12 = .ok (.bipush (-2), 2) := by decide +kernel
theorem dX12_sieges_14 : decode cX12_sieges 14 = .ok (.ireturn, 1) := by decide +kernel
theorem dX12_sieges_15 : decode cX12_sieges 15 = .ok (.iload_n 2, 1) := by decide +kernel
theorem dX12_sieges_16 : decode cX12_sieges 16 = .ok (.i2l, 1) := by decide +kernel
theorem dX12_sieges_17 : decode cX12_sieges 17 = .ok (.lconst 1, 1) := by decide +kernel
theorem dX12_sieges_18 : decode cX12_sieges 18 = .ok (.ldc2_w 353, 3) := by decide +kernel
theorem dX12_sieges_21 : decode cX12_sieges 21 = .ok (.invokestatic 126, 3) := by decide +kernel
theorem dX12_sieges_24 : decode cX12_sieges 24 = .ok (.ifCond .ne 5, 3) := by decide +kernel
theorem dX12_sieges_27 : decode cX12_sieges 27 = .ok (.iconst (-1), 1) := by decide +kernel
theorem dX12_sieges_28 : decode cX12_sieges 28 = .ok (.ireturn, 1) := by decide +kernel
theorem dX12_sieges_29 : decode cX12_sieges 29 = .ok (.aload_n 0, 1) := by decide +kernel
theorem dX12_sieges_30 : decode cX12_sieges 30 = .ok (.iload_n 1, 1) := by decide +kernel
theorem dX12_sieges_31 : decode cX12_sieges 31 = .ok (.putfield 454, 3) := by decide +kernel
theorem dX12_sieges_34 : decode cX12_sieges 34 = .ok (.iconst 0, 1) := by decide +kernel
theorem dX12_sieges_35 : decode cX12_sieges 35 = .ok (.istore_n 3, 1) := by decide +kernel
theorem dX12_sieges_36 : decode cX12_sieges 36 = .ok (.aload_n 0, 1) := by decide +kernel
theorem dX12_sieges_37 : decode cX12_sieges 37 = .ok (.invokevirtual 407, 3) := by decide +kernel
theorem dX12_sieges_40 : decode cX12_sieges 40 = .ok (.iconst 1, 1) := by decide +kernel
theorem dX12_sieges_41 : decode cX12_sieges 41 = .ok (.istore 4, 2) := by decide +kernel
theorem dX12_sieges_43 : decode cX12_sieges 43 = .ok (.iload 4, 2) := by decide +kernel
theorem dX12_sieges_45 : decode cX12_sieges 45 = .ok (.iload_n 2, 1) := by decide +kernel
theorem dX12_sieges_46 : decode cX12_sieges 46 = .ok (.if_icmp .gt 63, 3) := by decide +kernel
theorem dX12_sieges_49 : decode cX12_sieges 49 = .ok (.aload_n 0, 1) := by decide +kernel
theorem dX12_sieges_50 : decode cX12_sieges 50 = .ok (.aload_n 0, 1) := by decide +kernel
theorem dX12_sieges_51 : decode cX12_sieges 51 = .ok (.getfield 130, 3) := by decide +kernel
theorem dX12_sieges_54 : decode cX12_sieges 54 = .ok (.invokevirtual 458, 3) := by decide +kernel
theorem dX12_sieges_57 : decode cX12_sieges 57 = .ok (.istore 5, 2) := by decide +kernel
theorem dX12_sieges_59 : decode cX12_sieges 59 = .ok (.iload_n 3, 1) := by decide +kernel
theorem dX12_sieges_60 : decode cX12_sieges 60 = .ok (.aload_n 0, 1) := by decide +kernel
theorem dX12_sieges_61 : decode cX12_sieges 61 = .ok (.aload_n 0, 1) := by decide +kernel
theorem dX12_sieges_62 : decode cX12_sieges 62 = .ok (.getfield 46, 3) := by decide +kernel
theorem dX12_sieges_65 : decode cX12_sieges 65 = .ok (.iload 5, 2) := by decide +kernel
theorem dX12_sieges_67 : decode cX12_sieges 67 = .ok (.aload_n 0, 1) := by decide +kernel
theorem dX12_sieges_68 : decode cX12_sieges 68 = .ok (.iconst 4, 1) := by decide +kernel
theorem dX12_sieges_69 : decode cX12_sieges 69 = .ok (.invokevirtual 458, 3) := by decide +kernel
theorem dX12_sieges_72 : decode cX12_sieges 72 = .ok (.invokevirtual 311, 3) := by decide +kernel
theorem dX12_sieges_75 : decode cX12_sieges 75 = .ok (.ifCond .lt 7, 3) := by decide +kernel
theorem dX12_sieges_78 : decode cX12_sieges 78 = .ok (.iconst 1, 1) := by decide +kernel
theorem dX12_sieges_79 : decode cX12_sieges 79 = .ok (.goto 4, 3) := by decide +kernel
theorem dX12_sieges_82 : decode cX12_sieges 82 = .ok (.iconst 0, 1) := by decide +kernel
theorem dX12_sieges_83 : decode cX12_sieges 83 = .ok (.invokestatic 151, 3) := by decide +kernel
theorem dX12_sieges_86 : decode cX12_sieges 86 = .ok (.iadd, 1) := by decide +kernel
theorem dX12_sieges_87 : decode cX12_sieges 87 = .ok (.istore_n 3, 1) := by decide +kernel
theorem dX12_sieges_88 : decode cX12_sieges 88 = .ok (.iload 4, 2) := by decide +kernel
theorem dX12_sieges_90 : decode cX12_sieges 90 = .ok (.iconst 3, 1) := by decide +kernel
theorem dX12_sieges_91 : decode cX12_sieges 91 = .ok (.irem, 1) := by decide +kernel
theorem dX12_sieges_92 : decode cX12_sieges 92 = .ok (.ifCond .ne 11, 3) := by decide +kernel
theorem dX12_sieges_95 : decode cX12_sieges 95 = .ok (.aload_n 0, 1) := by decide +kernel
theorem dX12_sieges_96 : decode cX12_sieges 96 = .ok (.aload_n 0, 1) := by decide +kernel
theorem dX12_sieges_97 : decode cX12_sieges 97 = .ok (.getfield 46, 3) := by decide +kernel
theorem dX12_sieges_100 : decode cX12_sieges 100 = .ok (.invokevirtual 322, 3) := by decide +kernel
theorem dX12_sieges_103 : decode cX12_sieges 103 = .ok (.iinc 4 1, 3) := by decide +kernel
theorem dX12_sieges_106 : decode cX12_sieges 106 = .ok (.goto (-63), 3) := by decide +kernel
theorem dX12_sieges_109 : decode cX12_sieges 109 = .ok (.aload_n 0, 1) := by decide +kernel
theorem dX12_sieges_110 : decode cX12_sieges 110 = .ok (.iconst 0, 1) := by decide +kernel
theorem dX12_sieges_111 : decode cX12_sieges 111 = .ok (.putfield 15, 3) := by decide +kernel
theorem dX12_sieges_114 : decode cX12_sieges 114 = .ok (.aload_n 0, 1) := by decide +kernel
theorem dX12_sieges_115 : decode cX12_sieges 115 = .ok (.aload_n 0, 1) := by decide +kernel
theorem dX12_sieges_116 : decode cX12_sieges 116 = .ok (.aload_n 0, 1) := by decide +kernel
theorem dX12_sieges_117 : decode cX12_sieges 117 = .ok (.getfield 46, 3) := by decide +kernel
theorem dX12_sieges_120 : decode cX12_sieges 120 = .ok (.invokevirtual 279, 3) := by decide +kernel
theorem dX12_sieges_123 : decode cX12_sieges 123 = .ok (.invokestatic 344, 3) := by decide +kernel
theorem dX12_sieges_126 : decode cX12_sieges 126 = .ok (.i2l, 1) := by decide +kernel
theorem dX12_sieges_127 : decode cX12_sieges 127 = .ok (.invokevirtual 326, 3) := by decide +kernel
theorem dX12_sieges_130 : decode cX12_sieges 130 = .ok (.aload_n 0, 1) := by decide +kernel
theorem dX12_sieges_131 : decode cX12_sieges 131 = .ok (.aload_n 0, 1) := by decide +kernel
theorem dX12_sieges_132 : decode cX12_sieges 132 = .ok (.getfield 46, 3) := by decide +kernel
theorem dX12_sieges_135 : decode cX12_sieges 135 = .ok (.bipush 49, 2) := by decide +kernel
theorem dX12_sieges_137 : decode cX12_sieges 137 = .ok (.iaload, 1) := by decide +kernel
theorem dX12_sieges_138 : decode cX12_sieges 138 = .ok (.aload_n 0, 1) := by decide +kernel
theorem dX12_sieges_139 : decode cX12_sieges 139 = .ok (.getfield 43, 3) := by decide +kernel
theorem dX12_sieges_142 : decode cX12_sieges 142 = .ok (.bipush 49, 2) := by decide +kernel
theorem dX12_sieges_144 : decode cX12_sieges 144 = .ok (.iaload, 1) := by decide +kernel
theorem dX12_sieges_145 : decode cX12_sieges 145 = .ok (.isub, 1) := by decide +kernel
theorem dX12_sieges_146 : decode cX12_sieges 146 = .ok (.i2l, 1) := by decide +kernel
theorem dX12_sieges_147 : decode cX12_sieges 147 = .ok (.invokevirtual 326, 3) := by decide +kernel
theorem dX12_sieges_150 : decode cX12_sieges 150 = .ok (.iload_n 3, 1) := by decide +kernel
theorem dX12_sieges_151 : decode cX12_sieges 151 = .ok (.ireturn, 1) := by decide +kernel
theorem dX12_keep_0 : decode cX12_keep 0 = .ok (.aload_n 0, 1) := by decide +kernel
theorem dX12_keep_1 : decode cX12_keep 1 = .ok (.iconst 0, 1) := by decide +kernel
theorem dX12_keep_2 : decode cX12_keep 2 = .ok (.putfield 3, 3) := by decide +kernel
theorem dX12_keep_5 : decode cX12_keep 5 = .ok (.iload_n 1, 1) := by decide +kernel
theorem dX12_keep_6 : decode cX12_keep 6 = .ok (.i2l, 1) := by decide +kernel
theorem dX12_keep_7 : decode cX12_keep 7 = .ok (.lconst 0, 1) := by decide +kernel
theorem dX12_keep_8 : decode cX12_keep 8 = .ok (.ldc2_w 405, 3) := by decide +kernel
theorem dX12_keep_11 : decode cX12_keep 11 = .ok (.invokestatic 126, 3) := by decide +kernel
theorem dX12_keep_14 : decode cX12_keep 14 = .ok (.ifCond .ne 5, 3) := by decide +kernel
theorem dX12_keep_17 : decode cX12_keep 17 = .ok (.iconst 0, 1) := by decide +kernel
theorem dX12_keep_18 : decode cX12_keep 18 = .ok (.ireturn, 1) := by decide +kernel
theorem dX12_keep_19 : decode cX12_keep 19 = .ok (.aload_n 0, 1) := by decide +kernel
theorem dX12_keep_20 : decode cX12_keep 20 = .ok (.getfield 112, 3) := by decide +kernel
theorem dX12_keep_23 : decode cX12_keep 23 = .ok (.iload_n 1, 1) := by decide +kernel
theorem dX12_keep_24 : decode cX12_keep 24 = .ok (.iconst 1, 1) := by decide +kernel
theorem dX12_keep_25 : decode cX12_keep 25 = .ok (.bastore, 1) := by decide +kernel
theorem dX12_keep_26 : decode cX12_keep 26 = .ok (.aload_n 0, 1) := by decide +kernel
theorem dX12_keep_27 : decode cX12_keep 27 = .ok (.getfield 116, 3) := by decide +kernel
theorem dX12_keep_30 : decode cX12_keep 30 = .ok (.iload_n 1, 1) := by decide +kernel
theorem dX12_keep_31 : decode cX12_keep 31 = .ok (.aload_n 0, 1) := by decide +kernel
theorem dX12_keep_32 : decode cX12_keep 32 = .ok (.getfield 201, 3) := by decide +kernel
theorem dX12_keep_35 : decode cX12_keep 35 = .ok (.iastore, 1) := by decide +kernel
theorem dX12_keep_36 : decode cX12_keep 36 = .ok (.iconst 0, 1) := by decide +kernel
theorem dX12_keep_37 : decode cX12_keep 37 = .ok (.istore_n 2, 1) := by decide +kernel
theorem dX12_keep_38 : decode cX12_keep 38 = .ok (.iload_n 2, 1) := by decide +kernel
theorem dX12_keep_39 : decode cX12_keep 39 = .ok (.bipush 50, 2) := by decide +kernel
theorem dX12_keep_41 : decode cX12_keep 41 = .ok (.if_icmp .ge 26, 3) := by decide +kernel
theorem dX12_keep_44 : decode cX12_keep 44 = .ok (.aload_n 0, 1) := by decide +kernel
theorem dX12_keep_45 : decode cX12_keep 45 = .ok (.getfield 119, 3) := by decide +kernel
theorem dX12_keep_48 : decode cX12_keep 48 = .ok (.bipush 50, 2) := by decide +kernel
theorem dX12_keep_50 : decode cX12_keep 50 = .ok (.iload_n 1, 1) := by decide +kernel
theorem dX12_keep_51 : decode cX12_keep 51 = .ok (.imul, 1) := by decide +kernel
theorem dX12_keep_52 : decode cX12_keep 52 = .ok (.iload_n 2, 1) := by decide +kernel
theorem dX12_keep_53 : decode cX12_keep 53 = .ok (.iadd, 1) := by decide +kernel
theorem dX12_keep_54 : decode cX12_keep 54 = .ok (.aload_n 0, 1) := by decide +kernel
theorem dX12_keep_55 : decode cX12_keep 55 = .ok (.getfield 43, 3) := by decide +kernel
theorem dX12_keep_58 : decode cX12_keep 58 = .ok (.iload_n 2, 1) := by decide +kernel
theorem dX12_keep_59 : decode cX12_keep 59 = .ok (.iaload, 1) := by decide +kernel
theorem dX12_keep_60 : decode cX12_keep 60 = .ok (.iastore, 1) := by decide +kernel
theorem dX12_keep_61 : decode cX12_keep 61 = .ok (.iinc 2 1, 3) := by decide +kernel
theorem dX12_keep_64 : decode cX12_keep 64 = .ok (.goto (-26), 3) := by decide +kernel
theorem dX12_keep_67 : decode cX12_keep 67 = .ok (.iconst 1, 1) := by decide +kernel
theorem dX12_keep_68 : decode cX12_keep 68 = .ok (.ireturn, 1) := by decide +kernel
theorem dX12_again_0 : decode cX12_again 0 = .ok (.aload_n 0, 1) := by decide +kernel
theorem dX12_again_1 : decode cX12_again 1 = .ok (.iconst 0, 1) := by decide +kernel
theorem dX12_again_2 : decode cX12_again 2 = .ok (.putfield 3, 3) := by decide +kernel
theorem dX12_again_5 : decode cX12_again 5 = .ok (.iload_n 1, 1) := by decide +kernel
theorem dX12_again_6 : decode cX12_again 6 = .ok (.i2l, 1) := by decide +kernel
theorem dX12_again_7 : decode cX12_again 7 = .ok (.lconst 0, 1) := by decide +kernel
theorem dX12_again_8 : decode cX12_again 8 = .ok (.ldc2_w 405, 3) := by decide +kernel
theorem dX12_again_11 : decode cX12_again 11 = .ok (.invokestatic 126, 3) := by decide +kernel
theorem dX12_again_14 : decode cX12_again 14 = .ok (.ifCond .eq 25, 3) := by decide +kernel
theorem dX12_again_17 : decode cX12_again 17 = .ok (.aload_n 0, 1) := by decide +kernel
theorem dX12_again_18 : decode cX12_again 18 = .ok (.getfield 112, 3) := by decide +kernel
theorem dX12_again_21 : decode cX12_again 21 = .ok (.iload_n 1, 1) := by decide +kernel
theorem dX12_again_22 : decode cX12_again 22 = .ok (.baload, 1) := by decide +kernel
theorem dX12_again_23 : decode cX12_again 23 = .ok (.ifCond .eq 16, 3) := by decide +kernel
theorem dX12_again_26 : decode cX12_again 26 = .ok (.aload_n 0, 1) := by decide +kernel
theorem dX12_again_27 : decode cX12_again 27 = .ok (.getfield 116, 3) := by decide +kernel
theorem dX12_again_30 : decode cX12_again 30 = .ok (.iload_n 1, 1) := by decide +kernel
theorem dX12_again_31 : decode cX12_again 31 = .ok (.iaload, 1) := by decide +kernel
theorem dX12_again_32 : decode cX12_again 32 = .ok (.aload_n 0, 1) := by decide +kernel
theorem dX12_again_33 : decode cX12_again 33 = .ok (.getfield 201, 3) := by decide +kernel
theorem dX12_again_36 : decode cX12_again 36 = .ok (.if_icmp .eq 5, 3) := by decide +kernel
theorem dX12_again_39 : decode cX12_again 39 = .ok (.iconst 0, 1) := by decide +kernel
theorem dX12_again_40 : decode cX12_again 40 = .ok (.ireturn, 1) := by decide +kernel
theorem dX12_again_41 : decode cX12_again 41 = .ok (.iconst 0, 1) := by decide +kernel
theorem dX12_again_42 : decode cX12_again 42 = .ok (.istore_n 2, 1) := by decide +kernel
theorem dX12_again_43 : decode cX12_again 43 = .ok (.iload_n 2, 1) := by decide +kernel
theorem dX12_again_44 : decode cX12_again 44 = .ok (.bipush 50, 2) := by decide +kernel
theorem dX12_again_46 : decode cX12_again 46 = .ok (.if_icmp .ge 26, 3) := by decide +kernel
theorem dX12_again_49 : decode cX12_again 49 = .ok (.aload_n 0, 1) := by decide +kernel
theorem dX12_again_50 : decode cX12_again 50 = .ok (.getfield 43, 3) := by decide +kernel
theorem dX12_again_53 : decode cX12_again 53 = .ok (.iload_n 2, 1) := by decide +kernel
theorem dX12_again_54 : decode cX12_again 54 = .ok (.aload_n 0, 1) := by decide +kernel
theorem dX12_again_55 : decode cX12_again 55 = .ok (.getfield 119, 3) := by decide +kernel
theorem dX12_again_58 : decode cX12_again 58 = .ok (.bipush 50, 2) := by decide +kernel
theorem dX12_again_60 : decode cX12_again 60 = .ok (.iload_n 1, 1) := by decide +kernel
theorem dX12_again_61 : decode cX12_again 61 = .ok (.imul, 1) := by decide +kernel
theorem dX12_again_62 : decode cX12_again 62 = .ok (.iload_n 2, 1) := by decide +kernel
theorem dX12_again_63 : decode cX12_again 63 = .ok (.iadd, 1) := by decide +kernel
theorem dX12_again_64 : decode cX12_again 64 = .ok (.iaload, 1) := by decide +kernel
theorem dX12_again_65 : decode cX12_again 65 = .ok (.iastore, 1) := by decide +kernel
theorem dX12_again_66 : decode cX12_again 66 = .ok (.iinc 2 1, 3) := by decide +kernel
theorem dX12_again_69 : decode cX12_again 69 = .ok (.goto (-26), 3) := by decide +kernel
theorem dX12_again_72 : decode cX12_again 72 = .ok (.aload_n 0, 1) := by decide +kernel
theorem dX12_again_73 : decode cX12_again 73 = .ok (.iconst 0, 1) := by decide +kernel
theorem dX12_again_74 : decode cX12_again 74 = .ok (.putfield 198, 3) := by decide +kernel
theorem dX12_again_77 : decode cX12_again 77 = .ok (.iconst 1, 1) := by decide +kernel
theorem dX12_again_78 : decode cX12_again 78 = .ok (.ireturn, 1) := by decide +kernel
theorem dX12_count_0 : decode cX12_count 0 = .ok (.aload_n 0, 1) := by decide +kernel
theorem dX12_count_1 : decode cX12_count 1 = .ok (.iconst 0, 1) := by decide +kernel
theorem dX12_count_2 : decode cX12_count 2 = .ok (.putfield 3, 3) := by decide +kernel
theorem dX12_count_5 : decode cX12_count 5 = .ok (.iload_n 1, 1) := by decide +kernel
theorem dX12_count_6 : decode cX12_count 6 = .ok (.tableswitch 185 0 15 #[78, 83, 88, 93, 100, 108, 116, 124, 131, 139, 147, 156, 165, 170, 175, 180], 78) := by decide +kernel
theorem dX12_count_84 : decode cX12_count 84 = .ok (.aload_n 0, 1) := by decide +kernel
theorem dX12_count_85 : decode cX12_count 85 = .ok (.getfield 24, 3) := by decide +kernel
theorem dX12_count_88 : decode cX12_count 88 = .ok (.ireturn, 1) := by decide +kernel
theorem dX12_count_89 : decode cX12_count 89 = .ok (.aload_n 0, 1) := by decide +kernel
theorem dX12_count_90 : decode cX12_count 90 = .ok (.getfield 27, 3) := by decide +kernel
theorem dX12_count_93 : decode cX12_count 93 = .ok (.ireturn, 1) := by decide +kernel
theorem dX12_count_94 : decode cX12_count 94 = .ok (.aload_n 0, 1) := by decide +kernel
theorem dX12_count_95 : decode cX12_count 95 = .ok (.getfield 130, 3) := by decide +kernel
theorem dX12_count_98 : decode cX12_count 98 = .ok (.ireturn, 1) := by decide +kernel
theorem dX12_count_99 : decode cX12_count 99 = .ok (.aload_n 0, 1) := by decide +kernel
theorem dX12_count_100 : decode cX12_count 100 = .ok (.getfield 40, 3) := by decide +kernel
theorem dX12_count_103 : decode cX12_count 103 = .ok (.iconst 0, 1) := by decide +kernel
theorem dX12_count_104 : decode cX12_count 104 = .ok (.iaload, 1) := by decide +kernel
theorem dX12_count_105 : decode cX12_count 105 = .ok (.ireturn, 1) := by decide +kernel
theorem dX12_count_106 : decode cX12_count 106 = .ok (.aload_n 0, 1) := by decide +kernel
theorem dX12_count_107 : decode cX12_count 107 = .ok (.getfield 43, 3) := by decide +kernel
theorem dX12_count_110 : decode cX12_count 110 = .ok (.bipush 45, 2) := by decide +kernel
theorem dX12_count_112 : decode cX12_count 112 = .ok (.iaload, 1) := by decide +kernel
theorem dX12_count_113 : decode cX12_count 113 = .ok (.ireturn, 1) := by decide +kernel
theorem dX12_count_114 : decode cX12_count 114 = .ok (.aload_n 0, 1) := by decide +kernel
theorem dX12_count_115 : decode cX12_count 115 = .ok (.getfield 43, 3) := by decide +kernel
theorem dX12_count_118 : decode cX12_count 118 = .ok (.bipush 46, 2) := by decide +kernel
theorem dX12_count_120 : decode cX12_count 120 = .ok (.iaload, 1) := by decide +kernel
theorem dX12_count_121 : decode cX12_count 121 = .ok (.ireturn, 1) := by decide +kernel
theorem dX12_count_122 : decode cX12_count 122 = .ok (.aload_n 0, 1) := by decide +kernel
theorem dX12_count_123 : decode cX12_count 123 = .ok (.getfield 43, 3) := by decide +kernel
theorem dX12_count_126 : decode cX12_count 126 = .ok (.bipush 47, 2) := by decide +kernel
theorem dX12_count_128 : decode cX12_count 128 = .ok (.iaload, 1) := by decide +kernel
theorem dX12_count_129 : decode cX12_count 129 = .ok (.ireturn, 1) := by decide +kernel
theorem dX12_count_130 : decode cX12_count 130 = .ok (.aload_n 0, 1) := by decide +kernel
theorem dX12_count_131 : decode cX12_count 131 = .ok (.getfield 40, 3) := by decide +kernel
theorem dX12_count_134 : decode cX12_count 134 = .ok (.iconst 1, 1) := by decide +kernel
theorem dX12_count_135 : decode cX12_count 135 = .ok (.iaload, 1) := by decide +kernel
theorem dX12_count_136 : decode cX12_count 136 = .ok (.ireturn, 1) := by decide +kernel
theorem dX12_count_137 : decode cX12_count 137 = .ok (.aload_n 0, 1) := by decide +kernel
theorem dX12_count_138 : decode cX12_count 138 = .ok (.getfield 43, 3) := by decide +kernel
theorem dX12_count_141 : decode cX12_count 141 = .ok (.bipush 48, 2) := by decide +kernel
theorem dX12_count_143 : decode cX12_count 143 = .ok (.iaload, 1) := by decide +kernel
theorem dX12_count_144 : decode cX12_count 144 = .ok (.ireturn, 1) := by decide +kernel
theorem dX12_count_145 : decode cX12_count 145 = .ok (.aload_n 0, 1) := by decide +kernel
theorem dX12_count_146 : decode cX12_count 146 = .ok (.getfield 43, 3) := by decide +kernel
theorem dX12_count_149 : decode cX12_count 149 = .ok (.bipush 49, 2) := by decide +kernel
theorem dX12_count_151 : decode cX12_count 151 = .ok (.iaload, 1) := by decide +kernel
theorem dX12_count_152 : decode cX12_count 152 = .ok (.ireturn, 1) := by decide +kernel
theorem dX12_count_153 : decode cX12_count 153 = .ok (.aload_n 0, 1) := by decide +kernel
theorem dX12_count_154 : decode cX12_count 154 = .ok (.aload_n 0, 1) := by decide +kernel
theorem dX12_count_155 : decode cX12_count 155 = .ok (.getfield 43, 3) := by decide +kernel
theorem dX12_count_158 : decode cX12_count 158 = .ok (.invokevirtual 305, 3) := by decide +kernel
theorem dX12_count_161 : decode cX12_count 161 = .ok (.ireturn, 1) := by decide +kernel
theorem dX12_count_162 : decode cX12_count 162 = .ok (.aload_n 0, 1) := by decide +kernel
theorem dX12_count_163 : decode cX12_count 163 = .ok (.aload_n 0, 1) := by decide +kernel
theorem dX12_count_164 : decode cX12_count 164 = .ok (.getfield 43, 3) := by decide +kernel
theorem dX12_count_167 : decode cX12_count 167 = .ok (.invokevirtual 279, 3) := by decide +kernel
theorem dX12_count_170 : decode cX12_count 170 = .ok (.ireturn, 1) := by decide +kernel
theorem dX12_count_171 : decode cX12_count 171 = .ok (.aload_n 0, 1) := by decide +kernel
theorem dX12_count_172 : decode cX12_count 172 = .ok (.getfield 195, 3) := by decide +kernel
theorem dX12_count_175 : decode cX12_count 175 = .ok (.ireturn, 1) := by decide +kernel
theorem dX12_count_176 : decode cX12_count 176 = .ok (.aload_n 0, 1) := by decide +kernel
theorem dX12_count_177 : decode cX12_count 177 = .ok (.getfield 198, 3) := by decide +kernel
theorem dX12_count_180 : decode cX12_count 180 = .ok (.ireturn, 1) := by decide +kernel
theorem dX12_count_181 : decode cX12_count 181 = .ok (.aload_n 0, 1) := by decide +kernel
theorem dX12_count_182 : decode cX12_count 182 = .ok (.getfield 15, 3) := by decide +kernel
theorem dX12_count_185 : decode cX12_count 185 = .ok (.ireturn, 1) := by decide +kernel
theorem dX12_count_186 : decode cX12_count 186 = .ok (.aload_n 0, 1) := by decide +kernel
theorem dX12_count_187 : decode cX12_count 187 = .ok (.getfield 133, 3) := by decide +kernel
theorem dX12_count_190 : decode cX12_count 190 = .ok (.ireturn, 1) := by decide +kernel
theorem dX12_count_191 : decode cX12_count 191 = .ok (.bipush (-100), 2) := by decide +kernel
theorem dX12_count_193 : decode cX12_count 193 = .ok (.ireturn, 1) := by decide +kernel
theorem dX12_row_0 : decode cX12_row 0 = .ok (.aload_n 0, 1) := by decide +kernel
theorem dX12_row_1 : decode cX12_row 1 = .ok (.iconst 0, 1) := by decide +kernel
theorem dX12_row_2 : decode cX12_row 2 = .ok (.putfield 3, 3) := by decide +kernel
theorem dX12_row_5 : decode cX12_row 5 = .ok (.iload_n 1, 1) := by decide +kernel
theorem dX12_row_6 : decode cX12_row 6 = .ok (.i2l, 1) := by decide +kernel
theorem dX12_row_7 : decode cX12_row 7 = .ok (.lconst 0, 1) := by decide +kernel
theorem dX12_row_8 : decode cX12_row 8 = .ok (.aload_n 0, 1) := by decide +kernel
theorem dX12_row_9 : decode cX12_row 9 = .ok (.getfield 15, 3) := by decide +kernel
theorem dX12_row_12 : decode cX12_row 12 = .ok (.iconst 1, 1) := by decide +kernel
theorem dX12_row_13 : decode cX12_row 13 = .ok (.isub, 1) := by decide +kernel
theorem dX12_row_14 : decode cX12_row 14 = .ok (.i2l, 1) := by decide +kernel
theorem dX12_row_15 : decode cX12_row 15 = .ok (.invokestatic 126, 3) := by decide +kernel
theorem dX12_row_18 : decode cX12_row 18 = .ok (.ifCond .ne 10, 3) := by decide +kernel
theorem dX12_row_21 : decode cX12_row 21 = .ok (.aload_n 0, 1) := by decide +kernel
theorem dX12_row_22 : decode cX12_row 22 = .ok (.iconst 1, 1) := by decide +kernel
theorem dX12_row_23 : decode cX12_row 23 = .ok (.putfield 3, 3) := by decide +kernel
theorem dX12_row_26 : decode cX12_row 26 = .ok (.lconst 0, 1) := by decide +kernel
theorem dX12_row_27 : decode cX12_row 27 = .ok (.lreturn, 1) := by decide +kernel
theorem dX12_row_28 : decode cX12_row 28 = .ok (.aload_n 0, 1) := by decide +kernel
theorem dX12_row_29 : decode cX12_row 29 = .ok (.getfield 11, 3) := by decide +kernel
theorem dX12_row_32 : decode cX12_row 32 = .ok (.iload_n 1, 1) := by decide +kernel
theorem dX12_row_33 : decode cX12_row 33 = .ok (.laload, 1) := by decide +kernel
theorem dX12_row_34 : decode cX12_row 34 = .ok (.lreturn, 1) := by decide +kernel
theorem dJ6_bitCount_0f7a4_0 : decode cJ6_bitCount_0f7a4 0 = .ok (.iload_n 0, 1) := by decide +kernel
theorem dJ6_bitCount_0f7a4_1 : decode cJ6_bitCount_0f7a4 1 = .ok (.iload_n 0, 1) := by decide +kernel
theorem dJ6_bitCount_0f7a4_2 : decode cJ6_bitCount_0f7a4 2 = .ok (.iconst 1, 1) := by decide +kernel
theorem dJ6_bitCount_0f7a4_3 : decode cJ6_bitCount_0f7a4 3 = .ok (.iushr, 1) := by decide +kernel
theorem dJ6_bitCount_0f7a4_4 : decode cJ6_bitCount_0f7a4 4 = .ok (.ldc_w 265, 3) := by decide +kernel
theorem dJ6_bitCount_0f7a4_7 : decode cJ6_bitCount_0f7a4 7 = .ok (.iand, 1) := by decide +kernel
theorem dJ6_bitCount_0f7a4_8 : decode cJ6_bitCount_0f7a4 8 = .ok (.isub, 1) := by decide +kernel
theorem dJ6_bitCount_0f7a4_9 : decode cJ6_bitCount_0f7a4 9 = .ok (.istore_n 0, 1) := by decide +kernel
theorem dJ6_bitCount_0f7a4_10 : decode cJ6_bitCount_0f7a4 10 = .ok (.iload_n 0, 1) := by decide +kernel
theorem dJ6_bitCount_0f7a4_11 : decode cJ6_bitCount_0f7a4 11 = .ok (.ldc_w 266, 3) := by decide +kernel
theorem dJ6_bitCount_0f7a4_14 : decode cJ6_bitCount_0f7a4 14 = .ok (.iand, 1) := by decide +kernel
theorem dJ6_bitCount_0f7a4_15 : decode cJ6_bitCount_0f7a4 15 = .ok (.iload_n 0, 1) := by decide +kernel
theorem dJ6_bitCount_0f7a4_16 : decode cJ6_bitCount_0f7a4 16 = .ok (.iconst 2, 1) := by decide +kernel
theorem dJ6_bitCount_0f7a4_17 : decode cJ6_bitCount_0f7a4 17 = .ok (.iushr, 1) := by decide +kernel
theorem dJ6_bitCount_0f7a4_18 : decode cJ6_bitCount_0f7a4 18 = .ok (.ldc_w 266, 3) := by decide +kernel
theorem dJ6_bitCount_0f7a4_21 : decode cJ6_bitCount_0f7a4 21 = .ok (.iand, 1) := by decide +kernel
theorem dJ6_bitCount_0f7a4_22 : decode cJ6_bitCount_0f7a4 22 = .ok (.iadd, 1) := by decide +kernel
theorem dJ6_bitCount_0f7a4_23 : decode cJ6_bitCount_0f7a4 23 = .ok (.istore_n 0, 1) := by decide +kernel
theorem dJ6_bitCount_0f7a4_24 : decode cJ6_bitCount_0f7a4 24 = .ok (.iload_n 0, 1) := by decide +kernel
theorem dJ6_bitCount_0f7a4_25 : decode cJ6_bitCount_0f7a4 25 = .ok (.iload_n 0, 1) := by decide +kernel
theorem dJ6_bitCount_0f7a4_26 : decode cJ6_bitCount_0f7a4 26 = .ok (.iconst 4, 1) := by decide +kernel
theorem dJ6_bitCount_0f7a4_27 : decode cJ6_bitCount_0f7a4 27 = .ok (.iushr, 1) := by decide +kernel
theorem dJ6_bitCount_0f7a4_28 : decode cJ6_bitCount_0f7a4 28 = .ok (.iadd, 1) := by decide +kernel
theorem dJ6_bitCount_0f7a4_29 : decode cJ6_bitCount_0f7a4 29 = .ok (.ldc_w 267, 3) := by decide +kernel
theorem dJ6_bitCount_0f7a4_32 : decode cJ6_bitCount_0f7a4 32 = .ok (.iand, 1) := by decide +kernel
theorem dJ6_bitCount_0f7a4_33 : decode cJ6_bitCount_0f7a4 33 = .ok (.istore_n 0, 1) := by decide +kernel
theorem dJ6_bitCount_0f7a4_34 : decode cJ6_bitCount_0f7a4 34 = .ok (.iload_n 0, 1) := by decide +kernel
theorem dJ6_bitCount_0f7a4_35 : decode cJ6_bitCount_0f7a4 35 = .ok (.iload_n 0, 1) := by decide +kernel
theorem dJ6_bitCount_0f7a4_36 : decode cJ6_bitCount_0f7a4 36 = .ok (.bipush 8, 2) := by decide +kernel
theorem dJ6_bitCount_0f7a4_38 : decode cJ6_bitCount_0f7a4 38 = .ok (.iushr, 1) := by decide +kernel
theorem dJ6_bitCount_0f7a4_39 : decode cJ6_bitCount_0f7a4 39 = .ok (.iadd, 1) := by decide +kernel
theorem dJ6_bitCount_0f7a4_40 : decode cJ6_bitCount_0f7a4 40 = .ok (.istore_n 0, 1) := by decide +kernel
theorem dJ6_bitCount_0f7a4_41 : decode cJ6_bitCount_0f7a4 41 = .ok (.iload_n 0, 1) := by decide +kernel
theorem dJ6_bitCount_0f7a4_42 : decode cJ6_bitCount_0f7a4 42 = .ok (.iload_n 0, 1) := by decide +kernel
theorem dJ6_bitCount_0f7a4_43 : decode cJ6_bitCount_0f7a4 43 = .ok (.bipush 16, 2) := by decide +kernel
theorem dJ6_bitCount_0f7a4_45 : decode cJ6_bitCount_0f7a4 45 = .ok (.iushr, 1) := by decide +kernel
theorem dJ6_bitCount_0f7a4_46 : decode cJ6_bitCount_0f7a4 46 = .ok (.iadd, 1) := by decide +kernel
theorem dJ6_bitCount_0f7a4_47 : decode cJ6_bitCount_0f7a4 47 = .ok (.istore_n 0, 1) := by decide +kernel
theorem dJ6_bitCount_0f7a4_48 : decode cJ6_bitCount_0f7a4 48 = .ok (.iload_n 0, 1) := by decide +kernel
theorem dJ6_bitCount_0f7a4_49 : decode cJ6_bitCount_0f7a4 49 = .ok (.bipush 63, 2) := by decide +kernel
theorem dJ6_bitCount_0f7a4_51 : decode cJ6_bitCount_0f7a4 51 = .ok (.iand, 1) := by decide +kernel
theorem dJ6_bitCount_0f7a4_52 : decode cJ6_bitCount_0f7a4 52 = .ok (.ireturn, 1) := by decide +kernel
theorem dJ13_bitCount_95d88_0 : decode cJ13_bitCount_95d88 0 = .ok (.lload_n 0, 1) := by decide +kernel
theorem dJ13_bitCount_95d88_1 : decode cJ13_bitCount_95d88 1 = .ok (.lload_n 0, 1) := by decide +kernel
theorem dJ13_bitCount_95d88_2 : decode cJ13_bitCount_95d88 2 = .ok (.iconst 1, 1) := by decide +kernel
theorem dJ13_bitCount_95d88_3 : decode cJ13_bitCount_95d88 3 = .ok (.lushr, 1) := by decide +kernel
theorem dJ13_bitCount_95d88_4 : decode cJ13_bitCount_95d88 4 = .ok (.ldc2_w 314, 3) := by decide +kernel
theorem dJ13_bitCount_95d88_7 : decode cJ13_bitCount_95d88 7 = .ok (.land, 1) := by decide +kernel
theorem dJ13_bitCount_95d88_8 : decode cJ13_bitCount_95d88 8 = .ok (.lsub, 1) := by decide +kernel
theorem dJ13_bitCount_95d88_9 : decode cJ13_bitCount_95d88 9 = .ok (.lstore_n 0, 1) := by decide +kernel
theorem dJ13_bitCount_95d88_10 : decode cJ13_bitCount_95d88 10 = .ok (.lload_n 0, 1) := by decide +kernel
theorem dJ13_bitCount_95d88_11 : decode cJ13_bitCount_95d88 11 = .ok (.ldc2_w 316, 3) := by decide +kernel
theorem dJ13_bitCount_95d88_14 : decode cJ13_bitCount_95d88 14 = .ok (.land, 1) := by decide +kernel
theorem dJ13_bitCount_95d88_15 : decode cJ13_bitCount_95d88 15 = .ok (.lload_n 0, 1) := by decide +kernel
theorem dJ13_bitCount_95d88_16 : decode cJ13_bitCount_95d88 16 = .ok (.iconst 2, 1) := by decide +kernel
theorem dJ13_bitCount_95d88_17 : decode cJ13_bitCount_95d88 17 = .ok (.lushr, 1) := by decide +kernel
theorem dJ13_bitCount_95d88_18 : decode cJ13_bitCount_95d88 18 = .ok (.ldc2_w 316, 3) := by decide +kernel
theorem dJ13_bitCount_95d88_21 : decode cJ13_bitCount_95d88 21 = .ok (.land, 1) := by decide +kernel
theorem dJ13_bitCount_95d88_22 : decode cJ13_bitCount_95d88 22 = .ok (.ladd, 1) := by decide +kernel
theorem dJ13_bitCount_95d88_23 : decode cJ13_bitCount_95d88 23 = .ok (.lstore_n 0, 1) := by decide +kernel
theorem dJ13_bitCount_95d88_24 : decode cJ13_bitCount_95d88 24 = .ok (.lload_n 0, 1) := by decide +kernel
theorem dJ13_bitCount_95d88_25 : decode cJ13_bitCount_95d88 25 = .ok (.lload_n 0, 1) := by decide +kernel
theorem dJ13_bitCount_95d88_26 : decode cJ13_bitCount_95d88 26 = .ok (.iconst 4, 1) := by decide +kernel
theorem dJ13_bitCount_95d88_27 : decode cJ13_bitCount_95d88 27 = .ok (.lushr, 1) := by decide +kernel
theorem dJ13_bitCount_95d88_28 : decode cJ13_bitCount_95d88 28 = .ok (.ladd, 1) := by decide +kernel
theorem dJ13_bitCount_95d88_29 : decode cJ13_bitCount_95d88 29 = .ok (.ldc2_w 318, 3) := by decide +kernel
theorem dJ13_bitCount_95d88_32 : decode cJ13_bitCount_95d88 32 = .ok (.land, 1) := by decide +kernel
theorem dJ13_bitCount_95d88_33 : decode cJ13_bitCount_95d88 33 = .ok (.lstore_n 0, 1) := by decide +kernel
theorem dJ13_bitCount_95d88_34 : decode cJ13_bitCount_95d88 34 = .ok (.lload_n 0, 1) := by decide +kernel
theorem dJ13_bitCount_95d88_35 : decode cJ13_bitCount_95d88 35 = .ok (.lload_n 0, 1) := by decide +kernel
theorem dJ13_bitCount_95d88_36 : decode cJ13_bitCount_95d88 36 = .ok (.bipush 8, 2) := by decide +kernel
theorem dJ13_bitCount_95d88_38 : decode cJ13_bitCount_95d88 38 = .ok (.lushr, 1) := by decide +kernel
theorem dJ13_bitCount_95d88_39 : decode cJ13_bitCount_95d88 39 = .ok (.ladd, 1) := by decide +kernel
theorem dJ13_bitCount_95d88_40 : decode cJ13_bitCount_95d88 40 = .ok (.lstore_n 0, 1) := by decide +kernel
theorem dJ13_bitCount_95d88_41 : decode cJ13_bitCount_95d88 41 = .ok (.lload_n 0, 1) := by decide +kernel
theorem dJ13_bitCount_95d88_42 : decode cJ13_bitCount_95d88 42 = .ok (.lload_n 0, 1) := by decide +kernel
theorem dJ13_bitCount_95d88_43 : decode cJ13_bitCount_95d88 43 = .ok (.bipush 16, 2) := by decide +kernel
theorem dJ13_bitCount_95d88_45 : decode cJ13_bitCount_95d88 45 = .ok (.lushr, 1) := by decide +kernel
theorem dJ13_bitCount_95d88_46 : decode cJ13_bitCount_95d88 46 = .ok (.ladd, 1) := by decide +kernel
theorem dJ13_bitCount_95d88_47 : decode cJ13_bitCount_95d88 47 = .ok (.lstore_n 0, 1) := by decide +kernel
theorem dJ13_bitCount_95d88_48 : decode cJ13_bitCount_95d88 48 = .ok (.lload_n 0, 1) := by decide +kernel
theorem dJ13_bitCount_95d88_49 : decode cJ13_bitCount_95d88 49 = .ok (.lload_n 0, 1) := by decide +kernel
theorem dJ13_bitCount_95d88_50 : decode cJ13_bitCount_95d88 50 = .ok (.bipush 32, 2) := by decide +kernel
theorem dJ13_bitCount_95d88_52 : decode cJ13_bitCount_95d88 52 = .ok (.lushr, 1) := by decide +kernel
theorem dJ13_bitCount_95d88_53 : decode cJ13_bitCount_95d88 53 = .ok (.ladd, 1) := by decide +kernel
theorem dJ13_bitCount_95d88_54 : decode cJ13_bitCount_95d88 54 = .ok (.lstore_n 0, 1) := by decide +kernel
theorem dJ13_bitCount_95d88_55 : decode cJ13_bitCount_95d88 55 = .ok (.lload_n 0, 1) := by decide +kernel
theorem dJ13_bitCount_95d88_56 : decode cJ13_bitCount_95d88 56 = .ok (.l2i, 1) := by decide +kernel
theorem dJ13_bitCount_95d88_57 : decode cJ13_bitCount_95d88 57 = .ok (.bipush 127, 2) := by decide +kernel
theorem dJ13_bitCount_95d88_59 : decode cJ13_bitCount_95d88 59 = .ok (.iand, 1) := by decide +kernel
theorem dJ13_bitCount_95d88_60 : decode cJ13_bitCount_95d88 60 = .ok (.ireturn, 1) := by decide +kernel
theorem dJ9_floorMod_7cf53_0 : decode cJ9_floorMod_7cf53 0 = .ok (.iload_n 0, 1) := by decide +kernel
theorem dJ9_floorMod_7cf53_1 : decode cJ9_floorMod_7cf53 1 = .ok (.iload_n 1, 1) := by decide +kernel
theorem dJ9_floorMod_7cf53_2 : decode cJ9_floorMod_7cf53 2 = .ok (.irem, 1) := by decide +kernel
theorem dJ9_floorMod_7cf53_3 : decode cJ9_floorMod_7cf53 3 = .ok (.istore_n 2, 1) := by decide +kernel
theorem dJ9_floorMod_7cf53_4 : decode cJ9_floorMod_7cf53 4 = .ok (.iload_n 0, 1) := by decide +kernel
theorem dJ9_floorMod_7cf53_5 : decode cJ9_floorMod_7cf53 5 = .ok (.iload_n 1, 1) := by decide +kernel
theorem dJ9_floorMod_7cf53_6 : decode cJ9_floorMod_7cf53 6 = .ok (.ixor, 1) := by decide +kernel
theorem dJ9_floorMod_7cf53_7 : decode cJ9_floorMod_7cf53 7 = .ok (.ifCond .ge 11, 3) := by decide +kernel
theorem dJ9_floorMod_7cf53_10 : decode cJ9_floorMod_7cf53 10 = .ok (.iload_n 2, 1) := by decide +kernel
theorem dJ9_floorMod_7cf53_11 : decode cJ9_floorMod_7cf53 11 = .ok (.ifCond .eq 7, 3) := by decide +kernel
theorem dJ9_floorMod_7cf53_14 : decode cJ9_floorMod_7cf53 14 = .ok (.iload_n 2, 1) := by decide +kernel
theorem dJ9_floorMod_7cf53_15 : decode cJ9_floorMod_7cf53 15 = .ok (.iload_n 1, 1) := by decide +kernel
theorem dJ9_floorMod_7cf53_16 : decode cJ9_floorMod_7cf53 16 = .ok (.iadd, 1) := by decide +kernel
theorem dJ9_floorMod_7cf53_17 : decode cJ9_floorMod_7cf53 17 = .ok (.ireturn, 1) := by decide +kernel
theorem dJ9_floorMod_7cf53_18 : decode cJ9_floorMod_7cf53 18 = .ok (.iload_n 2, 1) := by decide +kernel
theorem dJ9_floorMod_7cf53_19 : decode cJ9_floorMod_7cf53 19 = .ok (.ireturn, 1) := by decide +kernel
theorem dJ0_length_8abf5_0 : decode cJ0_length_8abf5 0 = .ok (.aload_n 0, 1) := by decide +kernel
theorem dJ0_length_8abf5_1 : decode cJ0_length_8abf5 1 = .ok (.getfield 9, 3) := by decide +kernel
theorem dJ0_length_8abf5_4 : decode cJ0_length_8abf5 4 = .ok (.arraylength, 1) := by decide +kernel
theorem dJ0_length_8abf5_5 : decode cJ0_length_8abf5 5 = .ok (.aload_n 0, 1) := by decide +kernel
theorem dJ0_length_8abf5_6 : decode cJ0_length_8abf5 6 = .ok (.invokevirtual 335, 3) := by decide +kernel
theorem dJ0_length_8abf5_9 : decode cJ0_length_8abf5 9 = .ok (.ishr, 1) := by decide +kernel
theorem dJ0_length_8abf5_10 : decode cJ0_length_8abf5 10 = .ok (.ireturn, 1) := by decide +kernel
theorem dJ0_charAt_5068e_0 : decode cJ0_charAt_5068e 0 = .ok (.aload_n 0, 1) := by decide +kernel
theorem dJ0_charAt_5068e_1 : decode cJ0_charAt_5068e 1 = .ok (.invokevirtual 492, 3) := by decide +kernel
theorem dJ0_charAt_5068e_4 : decode cJ0_charAt_5068e 4 = .ok (.ifCond .eq 12, 3) := by decide +kernel
theorem dJ0_charAt_5068e_7 : decode cJ0_charAt_5068e 7 = .ok (.aload_n 0, 1) := by decide +kernel
theorem dJ0_charAt_5068e_8 : decode cJ0_charAt_5068e 8 = .ok (.getfield 9, 3) := by decide +kernel
theorem dJ0_charAt_5068e_11 : decode cJ0_charAt_5068e 11 = .ok (.iload_n 1, 1) := by decide +kernel
theorem dJ0_charAt_5068e_12 : decode cJ0_charAt_5068e 12 = .ok (.invokestatic 495, 3) := by decide +kernel
theorem dJ0_charAt_5068e_15 : decode cJ0_charAt_5068e 15 = .ok (.ireturn, 1) := by decide +kernel
theorem dJ0_coder_7d493_0 : decode cJ0_coder_7d493 0 = .ok (.getstatic 38, 3) := by decide +kernel
theorem dJ0_coder_7d493_3 : decode cJ0_coder_7d493 3 = .ok (.ifCond .eq 10, 3) := by decide +kernel
theorem dJ0_coder_7d493_6 : decode cJ0_coder_7d493 6 = .ok (.aload_n 0, 1) := by decide +kernel
theorem dJ0_coder_7d493_7 : decode cJ0_coder_7d493 7 = .ok (.getfield 15, 3) := by decide +kernel
theorem dJ0_coder_7d493_10 : decode cJ0_coder_7d493 10 = .ok (.goto 4, 3) := by decide +kernel
theorem dJ0_coder_7d493_13 : decode cJ0_coder_7d493 13 = .ok (.iconst 1, 1) := by decide +kernel
theorem dJ0_coder_7d493_14 : decode cJ0_coder_7d493 14 = .ok (.ireturn, 1) := by decide +kernel
theorem dJ0_isLatin1_aae02_0 : decode cJ0_isLatin1_aae02 0 = .ok (.getstatic 38, 3) := by decide +kernel
theorem dJ0_isLatin1_aae02_3 : decode cJ0_isLatin1_aae02 3 = .ok (.ifCond .eq 14, 3) := by decide +kernel
theorem dJ0_isLatin1_aae02_6 : decode cJ0_isLatin1_aae02 6 = .ok (.aload_n 0, 1) := by decide +kernel
theorem dJ0_isLatin1_aae02_7 : decode cJ0_isLatin1_aae02 7 = .ok (.getfield 15, 3) := by decide +kernel
theorem dJ0_isLatin1_aae02_10 : decode cJ0_isLatin1_aae02 10 = .ok (.ifCond .ne 7, 3) := by decide +kernel
theorem dJ0_isLatin1_aae02_13 : decode cJ0_isLatin1_aae02 13 = .ok (.iconst 1, 1) := by decide +kernel
theorem dJ0_isLatin1_aae02_14 : decode cJ0_isLatin1_aae02 14 = .ok (.goto 4, 3) := by decide +kernel
theorem dJ0_isLatin1_aae02_17 : decode cJ0_isLatin1_aae02 17 = .ok (.iconst 0, 1) := by decide +kernel
theorem dJ0_isLatin1_aae02_18 : decode cJ0_isLatin1_aae02 18 = .ok (.ireturn, 1) := by decide +kernel
theorem dJ0_checkIndex_df160_0 : decode cJ0_checkIndex_df160 0 = .ok (.iload_n 0, 1) := by decide +kernel
theorem dJ0_checkIndex_df160_1 : decode cJ0_checkIndex_df160 1 = .ok (.iload_n 1, 1) := by decide +kernel
theorem dJ0_checkIndex_df160_2 : decode cJ0_checkIndex_df160 2 = .ok (.getstatic 1053, 3) := by decide +kernel
theorem dJ0_checkIndex_df160_5 : decode cJ0_checkIndex_df160 5 = .ok (.invokestatic 1059, 3) := by decide +kernel
theorem dJ0_checkIndex_df160_8 : decode cJ0_checkIndex_df160 8 = .ok (.pop, 1) := by decide +kernel
theorem dJ0_checkIndex_df160_9 : decode cJ0_checkIndex_df160 9 = .ok (.return_, 1) := by decide +kernel
theorem dJ1_charAt_3b067_0 : decode cJ1_charAt_3b067 0 = .ok (.iload_n 1, 1) := by decide +kernel
theorem dJ1_charAt_3b067_1 : decode cJ1_charAt_3b067 1 = .ok (.aload_n 0, 1) := by decide +kernel
theorem dJ1_charAt_3b067_2 : decode cJ1_charAt_3b067 2 = .ok (.arraylength, 1) := by decide +kernel
theorem dJ1_charAt_3b067_3 : decode cJ1_charAt_3b067 3 = .ok (.invokestatic 9, 3) := by decide +kernel
theorem dJ1_charAt_3b067_6 : decode cJ1_charAt_3b067 6 = .ok (.aload_n 0, 1) := by decide +kernel
theorem dJ1_charAt_3b067_7 : decode cJ1_charAt_3b067 7 = .ok (.iload_n 1, 1) := by decide +kernel
theorem dJ1_charAt_3b067_8 : decode cJ1_charAt_3b067 8 = .ok (.baload, 1) := by decide +kernel
theorem dJ1_charAt_3b067_9 : decode cJ1_charAt_3b067 9 = .ok (.sipush 255, 3) := by decide +kernel
theorem dJ1_charAt_3b067_12 : decode cJ1_charAt_3b067 12 = .ok (.iand, 1) := by decide +kernel
theorem dJ1_charAt_3b067_13 : decode cJ1_charAt_3b067 13 = .ok (.i2c, 1) := by decide +kernel
theorem dJ1_charAt_3b067_14 : decode cJ1_charAt_3b067 14 = .ok (.ireturn, 1) := by decide +kernel
theorem dJ7_fill_53178_0 : decode cJ7_fill_53178 0 = .ok (.iconst 0, 1) := by decide +kernel
theorem dJ7_fill_53178_1 : decode cJ7_fill_53178 1 = .ok (.istore_n 2, 1) := by decide +kernel
theorem dJ7_fill_53178_2 : decode cJ7_fill_53178 2 = .ok (.aload_n 0, 1) := by decide +kernel
theorem dJ7_fill_53178_3 : decode cJ7_fill_53178 3 = .ok (.arraylength, 1) := by decide +kernel
theorem dJ7_fill_53178_4 : decode cJ7_fill_53178 4 = .ok (.istore_n 3, 1) := by decide +kernel
theorem dJ7_fill_53178_5 : decode cJ7_fill_53178 5 = .ok (.iload_n 2, 1) := by decide +kernel
theorem dJ7_fill_53178_6 : decode cJ7_fill_53178 6 = .ok (.iload_n 3, 1) := by decide +kernel
theorem dJ7_fill_53178_7 : decode cJ7_fill_53178 7 = .ok (.if_icmp .ge 13, 3) := by decide +kernel
theorem dJ7_fill_53178_10 : decode cJ7_fill_53178 10 = .ok (.aload_n 0, 1) := by decide +kernel
theorem dJ7_fill_53178_11 : decode cJ7_fill_53178 11 = .ok (.iload_n 2, 1) := by decide +kernel
theorem dJ7_fill_53178_12 : decode cJ7_fill_53178 12 = .ok (.iload_n 1, 1) := by decide +kernel
theorem dJ7_fill_53178_13 : decode cJ7_fill_53178 13 = .ok (.iastore, 1) := by decide +kernel
theorem dJ7_fill_53178_14 : decode cJ7_fill_53178 14 = .ok (.iinc 2 1, 3) := by decide +kernel
theorem dJ7_fill_53178_17 : decode cJ7_fill_53178 17 = .ok (.goto (-12), 3) := by decide +kernel
theorem dJ7_fill_53178_20 : decode cJ7_fill_53178 20 = .ok (.return_, 1) := by decide +kernel
theorem dJ3_checkIndex_8e157_0 : decode cJ3_checkIndex_8e157 0 = .ok (.iload_n 0, 1) := by decide +kernel
theorem dJ3_checkIndex_8e157_1 : decode cJ3_checkIndex_8e157 1 = .ok (.ifCond .lt 8, 3) := by decide +kernel
theorem dJ3_checkIndex_8e157_4 : decode cJ3_checkIndex_8e157 4 = .ok (.iload_n 0, 1) := by decide +kernel
theorem dJ3_checkIndex_8e157_5 : decode cJ3_checkIndex_8e157 5 = .ok (.iload_n 1, 1) := by decide +kernel
theorem dJ3_checkIndex_8e157_6 : decode cJ3_checkIndex_8e157 6 = .ok (.if_icmp .lt 10, 3) := by decide +kernel
theorem dJ3_checkIndex_8e157_16 : decode cJ3_checkIndex_8e157 16 = .ok (.iload_n 0, 1) := by decide +kernel
theorem dJ3_checkIndex_8e157_17 : decode cJ3_checkIndex_8e157 17 = .ok (.ireturn, 1) := by decide +kernel
