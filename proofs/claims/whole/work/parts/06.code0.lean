theorem dJ6_bitCount_0f7a4_0 : decode cJ6_bitCount_0f7a4 0 = .ok (.iload_n 0, 1) := by decide +kernel
theorem dJ6_bitCount_0f7a4_1 : decode cJ6_bitCount_0f7a4 1 = .ok (.iload_n 0, 1) := by decide +kernel
theorem dJ6_bitCount_0f7a4_2 : decode cJ6_bitCount_0f7a4 2 = .ok (.iconst 1, 1) := by decide +kernel
theorem dJ6_bitCount_0f7a4_3 : decode cJ6_bitCount_0f7a4 3 = .ok (.iushr, 1) := by decide +kernel
theorem dJ6_bitCount_0f7a4_4 : decode cJ6_bitCount_0f7a4 4 = .ok (.ldc_w 265, 3) := by decide +kernel
theorem dJ6_bitCount_0f7a4_7 : decode cJ6_bitCount_0f7a4 7 = .ok (.iand, 1) := by decide +kernel
theorem dJ6_bitCount_0f7a4_8 : decode cJ6_bitCount_0f7a4 8 = .ok (.isub, 1) := by decide +kernel
theorem dJ6_bitCount_0f7a4_9 : decode cJ6_bitCount_0f7a4 9 = .ok (.istore_n 0, 1) := by decide +kernel
theorem dJ6_bitCount_0f7a4_10 : decode cJ6_bitCount_0f7a4 10 = .ok (.iload_n 0, 1) := by decide +kernel
theorem dJ6_bitCount_0f7a4_11 : decode cJ6_bitCount_0f7a4 11 = .ok (.ldc_w 266, 3) := by decide +kernel
theorem dJ6_bitCount_0f7a4_14 : decode cJ6_bitCount_0f7a4 14 = .ok (.iand, 1) := by decide +kernel
theorem dJ6_bitCount_0f7a4_15 : decode cJ6_bitCount_0f7a4 15 = .ok (.iload_n 0, 1) := by decide +kernel
theorem dJ6_bitCount_0f7a4_16 : decode cJ6_bitCount_0f7a4 16 = .ok (.iconst 2, 1) := by decide +kernel
theorem dJ6_bitCount_0f7a4_17 : decode cJ6_bitCount_0f7a4 17 = .ok (.iushr, 1) := by decide +kernel
theorem dJ6_bitCount_0f7a4_18 : decode cJ6_bitCount_0f7a4 18 = .ok (.ldc_w 266, 3) := by decide +kernel
theorem dJ6_bitCount_0f7a4_21 : decode cJ6_bitCount_0f7a4 21 = .ok (.iand, 1) := by decide +kernel
theorem dJ6_bitCount_0f7a4_22 : decode cJ6_bitCount_0f7a4 22 = .ok (.iadd, 1) := by decide +kernel
theorem dJ6_bitCount_0f7a4_23 : decode cJ6_bitCount_0f7a4 23 = .ok (.istore_n 0, 1) := by decide +kernel
theorem dJ6_bitCount_0f7a4_24 : decode cJ6_bitCount_0f7a4 24 = .ok (.iload_n 0, 1) := by decide +kernel
theorem dJ6_bitCount_0f7a4_25 : decode cJ6_bitCount_0f7a4 25 = .ok (.iload_n 0, 1) := by decide +kernel
theorem dJ6_bitCount_0f7a4_26 : decode cJ6_bitCount_0f7a4 26 = .ok (.iconst 4, 1) := by decide +kernel
theorem dJ6_bitCount_0f7a4_27 : decode cJ6_bitCount_0f7a4 27 = .ok (.iushr, 1) := by decide +kernel
theorem dJ6_bitCount_0f7a4_28 : decode cJ6_bitCount_0f7a4 28 = .ok (.iadd, 1) := by decide +kernel
theorem dJ6_bitCount_0f7a4_29 : decode cJ6_bitCount_0f7a4 29 = .ok (.ldc_w 267, 3) := by decide +kernel
theorem dJ6_bitCount_0f7a4_32 : decode cJ6_bitCount_0f7a4 32 = .ok (.iand, 1) := by decide +kernel
theorem dJ6_bitCount_0f7a4_33 : decode cJ6_bitCount_0f7a4 33 = .ok (.istore_n 0, 1) := by decide +kernel
theorem dJ6_bitCount_0f7a4_34 : decode cJ6_bitCount_0f7a4 34 = .ok (.iload_n 0, 1) := by decide +kernel
theorem dJ6_bitCount_0f7a4_35 : decode cJ6_bitCount_0f7a4 35 = .ok (.iload_n 0, 1) := by decide +kernel
theorem dJ6_bitCount_0f7a4_36 : decode cJ6_bitCount_0f7a4 36 = .ok (.bipush 8, 2) := by decide +kernel
theorem dJ6_bitCount_0f7a4_38 : decode cJ6_bitCount_0f7a4 38 = .ok (.iushr, 1) := by decide +kernel
theorem dJ6_bitCount_0f7a4_39 : decode cJ6_bitCount_0f7a4 39 = .ok (.iadd, 1) := by decide +kernel
theorem dJ6_bitCount_0f7a4_40 : decode cJ6_bitCount_0f7a4 40 = .ok (.istore_n 0, 1) := by decide +kernel
theorem dJ6_bitCount_0f7a4_41 : decode cJ6_bitCount_0f7a4 41 = .ok (.iload_n 0, 1) := by decide +kernel
theorem dJ6_bitCount_0f7a4_42 : decode cJ6_bitCount_0f7a4 42 = .ok (.iload_n 0, 1) := by decide +kernel
theorem dJ6_bitCount_0f7a4_43 : decode cJ6_bitCount_0f7a4 43 = .ok (.bipush 16, 2) := by decide +kernel
theorem dJ6_bitCount_0f7a4_45 : decode cJ6_bitCount_0f7a4 45 = .ok (.iushr, 1) := by decide +kernel
theorem dJ6_bitCount_0f7a4_46 : decode cJ6_bitCount_0f7a4 46 = .ok (.iadd, 1) := by decide +kernel
theorem dJ6_bitCount_0f7a4_47 : decode cJ6_bitCount_0f7a4 47 = .ok (.istore_n 0, 1) := by decide +kernel
theorem dJ6_bitCount_0f7a4_48 : decode cJ6_bitCount_0f7a4 48 = .ok (.iload_n 0, 1) := by decide +kernel
theorem dJ6_bitCount_0f7a4_49 : decode cJ6_bitCount_0f7a4 49 = .ok (.bipush 63, 2) := by decide +kernel
theorem dJ6_bitCount_0f7a4_51 : decode cJ6_bitCount_0f7a4 51 = .ok (.iand, 1) := by decide +kernel
theorem dJ6_bitCount_0f7a4_52 : decode cJ6_bitCount_0f7a4 52 = .ok (.ireturn, 1) := by decide +kernel
theorem dX0_actOf_0 : decode cX0_actOf 0 = .ok (.iload_n 0, 1) := by decide +kernel
theorem dX0_actOf_1 : decode cX0_actOf 1 = .ok (.tableswitch 85 (-1) 12 #[71, 85, 85, 85, 85, 85, 85, 85, 85, 85, 73, 76, 79, 82], 71) := by decide +kernel
theorem dX0_actOf_72 : decode cX0_actOf 72 = .ok (.iconst 0, 1) := by decide +kernel
theorem dX0_actOf_73 : decode cX0_actOf 73 = .ok (.ireturn, 1) := by decide +kernel
theorem dX0_actOf_74 : decode cX0_actOf 74 = .ok (.bipush 10, 2) := by decide +kernel
theorem dX0_actOf_76 : decode cX0_actOf 76 = .ok (.ireturn, 1) := by decide +kernel
theorem dX0_actOf_77 : decode cX0_actOf 77 = .ok (.bipush 20, 2) := by decide +kernel
theorem dX0_actOf_79 : decode cX0_actOf 79 = .ok (.ireturn, 1) := by decide +kernel
theorem dX0_actOf_80 : decode cX0_actOf 80 = .ok (.bipush 30, 2) := by decide +kernel
theorem dX0_actOf_82 : decode cX0_actOf 82 = .ok (.ireturn, 1) := by decide +kernel
theorem dX0_actOf_83 : decode cX0_actOf 83 = .ok (.bipush 40, 2) := by decide +kernel
theorem dX0_actOf_85 : decode cX0_actOf 85 = .ok (.ireturn, 1) := by decide +kernel
theorem dX0_actOf_86 : decode cX0_actOf 86 = .ok (.iconst (-1), 1) := by decide +kernel
theorem dX0_actOf_87 : decode cX0_actOf 87 = .ok (.ireturn, 1) := by decide +kernel
theorem dX0_liveLine_0 : decode cX0_liveLine 0 = .ok (.aload_n 0, 1) := by decide +kernel
theorem dX0_liveLine_1 : decode cX0_liveLine 1 = .ok (.iload_n 1, 1) := by decide +kernel
theorem dX0_liveLine_2 : decode cX0_liveLine 2 = .ok (.iload_n 2, 1) := by decide +kernel
theorem dX0_liveLine_3 : decode cX0_liveLine 3 = .ok (.iload_n 3, 1) := by decide +kernel
theorem dX0_liveLine_4 : decode cX0_liveLine 4 = .ok (.invokestatic 129, 3) := by decide +kernel
theorem dX0_liveLine_7 : decode cX0_liveLine 7 = .ok (.istore 4, 2) := by decide +kernel
theorem dX0_liveLine_9 : decode cX0_liveLine 9 = .ok (.iload 4, 2) := by decide +kernel
theorem dX0_liveLine_11 : decode cX0_liveLine 11 = .ok (.ifCond .eq 8, 3) := by decide +kernel
theorem dX0_liveLine_14 : decode cX0_liveLine 14 = .ok (.iload_n 1, 1) := by decide +kernel
theorem dX0_liveLine_15 : decode cX0_liveLine 15 = .ok (.iload 4, 2) := by decide +kernel
theorem dX0_liveLine_17 : decode cX0_liveLine 17 = .ok (.iadd, 1) := by decide +kernel
theorem dX0_liveLine_18 : decode cX0_liveLine 18 = .ok (.ireturn, 1) := by decide +kernel
theorem dX0_liveLine_19 : decode cX0_liveLine 19 = .ok (.iload_n 1, 1) := by decide +kernel
theorem dX0_liveLine_20 : decode cX0_liveLine 20 = .ok (.lookupswitch 87 #[(0, 44), (10, 53), (20, 66), (30, 79)], 44) := by decide +kernel
theorem dX0_liveLine_64 : decode cX0_liveLine 64 = .ok (.aload_n 0, 1) := by decide +kernel
theorem dX0_liveLine_65 : decode cX0_liveLine 65 = .ok (.iload_n 2, 1) := by decide +kernel
theorem dX0_liveLine_66 : decode cX0_liveLine 66 = .ok (.iload_n 3, 1) := by decide +kernel
theorem dX0_liveLine_67 : decode cX0_liveLine 67 = .ok (.invokevirtual 132, 3) := by decide +kernel
theorem dX0_liveLine_70 : decode cX0_liveLine 70 = .ok (.goto 50, 3) := by decide +kernel
theorem dX0_liveLine_73 : decode cX0_liveLine 73 = .ok (.aload_n 0, 1) := by decide +kernel
theorem dX0_liveLine_74 : decode cX0_liveLine 74 = .ok (.bipush 8, 2) := by decide +kernel
theorem dX0_liveLine_76 : decode cX0_liveLine 76 = .ok (.iload_n 3, 1) := by decide +kernel
theorem dX0_liveLine_77 : decode cX0_liveLine 77 = .ok (.imul, 1) := by decide +kernel
theorem dX0_liveLine_78 : decode cX0_liveLine 78 = .ok (.iload_n 2, 1) := by decide +kernel
theorem dX0_liveLine_79 : decode cX0_liveLine 79 = .ok (.iadd, 1) := by decide +kernel
theorem dX0_liveLine_80 : decode cX0_liveLine 80 = .ok (.invokevirtual 136, 3) := by decide +kernel
theorem dX0_liveLine_83 : decode cX0_liveLine 83 = .ok (.goto 37, 3) := by decide +kernel
theorem dX0_liveLine_86 : decode cX0_liveLine 86 = .ok (.aload_n 0, 1) := by decide +kernel
theorem dX0_liveLine_87 : decode cX0_liveLine 87 = .ok (.bipush 8, 2) := by decide +kernel
theorem dX0_liveLine_89 : decode cX0_liveLine 89 = .ok (.iload_n 3, 1) := by decide +kernel
theorem dX0_liveLine_90 : decode cX0_liveLine 90 = .ok (.imul, 1) := by decide +kernel
theorem dX0_liveLine_91 : decode cX0_liveLine 91 = .ok (.iload_n 2, 1) := by decide +kernel
theorem dX0_liveLine_92 : decode cX0_liveLine 92 = .ok (.iadd, 1) := by decide +kernel
theorem dX0_liveLine_93 : decode cX0_liveLine 93 = .ok (.invokevirtual 139, 3) := by decide +kernel
theorem dX0_liveLine_96 : decode cX0_liveLine 96 = .ok (.goto 24, 3) := by decide +kernel
theorem dX0_liveLine_99 : decode cX0_liveLine 99 = .ok (.aload_n 0, 1) := by decide +kernel
theorem dX0_liveLine_100 : decode cX0_liveLine 100 = .ok (.iload_n 2, 1) := by decide +kernel
theorem dX0_liveLine_101 : decode cX0_liveLine 101 = .ok (.invokevirtual 142, 3) := by decide +kernel
theorem dX0_liveLine_104 : decode cX0_liveLine 104 = .ok (.goto 16, 3) := by decide +kernel
theorem dX0_liveLine_107 : decode cX0_liveLine 107 = .ok (.aload_n 0, 1) := by decide +kernel
theorem dX0_liveLine_108 : decode cX0_liveLine 108 = .ok (.getfield 114, 3) := by decide +kernel
theorem dX0_liveLine_111 : decode cX0_liveLine 111 = .ok (.dup, 1) := by decide +kernel
theorem dX0_liveLine_112 : decode cX0_liveLine 112 = .ok (.getfield 120, 3) := by decide +kernel
theorem dX0_liveLine_115 : decode cX0_liveLine 115 = .ok (.iload_n 2, 1) := by decide +kernel
theorem dX0_liveLine_116 : decode cX0_liveLine 116 = .ok (.iadd, 1) := by decide +kernel
theorem dX0_liveLine_117 : decode cX0_liveLine 117 = .ok (.putfield 120, 3) := by decide +kernel
theorem dX0_liveLine_120 : decode cX0_liveLine 120 = .ok (.iconst 0, 1) := by decide +kernel
theorem dX0_liveLine_121 : decode cX0_liveLine 121 = .ok (.ireturn, 1) := by decide +kernel
theorem dX0_liveOn_0 : decode cX0_liveOn 0 = .ok (.aload_n 0, 1) := by decide +kernel
theorem dX0_liveOn_1 : decode cX0_liveOn 1 = .ok (.iconst 1, 1) := by decide +kernel
theorem dX0_liveOn_2 : decode cX0_liveOn 2 = .ok (.putfield 25, 3) := by decide +kernel
theorem dX0_liveOn_5 : decode cX0_liveOn 5 = .ok (.aload_n 0, 1) := by decide +kernel
theorem dX0_liveOn_6 : decode cX0_liveOn 6 = .ok (.iconst 0, 1) := by decide +kernel
theorem dX0_liveOn_7 : decode cX0_liveOn 7 = .ok (.putfield 29, 3) := by decide +kernel
theorem dX0_liveOn_10 : decode cX0_liveOn 10 = .ok (.aload_n 0, 1) := by decide +kernel
theorem dX0_liveOn_11 : decode cX0_liveOn 11 = .ok (.iconst 0, 1) := by decide +kernel
theorem dX0_liveOn_12 : decode cX0_liveOn 12 = .ok (.putfield 32, 3) := by decide +kernel
theorem dX0_liveOn_15 : decode cX0_liveOn 15 = .ok (.iconst 0, 1) := by decide +kernel
theorem dX0_liveOn_16 : decode cX0_liveOn 16 = .ok (.istore_n 2, 1) := by decide +kernel
theorem dX0_liveOn_17 : decode cX0_liveOn 17 = .ok (.iload_n 2, 1) := by decide +kernel
theorem dX0_liveOn_18 : decode cX0_liveOn 18 = .ok (.aload_n 0, 1) := by decide +kernel
theorem dX0_liveOn_19 : decode cX0_liveOn 19 = .ok (.getfield 21, 3) := by decide +kernel
theorem dX0_liveOn_22 : decode cX0_liveOn 22 = .ok (.if_icmp .ge 61, 3) := by decide +kernel
theorem dX0_liveOn_25 : decode cX0_liveOn 25 = .ok (.iload_n 2, 1) := by decide +kernel
theorem dX0_liveOn_26 : decode cX0_liveOn 26 = .ok (.bipush 40, 2) := by decide +kernel
theorem dX0_liveOn_28 : decode cX0_liveOn 28 = .ok (.if_icmp .ge 55, 3) := by decide +kernel
theorem dX0_liveOn_31 : decode cX0_liveOn 31 = .ok (.aload_n 0, 1) := by decide +kernel
theorem dX0_liveOn_32 : decode cX0_liveOn 32 = .ok (.aload_n 1, 1) := by decide +kernel
theorem dX0_liveOn_33 : decode cX0_liveOn 33 = .ok (.aload_n 0, 1) := by decide +kernel
theorem dX0_liveOn_34 : decode cX0_liveOn 34 = .ok (.getfield 11, 3) := by decide +kernel
theorem dX0_liveOn_37 : decode cX0_liveOn 37 = .ok (.iload_n 2, 1) := by decide +kernel
theorem dX0_liveOn_38 : decode cX0_liveOn 38 = .ok (.iaload, 1) := by decide +kernel
theorem dX0_liveOn_39 : decode cX0_liveOn 39 = .ok (.aload_n 0, 1) := by decide +kernel
theorem dX0_liveOn_40 : decode cX0_liveOn 40 = .ok (.getfield 15, 3) := by decide +kernel
theorem dX0_liveOn_43 : decode cX0_liveOn 43 = .ok (.iload_n 2, 1) := by decide +kernel
theorem dX0_liveOn_44 : decode cX0_liveOn 44 = .ok (.iaload, 1) := by decide +kernel
theorem dX0_liveOn_45 : decode cX0_liveOn 45 = .ok (.aload_n 0, 1) := by decide +kernel
theorem dX0_liveOn_46 : decode cX0_liveOn 46 = .ok (.getfield 18, 3) := by decide +kernel
theorem dX0_liveOn_49 : decode cX0_liveOn 49 = .ok (.iload_n 2, 1) := by decide +kernel
theorem dX0_liveOn_50 : decode cX0_liveOn 50 = .ok (.iaload, 1) := by decide +kernel
theorem dX0_liveOn_51 : decode cX0_liveOn 51 = .ok (.invokestatic 110, 3) := by decide +kernel
theorem dX0_liveOn_54 : decode cX0_liveOn 54 = .ok (.putfield 29, 3) := by decide +kernel
theorem dX0_liveOn_57 : decode cX0_liveOn 57 = .ok (.aload_n 0, 1) := by decide +kernel
theorem dX0_liveOn_58 : decode cX0_liveOn 58 = .ok (.getfield 29, 3) := by decide +kernel
theorem dX0_liveOn_61 : decode cX0_liveOn 61 = .ok (.ifCond .eq 6, 3) := by decide +kernel
theorem dX0_liveOn_64 : decode cX0_liveOn 64 = .ok (.goto 19, 3) := by decide +kernel
theorem dX0_liveOn_67 : decode cX0_liveOn 67 = .ok (.aload_n 0, 1) := by decide +kernel
theorem dX0_liveOn_68 : decode cX0_liveOn 68 = .ok (.dup, 1) := by decide +kernel
theorem dX0_liveOn_69 : decode cX0_liveOn 69 = .ok (.getfield 32, 3) := by decide +kernel
theorem dX0_liveOn_72 : decode cX0_liveOn 72 = .ok (.iconst 1, 1) := by decide +kernel
theorem dX0_liveOn_73 : decode cX0_liveOn 73 = .ok (.iadd, 1) := by decide +kernel
theorem dX0_liveOn_74 : decode cX0_liveOn 74 = .ok (.putfield 32, 3) := by decide +kernel
theorem dX0_liveOn_77 : decode cX0_liveOn 77 = .ok (.iinc 2 1, 3) := by decide +kernel
theorem dX0_liveOn_80 : decode cX0_liveOn 80 = .ok (.goto (-63), 3) := by decide +kernel
theorem dX0_liveOn_83 : decode cX0_liveOn 83 = .ok (.aload_n 0, 1) := by decide +kernel
theorem dX0_liveOn_84 : decode cX0_liveOn 84 = .ok (.aload_n 1, 1) := by decide +kernel
theorem dX0_liveOn_85 : decode cX0_liveOn 85 = .ok (.getfield 114, 3) := by decide +kernel
theorem dX0_liveOn_88 : decode cX0_liveOn 88 = .ok (.getfield 120, 3) := by decide +kernel
theorem dX0_liveOn_91 : decode cX0_liveOn 91 = .ok (.putfield 35, 3) := by decide +kernel
theorem dX0_liveOn_94 : decode cX0_liveOn 94 = .ok (.aload_n 0, 1) := by decide +kernel
theorem dX0_liveOn_95 : decode cX0_liveOn 95 = .ok (.aload_n 1, 1) := by decide +kernel
theorem dX0_liveOn_96 : decode cX0_liveOn 96 = .ok (.getfield 114, 3) := by decide +kernel
theorem dX0_liveOn_99 : decode cX0_liveOn 99 = .ok (.invokevirtual 125, 3) := by decide +kernel
theorem dX0_liveOn_102 : decode cX0_liveOn 102 = .ok (.putfield 38, 3) := by decide +kernel
theorem dX0_liveOn_105 : decode cX0_liveOn 105 = .ok (.return_, 1) := by decide +kernel
theorem dX0_readHouse_0 : decode cX0_readHouse 0 = .ok (.aload_n 0, 1) := by decide +kernel
theorem dX0_readHouse_1 : decode cX0_readHouse 1 = .ok (.getfield 41, 3) := by decide +kernel
theorem dX0_readHouse_4 : decode cX0_readHouse 4 = .ok (.invokevirtual 100, 3) := by decide +kernel
theorem dX0_readHouse_7 : decode cX0_readHouse 7 = .ok (.ifCond .ne 5, 3) := by decide +kernel
theorem dX0_readHouse_10 : decode cX0_readHouse 10 = .ok (.iconst 0, 1) := by decide +kernel
theorem dX0_readHouse_11 : decode cX0_readHouse 11 = .ok (.ireturn, 1) := by decide +kernel
theorem dX0_readHouse_12 : decode cX0_readHouse 12 = .ok (.aload_n 0, 1) := by decide +kernel
theorem dX0_readHouse_13 : decode cX0_readHouse 13 = .ok (.getfield 15, 3) := by decide +kernel
theorem dX0_readHouse_16 : decode cX0_readHouse 16 = .ok (.aload_n 0, 1) := by decide +kernel
theorem dX0_readHouse_17 : decode cX0_readHouse 17 = .ok (.getfield 21, 3) := by decide +kernel
theorem dX0_readHouse_20 : decode cX0_readHouse 20 = .ok (.aload_n 1, 1) := by decide +kernel
theorem dX0_readHouse_21 : decode cX0_readHouse 21 = .ok (.aload_n 0, 1) := by decide +kernel
theorem dX0_readHouse_22 : decode cX0_readHouse 22 = .ok (.getfield 41, 3) := by decide +kernel
theorem dX0_readHouse_25 : decode cX0_readHouse 25 = .ok (.getfield 76, 3) := by decide +kernel
theorem dX0_readHouse_28 : decode cX0_readHouse 28 = .ok (.invokevirtual 103, 3) := by decide +kernel
theorem dX0_readHouse_31 : decode cX0_readHouse 31 = .ok (.iastore, 1) := by decide +kernel
theorem dX0_readHouse_32 : decode cX0_readHouse 32 = .ok (.aload_n 0, 1) := by decide +kernel
theorem dX0_readHouse_33 : decode cX0_readHouse 33 = .ok (.getfield 15, 3) := by decide +kernel
theorem dX0_readHouse_36 : decode cX0_readHouse 36 = .ok (.aload_n 0, 1) := by decide +kernel
theorem dX0_readHouse_37 : decode cX0_readHouse 37 = .ok (.getfield 21, 3) := by decide +kernel
theorem dX0_readHouse_40 : decode cX0_readHouse 40 = .ok (.iaload, 1) := by decide +kernel
theorem dX0_readHouse_41 : decode cX0_readHouse 41 = .ok (.iconst (-1), 1) := by decide +kernel
theorem dX0_readHouse_42 : decode cX0_readHouse 42 = .ok (.if_icmp .ne 14, 3) := by decide +kernel
theorem dX0_readHouse_45 : decode cX0_readHouse 45 = .ok (.aload_n 0, 1) := by decide +kernel
theorem dX0_readHouse_46 : decode cX0_readHouse 46 = .ok (.getfield 41, 3) := by decide +kernel
theorem dX0_readHouse_49 : decode cX0_readHouse 49 = .ok (.iconst 3, 1) := by decide +kernel
theorem dX0_readHouse_50 : decode cX0_readHouse 50 = .ok (.invokevirtual 72, 3) := by decide +kernel
theorem dX0_readHouse_53 : decode cX0_readHouse 53 = .ok (.ifCond .eq 7, 3) := by decide +kernel
theorem dX0_readHouse_56 : decode cX0_readHouse 56 = .ok (.iconst 1, 1) := by decide +kernel
theorem dX0_readHouse_57 : decode cX0_readHouse 57 = .ok (.goto 4, 3) := by decide +kernel
theorem dX0_readHouse_60 : decode cX0_readHouse 60 = .ok (.iconst 0, 1) := by decide +kernel
theorem dX0_readHouse_61 : decode cX0_readHouse 61 = .ok (.ireturn, 1) := by decide +kernel
theorem dX0_readLine_0 : decode cX0_readLine 0 = .ok (.aload_n 0, 1) := by decide +kernel
theorem dX0_readLine_1 : decode cX0_readLine 1 = .ok (.getfield 41, 3) := by decide +kernel
theorem dX0_readLine_4 : decode cX0_readLine 4 = .ok (.getfield 65, 3) := by decide +kernel
theorem dX0_readLine_7 : decode cX0_readLine 7 = .ok (.invokestatic 68, 3) := by decide +kernel
theorem dX0_readLine_10 : decode cX0_readLine 10 = .ok (.istore_n 2, 1) := by decide +kernel
theorem dX0_readLine_11 : decode cX0_readLine 11 = .ok (.aload_n 0, 1) := by decide +kernel
theorem dX0_readLine_12 : decode cX0_readLine 12 = .ok (.getfield 41, 3) := by decide +kernel
theorem dX0_readLine_15 : decode cX0_readLine 15 = .ok (.getfield 54, 3) := by decide +kernel
theorem dX0_readLine_18 : decode cX0_readLine 18 = .ok (.iconst 1, 1) := by decide +kernel
theorem dX0_readLine_19 : decode cX0_readLine 19 = .ok (.if_icmp .ne 8, 3) := by decide +kernel
theorem dX0_readLine_22 : decode cX0_readLine 22 = .ok (.iload_n 2, 1) := by decide +kernel
theorem dX0_readLine_23 : decode cX0_readLine 23 = .ok (.iconst (-1), 1) := by decide +kernel
theorem dX0_readLine_24 : decode cX0_readLine 24 = .ok (.if_icmp .ne 12, 3) := by decide +kernel
theorem dX0_readLine_27 : decode cX0_readLine 27 = .ok (.aload_n 0, 1) := by decide +kernel
theorem dX0_readLine_28 : decode cX0_readLine 28 = .ok (.getfield 41, 3) := by decide +kernel
theorem dX0_readLine_31 : decode cX0_readLine 31 = .ok (.iconst 1, 1) := by decide +kernel
theorem dX0_readLine_32 : decode cX0_readLine 32 = .ok (.invokevirtual 72, 3) := by decide +kernel
theorem dX0_readLine_35 : decode cX0_readLine 35 = .ok (.ireturn, 1) := by decide +kernel
theorem dX0_readLine_36 : decode cX0_readLine 36 = .ok (.aload_n 1, 1) := by decide +kernel
theorem dX0_readLine_37 : decode cX0_readLine 37 = .ok (.aload_n 0, 1) := by decide +kernel
theorem dX0_readLine_38 : decode cX0_readLine 38 = .ok (.getfield 41, 3) := by decide +kernel
theorem dX0_readLine_41 : decode cX0_readLine 41 = .ok (.getfield 76, 3) := by decide +kernel
theorem dX0_readLine_44 : decode cX0_readLine 44 = .ok (.invokevirtual 80, 3) := by decide +kernel
theorem dX0_readLine_47 : decode cX0_readLine 47 = .ok (.istore_n 3, 1) := by decide +kernel
theorem dX0_readLine_48 : decode cX0_readLine 48 = .ok (.iload_n 2, 1) := by decide +kernel
theorem dX0_readLine_49 : decode cX0_readLine 49 = .ok (.ifCond .ne 17, 3) := by decide +kernel
theorem dX0_readLine_52 : decode cX0_readLine 52 = .ok (.iload_n 3, 1) := by decide +kernel
theorem dX0_readLine_53 : decode cX0_readLine 53 = .ok (.iconst (-1), 1) := by decide +kernel
theorem dX0_readLine_54 : decode cX0_readLine 54 = .ok (.if_icmp .ne 12, 3) := by decide +kernel
theorem dX0_readLine_57 : decode cX0_readLine 57 = .ok (.aload_n 0, 1) := by decide +kernel
theorem dX0_readLine_58 : decode cX0_readLine 58 = .ok (.getfield 41, 3) := by decide +kernel
theorem dX0_readLine_61 : decode cX0_readLine 61 = .ok (.iconst 3, 1) := by decide +kernel
theorem dX0_readLine_62 : decode cX0_readLine 62 = .ok (.invokevirtual 72, 3) := by decide +kernel
theorem dX0_readLine_65 : decode cX0_readLine 65 = .ok (.ireturn, 1) := by decide +kernel
theorem dX0_readLine_66 : decode cX0_readLine 66 = .ok (.aload_n 0, 1) := by decide +kernel
theorem dX0_readLine_67 : decode cX0_readLine 67 = .ok (.getfield 21, 3) := by decide +kernel
theorem dX0_readLine_70 : decode cX0_readLine 70 = .ok (.bipush 40, 2) := by decide +kernel
theorem dX0_readLine_72 : decode cX0_readLine 72 = .ok (.if_icmp .lt 12, 3) := by decide +kernel
theorem dX0_readLine_75 : decode cX0_readLine 75 = .ok (.aload_n 0, 1) := by decide +kernel
theorem dX0_readLine_76 : decode cX0_readLine 76 = .ok (.getfield 41, 3) := by decide +kernel
theorem dX0_readLine_79 : decode cX0_readLine 79 = .ok (.iconst 4, 1) := by decide +kernel
theorem dX0_readLine_80 : decode cX0_readLine 80 = .ok (.invokevirtual 72, 3) := by decide +kernel
theorem dX0_readLine_83 : decode cX0_readLine 83 = .ok (.ireturn, 1) := by decide +kernel
theorem dX0_readLine_84 : decode cX0_readLine 84 = .ok (.aload_n 0, 1) := by decide +kernel
theorem dX0_readLine_85 : decode cX0_readLine 85 = .ok (.getfield 11, 3) := by decide +kernel
theorem dX0_readLine_88 : decode cX0_readLine 88 = .ok (.aload_n 0, 1) := by decide +kernel
theorem dX0_readLine_89 : decode cX0_readLine 89 = .ok (.getfield 21, 3) := by decide +kernel
theorem dX0_readLine_92 : decode cX0_readLine 92 = .ok (.iload_n 2, 1) := by decide +kernel
theorem dX0_readLine_93 : decode cX0_readLine 93 = .ok (.iastore, 1) := by decide +kernel
theorem dX0_readLine_94 : decode cX0_readLine 94 = .ok (.iload_n 2, 1) := by decide +kernel
theorem dX0_readLine_95 : decode cX0_readLine 95 = .ok (.lookupswitch 66 #[(0, 33), (30, 48), (40, 54)], 33) := by decide +kernel
theorem dX0_readLine_128 : decode cX0_readLine 128 = .ok (.aload_n 0, 1) := by decide +kernel
theorem dX0_readLine_129 : decode cX0_readLine 129 = .ok (.getfield 15, 3) := by decide +kernel
theorem dX0_readLine_132 : decode cX0_readLine 132 = .ok (.aload_n 0, 1) := by decide +kernel
theorem dX0_readLine_133 : decode cX0_readLine 133 = .ok (.getfield 21, 3) := by decide +kernel
theorem dX0_readLine_136 : decode cX0_readLine 136 = .ok (.iload_n 3, 1) := by decide +kernel
theorem dX0_readLine_137 : decode cX0_readLine 137 = .ok (.iastore, 1) := by decide +kernel
theorem dX0_readLine_138 : decode cX0_readLine 138 = .ok (.aload_n 0, 1) := by decide +kernel
theorem dX0_readLine_139 : decode cX0_readLine 139 = .ok (.invokevirtual 86, 3) := by decide +kernel
theorem dX0_readLine_142 : decode cX0_readLine 142 = .ok (.ireturn, 1) := by decide +kernel
theorem dX0_readLine_143 : decode cX0_readLine 143 = .ok (.aload_n 0, 1) := by decide +kernel
theorem dX0_readLine_144 : decode cX0_readLine 144 = .ok (.aload_n 1, 1) := by decide +kernel
theorem dX0_readLine_145 : decode cX0_readLine 145 = .ok (.invokevirtual 90, 3) := by decide +kernel
theorem dX0_readLine_148 : decode cX0_readLine 148 = .ok (.ireturn, 1) := by decide +kernel
theorem dX0_readLine_149 : decode cX0_readLine 149 = .ok (.aload_n 0, 1) := by decide +kernel
theorem dX0_readLine_150 : decode cX0_readLine 150 = .ok (.aload_n 0, 1) := by decide +kernel
theorem dX0_readLine_151 : decode cX0_readLine 151 = .ok (.getfield 15, 3) := by decide +kernel
theorem dX0_readLine_154 : decode cX0_readLine 154 = .ok (.iconst 1, 1) := by decide +kernel
theorem dX0_readLine_155 : decode cX0_readLine 155 = .ok (.bipush 60, 2) := by decide +kernel
theorem dX0_readLine_157 : decode cX0_readLine 157 = .ok (.invokevirtual 93, 3) := by decide +kernel
theorem dX0_readLine_160 : decode cX0_readLine 160 = .ok (.ireturn, 1) := by decide +kernel
theorem dX0_readLine_161 : decode cX0_readLine 161 = .ok (.aload_n 0, 1) := by decide +kernel
theorem dX0_readLine_162 : decode cX0_readLine 162 = .ok (.aload_n 0, 1) := by decide +kernel
theorem dX0_readLine_163 : decode cX0_readLine 163 = .ok (.getfield 15, 3) := by decide +kernel
theorem dX0_readLine_166 : decode cX0_readLine 166 = .ok (.iconst 0, 1) := by decide +kernel
theorem dX0_readLine_167 : decode cX0_readLine 167 = .ok (.bipush 7, 2) := by decide +kernel
theorem dX0_readLine_169 : decode cX0_readLine 169 = .ok (.invokevirtual 93, 3) := by decide +kernel
theorem dX0_readLine_172 : decode cX0_readLine 172 = .ok (.ifCond .eq 21, 3) := by decide +kernel
theorem dX0_readLine_175 : decode cX0_readLine 175 = .ok (.aload_n 0, 1) := by decide +kernel
theorem dX0_readLine_176 : decode cX0_readLine 176 = .ok (.aload_n 0, 1) := by decide +kernel
theorem dX0_readLine_177 : decode cX0_readLine 177 = .ok (.getfield 18, 3) := by decide +kernel
theorem dX0_readLine_180 : decode cX0_readLine 180 = .ok (.iconst 0, 1) := by decide +kernel
theorem dX0_readLine_181 : decode cX0_readLine 181 = .ok (.bipush 7, 2) := by decide +kernel
theorem dX0_readLine_183 : decode cX0_readLine 183 = .ok (.invokevirtual 93, 3) := by decide +kernel
theorem dX0_readLine_186 : decode cX0_readLine 186 = .ok (.ifCond .eq 7, 3) := by decide +kernel
theorem dX0_readLine_189 : decode cX0_readLine 189 = .ok (.iconst 1, 1) := by decide +kernel
theorem dX0_readLine_190 : decode cX0_readLine 190 = .ok (.goto 4, 3) := by decide +kernel
theorem dX0_readLine_193 : decode cX0_readLine 193 = .ok (.iconst 0, 1) := by decide +kernel
theorem dX0_readLine_194 : decode cX0_readLine 194 = .ok (.ireturn, 1) := by decide +kernel
theorem dX0_readLines_0 : decode cX0_readLines 0 = .ok (.aload_n 0, 1) := by decide +kernel
theorem dX0_readLines_1 : decode cX0_readLines 1 = .ok (.getfield 41, 3) := by decide +kernel
theorem dX0_readLines_4 : decode cX0_readLines 4 = .ok (.sipush 400, 3) := by decide +kernel
theorem dX0_readLines_7 : decode cX0_readLines 7 = .ok (.invokevirtual 45, 3) := by decide +kernel
theorem dX0_readLines_10 : decode cX0_readLines 10 = .ok (.aload_n 0, 1) := by decide +kernel
theorem dX0_readLines_11 : decode cX0_readLines 11 = .ok (.iconst 0, 1) := by decide +kernel
theorem dX0_readLines_12 : decode cX0_readLines 12 = .ok (.putfield 21, 3) := by decide +kernel
theorem dX0_readLines_15 : decode cX0_readLines 15 = .ok (.iconst 0, 1) := by decide +kernel
theorem dX0_readLines_16 : decode cX0_readLines 16 = .ok (.istore_n 2, 1) := by decide +kernel
theorem dX0_readLines_17 : decode cX0_readLines 17 = .ok (.iload_n 2, 1) := by decide +kernel
theorem dX0_readLines_18 : decode cX0_readLines 18 = .ok (.bipush 40, 2) := by decide +kernel
theorem dX0_readLines_20 : decode cX0_readLines 20 = .ok (.if_icmp .gt 57, 3) := by decide +kernel
theorem dX0_readLines_23 : decode cX0_readLines 23 = .ok (.aload_n 0, 1) := by decide +kernel
theorem dX0_readLines_24 : decode cX0_readLines 24 = .ok (.getfield 41, 3) := by decide +kernel
theorem dX0_readLines_27 : decode cX0_readLines 27 = .ok (.invokevirtual 51, 3) := by decide +kernel
theorem dX0_readLines_30 : decode cX0_readLines 30 = .ok (.aload_n 0, 1) := by decide +kernel
theorem dX0_readLines_31 : decode cX0_readLines 31 = .ok (.getfield 41, 3) := by decide +kernel
theorem dX0_readLines_34 : decode cX0_readLines 34 = .ok (.getfield 54, 3) := by decide +kernel
theorem dX0_readLines_37 : decode cX0_readLines 37 = .ok (.ifCond .eq 23, 3) := by decide +kernel
theorem dX0_readLines_40 : decode cX0_readLines 40 = .ok (.aload_n 0, 1) := by decide +kernel
theorem dX0_readLines_41 : decode cX0_readLines 41 = .ok (.aload_n 1, 1) := by decide +kernel
theorem dX0_readLines_42 : decode cX0_readLines 42 = .ok (.invokevirtual 57, 3) := by decide +kernel
theorem dX0_readLines_45 : decode cX0_readLines 45 = .ok (.ifCond .eq 15, 3) := by decide +kernel
theorem dX0_readLines_48 : decode cX0_readLines 48 = .ok (.aload_n 0, 1) := by decide +kernel
theorem dX0_readLines_49 : decode cX0_readLines 49 = .ok (.getfield 41, 3) := by decide +kernel
theorem dX0_readLines_52 : decode cX0_readLines 52 = .ok (.bipush 59, 2) := by decide +kernel
theorem dX0_readLines_54 : decode cX0_readLines 54 = .ok (.invokevirtual 61, 3) := by decide +kernel
theorem dX0_readLines_57 : decode cX0_readLines 57 = .ok (.ifCond .ne 4, 3) := by decide +kernel
theorem dX0_readLines_60 : decode cX0_readLines 60 = .ok (.return_, 1) := by decide +kernel
theorem dX0_readLines_61 : decode cX0_readLines 61 = .ok (.aload_n 0, 1) := by decide +kernel
theorem dX0_readLines_62 : decode cX0_readLines 62 = .ok (.dup, 1) := by decide +kernel
theorem dX0_readLines_63 : decode cX0_readLines 63 = .ok (.getfield 21, 3) := by decide +kernel
theorem dX0_readLines_66 : decode cX0_readLines 66 = .ok (.iconst 1, 1) := by decide +kernel
theorem dX0_readLines_67 : decode cX0_readLines 67 = .ok (.iadd, 1) := by decide +kernel
theorem dX0_readLines_68 : decode cX0_readLines 68 = .ok (.putfield 21, 3) := by decide +kernel
theorem dX0_readLines_71 : decode cX0_readLines 71 = .ok (.iinc 2 1, 3) := by decide +kernel
theorem dX0_readLines_74 : decode cX0_readLines 74 = .ok (.goto (-57), 3) := by decide +kernel
theorem dX0_readLines_77 : decode cX0_readLines 77 = .ok (.return_, 1) := by decide +kernel
theorem dX0_readNumber_0 : decode cX0_readNumber 0 = .ok (.aload_n 0, 1) := by decide +kernel
theorem dX0_readNumber_1 : decode cX0_readNumber 1 = .ok (.getfield 41, 3) := by decide +kernel
theorem dX0_readNumber_4 : decode cX0_readNumber 4 = .ok (.iload_n 2, 1) := by decide +kernel
theorem dX0_readNumber_5 : decode cX0_readNumber 5 = .ok (.iload_n 3, 1) := by decide +kernel
theorem dX0_readNumber_6 : decode cX0_readNumber 6 = .ok (.invokevirtual 106, 3) := by decide +kernel
theorem dX0_readNumber_9 : decode cX0_readNumber 9 = .ok (.ifCond .ne 5, 3) := by decide +kernel
theorem dX0_readNumber_12 : decode cX0_readNumber 12 = .ok (.iconst 0, 1) := by decide +kernel
theorem dX0_readNumber_13 : decode cX0_readNumber 13 = .ok (.ireturn, 1) := by decide +kernel
theorem dX0_readNumber_14 : decode cX0_readNumber 14 = .ok (.aload_n 1, 1) := by decide +kernel
theorem dX0_readNumber_15 : decode cX0_readNumber 15 = .ok (.aload_n 0, 1) := by decide +kernel
theorem dX0_readNumber_16 : decode cX0_readNumber 16 = .ok (.getfield 21, 3) := by decide +kernel
theorem dX0_readNumber_19 : decode cX0_readNumber 19 = .ok (.aload_n 0, 1) := by decide +kernel
theorem dX0_readNumber_20 : decode cX0_readNumber 20 = .ok (.getfield 41, 3) := by decide +kernel
theorem dX0_readNumber_23 : decode cX0_readNumber 23 = .ok (.getfield 76, 3) := by decide +kernel
theorem dX0_readNumber_26 : decode cX0_readNumber 26 = .ok (.l2i, 1) := by decide +kernel
theorem dX0_readNumber_27 : decode cX0_readNumber 27 = .ok (.iastore, 1) := by decide +kernel
theorem dX0_readNumber_28 : decode cX0_readNumber 28 = .ok (.iconst 1, 1) := by decide +kernel
theorem dX0_readNumber_29 : decode cX0_readNumber 29 = .ok (.ireturn, 1) := by decide +kernel
theorem dX0_readSide_0 : decode cX0_readSide 0 = .ok (.aload_n 0, 1) := by decide +kernel
theorem dX0_readSide_1 : decode cX0_readSide 1 = .ok (.getfield 41, 3) := by decide +kernel
theorem dX0_readSide_4 : decode cX0_readSide 4 = .ok (.invokevirtual 97, 3) := by decide +kernel
theorem dX0_readSide_7 : decode cX0_readSide 7 = .ok (.ifCond .ne 5, 3) := by decide +kernel
theorem dX0_readSide_10 : decode cX0_readSide 10 = .ok (.iconst 0, 1) := by decide +kernel
theorem dX0_readSide_11 : decode cX0_readSide 11 = .ok (.ireturn, 1) := by decide +kernel
theorem dX0_readSide_12 : decode cX0_readSide 12 = .ok (.aload_n 0, 1) := by decide +kernel
theorem dX0_readSide_13 : decode cX0_readSide 13 = .ok (.getfield 18, 3) := by decide +kernel
theorem dX0_readSide_16 : decode cX0_readSide 16 = .ok (.aload_n 0, 1) := by decide +kernel
theorem dX0_readSide_17 : decode cX0_readSide 17 = .ok (.getfield 21, 3) := by decide +kernel
theorem dX0_readSide_20 : decode cX0_readSide 20 = .ok (.aload_n 0, 1) := by decide +kernel
theorem dX0_readSide_21 : decode cX0_readSide 21 = .ok (.getfield 41, 3) := by decide +kernel
theorem dX0_readSide_24 : decode cX0_readSide 24 = .ok (.getfield 65, 3) := by decide +kernel
theorem dX0_readSide_27 : decode cX0_readSide 27 = .ok (.iconst 5, 1) := by decide +kernel
theorem dX0_readSide_28 : decode cX0_readSide 28 = .ok (.isub, 1) := by decide +kernel
theorem dX0_readSide_29 : decode cX0_readSide 29 = .ok (.iastore, 1) := by decide +kernel
theorem dX0_readSide_30 : decode cX0_readSide 30 = .ok (.iconst 1, 1) := by decide +kernel
theorem dX0_readSide_31 : decode cX0_readSide 31 = .ok (.ireturn, 1) := by decide +kernel
theorem dX0_whyNot_0 : decode cX0_whyNot 0 = .ok (.iload_n 1, 1) := by decide +kernel
theorem dX0_whyNot_1 : decode cX0_whyNot 1 = .ok (.lookupswitch 112 #[(0, 43), (10, 50), (20, 78), (30, 106)], 43) := by decide +kernel
theorem dX0_whyNot_44 : decode cX0_whyNot 44 = .ok (.aload_n 0, 1) := by decide +kernel
theorem dX0_whyNot_45 : decode cX0_whyNot 45 = .ok (.iload_n 2, 1) := by decide +kernel
theorem dX0_whyNot_46 : decode cX0_whyNot 46 = .ok (.iload_n 3, 1) := by decide +kernel
theorem dX0_whyNot_47 : decode cX0_whyNot 47 = .ok (.invokevirtual 145, 3) := by decide +kernel
theorem dX0_whyNot_50 : decode cX0_whyNot 50 = .ok (.ireturn, 1) := by decide +kernel
theorem dX0_whyNot_51 : decode cX0_whyNot 51 = .ok (.aload_n 0, 1) := by decide +kernel
theorem dX0_whyNot_52 : decode cX0_whyNot 52 = .ok (.getfield 149, 3) := by decide +kernel
theorem dX0_whyNot_55 : decode cX0_whyNot 55 = .ok (.iload_n 2, 1) := by decide +kernel
theorem dX0_whyNot_56 : decode cX0_whyNot 56 = .ok (.iload_n 3, 1) := by decide +kernel
theorem dX0_whyNot_57 : decode cX0_whyNot 57 = .ok (.invokevirtual 153, 3) := by decide +kernel
theorem dX0_whyNot_60 : decode cX0_whyNot 60 = .ok (.ifCond .eq 16, 3) := by decide +kernel
theorem dX0_whyNot_63 : decode cX0_whyNot 63 = .ok (.aload_n 0, 1) := by decide +kernel
theorem dX0_whyNot_64 : decode cX0_whyNot 64 = .ok (.bipush 8, 2) := by decide +kernel
theorem dX0_whyNot_66 : decode cX0_whyNot 66 = .ok (.iload_n 3, 1) := by decide +kernel
theorem dX0_whyNot_67 : decode cX0_whyNot 67 = .ok (.imul, 1) := by decide +kernel
theorem dX0_whyNot_68 : decode cX0_whyNot 68 = .ok (.iload_n 2, 1) := by decide +kernel
theorem dX0_whyNot_69 : decode cX0_whyNot 69 = .ok (.iadd, 1) := by decide +kernel
theorem dX0_whyNot_70 : decode cX0_whyNot 70 = .ok (.invokevirtual 156, 3) := by decide +kernel
theorem dX0_whyNot_73 : decode cX0_whyNot 73 = .ok (.goto 5, 3) := by decide +kernel
theorem dX0_whyNot_76 : decode cX0_whyNot 76 = .ok (.bipush 9, 2) := by decide +kernel
theorem dX0_whyNot_78 : decode cX0_whyNot 78 = .ok (.ireturn, 1) := by decide +kernel
theorem dX0_whyNot_79 : decode cX0_whyNot 79 = .ok (.aload_n 0, 1) := by decide +kernel
theorem dX0_whyNot_80 : decode cX0_whyNot 80 = .ok (.getfield 149, 3) := by decide +kernel
theorem dX0_whyNot_83 : decode cX0_whyNot 83 = .ok (.iload_n 2, 1) := by decide +kernel
theorem dX0_whyNot_84 : decode cX0_whyNot 84 = .ok (.iload_n 3, 1) := by decide +kernel
theorem dX0_whyNot_85 : decode cX0_whyNot 85 = .ok (.invokevirtual 153, 3) := by decide +kernel
theorem dX0_whyNot_88 : decode cX0_whyNot 88 = .ok (.ifCond .eq 16, 3) := by decide +kernel
theorem dX0_whyNot_91 : decode cX0_whyNot 91 = .ok (.aload_n 0, 1) := by decide +kernel
theorem dX0_whyNot_92 : decode cX0_whyNot 92 = .ok (.bipush 8, 2) := by decide +kernel
theorem dX0_whyNot_94 : decode cX0_whyNot 94 = .ok (.iload_n 3, 1) := by decide +kernel
theorem dX0_whyNot_95 : decode cX0_whyNot 95 = .ok (.imul, 1) := by decide +kernel
theorem dX0_whyNot_96 : decode cX0_whyNot 96 = .ok (.iload_n 2, 1) := by decide +kernel
theorem dX0_whyNot_97 : decode cX0_whyNot 97 = .ok (.iadd, 1) := by decide +kernel
theorem dX0_whyNot_98 : decode cX0_whyNot 98 = .ok (.invokevirtual 159, 3) := by decide +kernel
theorem dX0_whyNot_101 : decode cX0_whyNot 101 = .ok (.goto 5, 3) := by decide +kernel
theorem dX0_whyNot_104 : decode cX0_whyNot 104 = .ok (.bipush 9, 2) := by decide +kernel
theorem dX0_whyNot_106 : decode cX0_whyNot 106 = .ok (.ireturn, 1) := by decide +kernel
theorem dX0_whyNot_107 : decode cX0_whyNot 107 = .ok (.aload_n 0, 1) := by decide +kernel
theorem dX0_whyNot_108 : decode cX0_whyNot 108 = .ok (.iload_n 2, 1) := by decide +kernel
theorem dX0_whyNot_109 : decode cX0_whyNot 109 = .ok (.invokevirtual 162, 3) := by decide +kernel
theorem dX0_whyNot_112 : decode cX0_whyNot 112 = .ok (.ireturn, 1) := by decide +kernel
theorem dX0_whyNot_113 : decode cX0_whyNot 113 = .ok (.aload_n 0, 1) := by decide +kernel
theorem dX0_whyNot_114 : decode cX0_whyNot 114 = .ok (.getfield 114, 3) := by decide +kernel
theorem dX0_whyNot_117 : decode cX0_whyNot 117 = .ok (.getfield 120, 3) := by decide +kernel
theorem dX0_whyNot_120 : decode cX0_whyNot 120 = .ok (.iload_n 2, 1) := by decide +kernel
theorem dX0_whyNot_121 : decode cX0_whyNot 121 = .ok (.iadd, 1) := by decide +kernel
theorem dX0_whyNot_122 : decode cX0_whyNot 122 = .ok (.sipush 400, 3) := by decide +kernel
theorem dX0_whyNot_125 : decode cX0_whyNot 125 = .ok (.if_icmp .le 7, 3) := by decide +kernel
theorem dX0_whyNot_128 : decode cX0_whyNot 128 = .ok (.iconst 1, 1) := by decide +kernel
theorem dX0_whyNot_129 : decode cX0_whyNot 129 = .ok (.goto 4, 3) := by decide +kernel
theorem dX0_whyNot_132 : decode cX0_whyNot 132 = .ok (.iconst 0, 1) := by decide +kernel
theorem dX0_whyNot_133 : decode cX0_whyNot 133 = .ok (.ireturn, 1) := by decide +kernel
theorem dX10_cellsWithin_0 : decode cX10_cellsWithin 0 = .ok (.aload_n 0, 1) := by decide +kernel
theorem dX10_cellsWithin_1 : decode cX10_cellsWithin 1 = .ok (.iload_n 1, 1) := by decide +kernel
theorem dX10_cellsWithin_2 : decode cX10_cellsWithin 2 = .ok (.invokevirtual 65, 3) := by decide +kernel
theorem dX10_cellsWithin_5 : decode cX10_cellsWithin 5 = .ok (.aload_n 0, 1) := by decide +kernel
theorem dX10_cellsWithin_6 : decode cX10_cellsWithin 6 = .ok (.getfield 22, 3) := by decide +kernel
theorem dX10_cellsWithin_9 : decode cX10_cellsWithin 9 = .ok (.iload_n 2, 1) := by decide +kernel
theorem dX10_cellsWithin_10 : decode cX10_cellsWithin 10 = .ok (.iload_n 3, 1) := by decide +kernel
theorem dX10_cellsWithin_11 : decode cX10_cellsWithin 11 = .ok (.invokevirtual 69, 3) := by decide +kernel
theorem dX10_cellsWithin_14 : decode cX10_cellsWithin 14 = .ok (.istore 5, 2) := by decide +kernel
theorem dX10_cellsWithin_16 : decode cX10_cellsWithin 16 = .ok (.iconst 0, 1) := by decide +kernel
theorem dX10_cellsWithin_17 : decode cX10_cellsWithin 17 = .ok (.istore 6, 2) := by decide +kernel
theorem dX10_cellsWithin_19 : decode cX10_cellsWithin 19 = .ok (.iconst 1, 1) := by decide +kernel
theorem dX10_cellsWithin_20 : decode cX10_cellsWithin 20 = .ok (.istore 7, 2) := by decide +kernel
theorem dX10_cellsWithin_22 : decode cX10_cellsWithin 22 = .ok (.iload 7, 2) := by decide +kernel
theorem dX10_cellsWithin_24 : decode cX10_cellsWithin 24 = .ok (.iload 5, 2) := by decide +kernel
theorem dX10_cellsWithin_26 : decode cX10_cellsWithin 26 = .ok (.if_icmp .gt 43, 3) := by decide +kernel
theorem dX10_cellsWithin_29 : decode cX10_cellsWithin 29 = .ok (.aload_n 0, 1) := by decide +kernel
theorem dX10_cellsWithin_30 : decode cX10_cellsWithin 30 = .ok (.iload_n 2, 1) := by decide +kernel
theorem dX10_cellsWithin_31 : decode cX10_cellsWithin 31 = .ok (.iload_n 3, 1) := by decide +kernel
theorem dX10_cellsWithin_32 : decode cX10_cellsWithin 32 = .ok (.iload 7, 2) := by decide +kernel
theorem dX10_cellsWithin_34 : decode cX10_cellsWithin 34 = .ok (.invokevirtual 73, 3) := by decide +kernel
theorem dX10_cellsWithin_37 : decode cX10_cellsWithin 37 = .ok (.istore 8, 2) := by decide +kernel
theorem dX10_cellsWithin_39 : decode cX10_cellsWithin 39 = .ok (.iload 8, 2) := by decide +kernel
theorem dX10_cellsWithin_41 : decode cX10_cellsWithin 41 = .ok (.iconst (-1), 1) := by decide +kernel
theorem dX10_cellsWithin_42 : decode cX10_cellsWithin 42 = .ok (.if_icmp .eq 21, 3) := by decide +kernel
theorem dX10_cellsWithin_45 : decode cX10_cellsWithin 45 = .ok (.iload 8, 2) := by decide +kernel
theorem dX10_cellsWithin_47 : decode cX10_cellsWithin 47 = .ok (.iload 4, 2) := by decide +kernel
theorem dX10_cellsWithin_49 : decode cX10_cellsWithin 49 = .ok (.if_icmp .gt 14, 3) := by decide +kernel
theorem dX10_cellsWithin_52 : decode cX10_cellsWithin 52 = .ok (.iload 6, 2) := by decide +kernel
theorem dX10_cellsWithin_54 : decode cX10_cellsWithin 54 = .ok (.iconst 1, 1) := by decide +kernel
theorem dX10_cellsWithin_55 : decode cX10_cellsWithin 55 = .ok (.iload 7, 2) := by decide +kernel
theorem dX10_cellsWithin_57 : decode cX10_cellsWithin 57 = .ok (.iconst 1, 1) := by decide +kernel
theorem dX10_cellsWithin_58 : decode cX10_cellsWithin 58 = .ok (.isub, 1) := by decide +kernel
theorem dX10_cellsWithin_59 : decode cX10_cellsWithin 59 = .ok (.ishl, 1) := by decide +kernel
theorem dX10_cellsWithin_60 : decode cX10_cellsWithin 60 = .ok (.ior, 1) := by decide +kernel
theorem dX10_cellsWithin_61 : decode cX10_cellsWithin 61 = .ok (.istore 6, 2) := by decide +kernel
theorem dX10_cellsWithin_63 : decode cX10_cellsWithin 63 = .ok (.iinc 7 1, 3) := by decide +kernel
theorem dX10_cellsWithin_66 : decode cX10_cellsWithin 66 = .ok (.goto (-44), 3) := by decide +kernel
theorem dX10_cellsWithin_69 : decode cX10_cellsWithin 69 = .ok (.iload 6, 2) := by decide +kernel
theorem dX10_cellsWithin_71 : decode cX10_cellsWithin 71 = .ok (.ireturn, 1) := by decide +kernel
theorem dX10_mostInShadow_0 : decode cX10_mostInShadow 0 = .ok (.iconst 0, 1) := by decide +kernel
theorem dX10_mostInShadow_1 : decode cX10_mostInShadow 1 = .ok (.istore 4, 2) := by decide +kernel
theorem dX10_mostInShadow_3 : decode cX10_mostInShadow 3 = .ok (.iload 4, 2) := by decide +kernel
theorem dX10_mostInShadow_5 : decode cX10_mostInShadow 5 = .ok (.sipush 128, 3) := by decide +kernel
theorem dX10_mostInShadow_8 : decode cX10_mostInShadow 8 = .ok (.if_icmp .ge 26, 3) := by decide +kernel
theorem dX10_mostInShadow_11 : decode cX10_mostInShadow 11 = .ok (.aload_n 0, 1) := by decide +kernel
theorem dX10_mostInShadow_12 : decode cX10_mostInShadow 12 = .ok (.getfield 18, 3) := by decide +kernel
theorem dX10_mostInShadow_15 : decode cX10_mostInShadow 15 = .ok (.iload 4, 2) := by decide +kernel
theorem dX10_mostInShadow_17 : decode cX10_mostInShadow 17 = .ok (.iload 4, 2) := by decide +kernel
theorem dX10_mostInShadow_19 : decode cX10_mostInShadow 19 = .ok (.ifCond .ne 7, 3) := by decide +kernel
theorem dX10_mostInShadow_22 : decode cX10_mostInShadow 22 = .ok (.iconst 1, 1) := by decide +kernel
theorem dX10_mostInShadow_23 : decode cX10_mostInShadow 23 = .ok (.goto 4, 3) := by decide +kernel
theorem dX10_mostInShadow_26 : decode cX10_mostInShadow 26 = .ok (.iconst 0, 1) := by decide +kernel
theorem dX10_mostInShadow_27 : decode cX10_mostInShadow 27 = .ok (.bastore, 1) := by decide +kernel
theorem dX10_mostInShadow_28 : decode cX10_mostInShadow 28 = .ok (.iinc 4 1, 3) := by decide +kernel
theorem dX10_mostInShadow_31 : decode cX10_mostInShadow 31 = .ok (.goto (-28), 3) := by decide +kernel
theorem dX10_mostInShadow_34 : decode cX10_mostInShadow 34 = .ok (.iconst 0, 1) := by decide +kernel
theorem dX10_mostInShadow_35 : decode cX10_mostInShadow 35 = .ok (.istore 4, 2) := by decide +kernel
theorem dX10_mostInShadow_37 : decode cX10_mostInShadow 37 = .ok (.iload 4, 2) := by decide +kernel
theorem dX10_mostInShadow_39 : decode cX10_mostInShadow 39 = .ok (.aload_n 0, 1) := by decide +kernel
theorem dX10_mostInShadow_40 : decode cX10_mostInShadow 40 = .ok (.getfield 22, 3) := by decide +kernel
theorem dX10_mostInShadow_43 : decode cX10_mostInShadow 43 = .ok (.getfield 26, 3) := by decide +kernel
theorem dX10_mostInShadow_46 : decode cX10_mostInShadow 46 = .ok (.getfield 76, 3) := by decide +kernel
theorem dX10_mostInShadow_49 : decode cX10_mostInShadow 49 = .ok (.if_icmp .ge 22, 3) := by decide +kernel
theorem dX10_mostInShadow_52 : decode cX10_mostInShadow 52 = .ok (.aload_n 0, 1) := by decide +kernel
theorem dX10_mostInShadow_53 : decode cX10_mostInShadow 53 = .ok (.aload_n 0, 1) := by decide +kernel
theorem dX10_mostInShadow_54 : decode cX10_mostInShadow 54 = .ok (.iload 4, 2) := by decide +kernel
theorem dX10_mostInShadow_56 : decode cX10_mostInShadow 56 = .ok (.iload_n 1, 1) := by decide +kernel
theorem dX10_mostInShadow_57 : decode cX10_mostInShadow 57 = .ok (.iload_n 2, 1) := by decide +kernel
theorem dX10_mostInShadow_58 : decode cX10_mostInShadow 58 = .ok (.iload_n 3, 1) := by decide +kernel
theorem dX10_mostInShadow_59 : decode cX10_mostInShadow 59 = .ok (.invokevirtual 80, 3) := by decide +kernel
theorem dX10_mostInShadow_62 : decode cX10_mostInShadow 62 = .ok (.invokevirtual 84, 3) := by decide +kernel
theorem dX10_mostInShadow_65 : decode cX10_mostInShadow 65 = .ok (.iinc 4 1, 3) := by decide +kernel
theorem dX10_mostInShadow_68 : decode cX10_mostInShadow 68 = .ok (.goto (-31), 3) := by decide +kernel
theorem dX10_mostInShadow_71 : decode cX10_mostInShadow 71 = .ok (.iconst 0, 1) := by decide +kernel
theorem dX10_mostInShadow_72 : decode cX10_mostInShadow 72 = .ok (.istore 4, 2) := by decide +kernel
theorem dX10_mostInShadow_74 : decode cX10_mostInShadow 74 = .ok (.iconst 0, 1) := by decide +kernel
theorem dX10_mostInShadow_75 : decode cX10_mostInShadow 75 = .ok (.istore 5, 2) := by decide +kernel
theorem dX10_mostInShadow_77 : decode cX10_mostInShadow 77 = .ok (.iload 5, 2) := by decide +kernel
theorem dX10_mostInShadow_79 : decode cX10_mostInShadow 79 = .ok (.sipush 128, 3) := by decide +kernel
theorem dX10_mostInShadow_82 : decode cX10_mostInShadow 82 = .ok (.if_icmp .ge 31, 3) := by decide +kernel
theorem dX10_mostInShadow_85 : decode cX10_mostInShadow 85 = .ok (.aload_n 0, 1) := by decide +kernel
theorem dX10_mostInShadow_86 : decode cX10_mostInShadow 86 = .ok (.getfield 18, 3) := by decide +kernel
theorem dX10_mostInShadow_89 : decode cX10_mostInShadow 89 = .ok (.iload 5, 2) := by decide +kernel
theorem dX10_mostInShadow_91 : decode cX10_mostInShadow 91 = .ok (.baload, 1) := by decide +kernel
theorem dX10_mostInShadow_92 : decode cX10_mostInShadow 92 = .ok (.ifCond .eq 15, 3) := by decide +kernel
theorem dX10_mostInShadow_95 : decode cX10_mostInShadow 95 = .ok (.iload 4, 2) := by decide +kernel
theorem dX10_mostInShadow_97 : decode cX10_mostInShadow 97 = .ok (.iload 5, 2) := by decide +kernel
theorem dX10_mostInShadow_99 : decode cX10_mostInShadow 99 = .ok (.invokestatic 87, 3) := by decide +kernel
theorem dX10_mostInShadow_102 : decode cX10_mostInShadow 102 = .ok (.invokestatic 92, 3) := by decide +kernel
theorem dX10_mostInShadow_105 : decode cX10_mostInShadow 105 = .ok (.istore 4, 2) := by decide +kernel
theorem dX10_mostInShadow_107 : decode cX10_mostInShadow 107 = .ok (.iinc 5 1, 3) := by decide +kernel
theorem dX10_mostInShadow_110 : decode cX10_mostInShadow 110 = .ok (.goto (-33), 3) := by decide +kernel
theorem dX10_mostInShadow_113 : decode cX10_mostInShadow 113 = .ok (.iload 4, 2) := by decide +kernel
theorem dX10_mostInShadow_115 : decode cX10_mostInShadow 115 = .ok (.ireturn, 1) := by decide +kernel
theorem dX10_spread_0 : decode cX10_spread 0 = .ok (.iconst 0, 1) := by decide +kernel
theorem dX10_spread_1 : decode cX10_spread 1 = .ok (.istore_n 2, 1) := by decide +kernel
theorem dX10_spread_2 : decode cX10_spread 2 = .ok (.iload_n 2, 1) := by decide +kernel
theorem dX10_spread_3 : decode cX10_spread 3 = .ok (.aload_n 0, 1) := by decide +kernel
theorem dX10_spread_4 : decode cX10_spread 4 = .ok (.getfield 9, 3) := by decide +kernel
theorem dX10_spread_7 : decode cX10_spread 7 = .ok (.arraylength, 1) := by decide +kernel
theorem dX10_spread_8 : decode cX10_spread 8 = .ok (.if_icmp .ge 16, 3) := by decide +kernel
theorem dX10_spread_11 : decode cX10_spread 11 = .ok (.aload_n 0, 1) := by decide +kernel
theorem dX10_spread_12 : decode cX10_spread 12 = .ok (.getfield 9, 3) := by decide +kernel
theorem dX10_spread_15 : decode cX10_spread 15 = .ok (.iload_n 2, 1) := by decide +kernel
theorem dX10_spread_16 : decode cX10_spread 16 = .ok (.iconst (-1), 1) := by decide +kernel
theorem dX10_spread_17 : decode cX10_spread 17 = .ok (.iastore, 1) := by decide +kernel
theorem dX10_spread_18 : decode cX10_spread 18 = .ok (.iinc 2 1, 3) := by decide +kernel
theorem dX10_spread_21 : decode cX10_spread 21 = .ok (.goto (-19), 3) := by decide +kernel
theorem dX10_spread_24 : decode cX10_spread 24 = .ok (.aload_n 0, 1) := by decide +kernel
theorem dX10_spread_25 : decode cX10_spread 25 = .ok (.getfield 22, 3) := by decide +kernel
theorem dX10_spread_28 : decode cX10_spread 28 = .ok (.getfield 26, 3) := by decide +kernel
theorem dX10_spread_31 : decode cX10_spread 31 = .ok (.iload_n 1, 1) := by decide +kernel
theorem dX10_spread_32 : decode cX10_spread 32 = .ok (.invokevirtual 32, 3) := by decide +kernel
theorem dX10_spread_35 : decode cX10_spread 35 = .ok (.ifCond .eq 18, 3) := by decide +kernel
theorem dX10_spread_38 : decode cX10_spread 38 = .ok (.aload_n 0, 1) := by decide +kernel
theorem dX10_spread_39 : decode cX10_spread 39 = .ok (.getfield 22, 3) := by decide +kernel
theorem dX10_spread_42 : decode cX10_spread 42 = .ok (.getfield 38, 3) := by decide +kernel
theorem dX10_spread_45 : decode cX10_spread 45 = .ok (.getfield 42, 3) := by decide +kernel
theorem dX10_spread_48 : decode cX10_spread 48 = .ok (.iload_n 1, 1) := by decide +kernel
theorem dX10_spread_49 : decode cX10_spread 49 = .ok (.iaload, 1) := by decide +kernel
theorem dX10_spread_50 : decode cX10_spread 50 = .ok (.goto 4, 3) := by decide +kernel
theorem dX10_spread_53 : decode cX10_spread 53 = .ok (.iconst (-1), 1) := by decide +kernel
theorem dX10_spread_54 : decode cX10_spread 54 = .ok (.istore_n 2, 1) := by decide +kernel
theorem dX10_spread_55 : decode cX10_spread 55 = .ok (.iload_n 2, 1) := by decide +kernel
theorem dX10_spread_56 : decode cX10_spread 56 = .ok (.ifCond .lt 9, 3) := by decide +kernel
theorem dX10_spread_59 : decode cX10_spread 59 = .ok (.iload_n 2, 1) := by decide +kernel
theorem dX10_spread_60 : decode cX10_spread 60 = .ok (.bipush 64, 2) := by decide +kernel
theorem dX10_spread_62 : decode cX10_spread 62 = .ok (.if_icmp .lt 4, 3) := by decide +kernel
theorem dX10_spread_65 : decode cX10_spread 65 = .ok (.return_, 1) := by decide +kernel
theorem dX10_spread_66 : decode cX10_spread 66 = .ok (.aload_n 0, 1) := by decide +kernel
theorem dX10_spread_67 : decode cX10_spread 67 = .ok (.getfield 9, 3) := by decide +kernel
theorem dX10_spread_70 : decode cX10_spread 70 = .ok (.iload_n 2, 1) := by decide +kernel
theorem dX10_spread_71 : decode cX10_spread 71 = .ok (.iconst 0, 1) := by decide +kernel
theorem dX10_spread_72 : decode cX10_spread 72 = .ok (.iastore, 1) := by decide +kernel
theorem dX10_spread_73 : decode cX10_spread 73 = .ok (.aload_n 0, 1) := by decide +kernel
theorem dX10_spread_74 : decode cX10_spread 74 = .ok (.getfield 15, 3) := by decide +kernel
theorem dX10_spread_77 : decode cX10_spread 77 = .ok (.iconst 0, 1) := by decide +kernel
theorem dX10_spread_78 : decode cX10_spread 78 = .ok (.iload_n 2, 1) := by decide +kernel
theorem dX10_spread_79 : decode cX10_spread 79 = .ok (.iastore, 1) := by decide +kernel
theorem dX10_spread_80 : decode cX10_spread 80 = .ok (.iconst 1, 1) := by decide +kernel
theorem dX10_spread_81 : decode cX10_spread 81 = .ok (.istore_n 3, 1) := by decide +kernel
theorem dX10_spread_82 : decode cX10_spread 82 = .ok (.iconst 0, 1) := by decide +kernel
theorem dX10_spread_83 : decode cX10_spread 83 = .ok (.istore 4, 2) := by decide +kernel
theorem dX10_spread_85 : decode cX10_spread 85 = .ok (.iload 4, 2) := by decide +kernel
theorem dX10_spread_87 : decode cX10_spread 87 = .ok (.iload_n 3, 1) := by decide +kernel
theorem dX10_spread_88 : decode cX10_spread 88 = .ok (.if_icmp .ge 119, 3) := by decide +kernel
theorem dX10_spread_91 : decode cX10_spread 91 = .ok (.iload 4, 2) := by decide +kernel
theorem dX10_spread_93 : decode cX10_spread 93 = .ok (.bipush 64, 2) := by decide +kernel
theorem dX10_spread_95 : decode cX10_spread 95 = .ok (.if_icmp .ge 112, 3) := by decide +kernel
theorem dX10_spread_98 : decode cX10_spread 98 = .ok (.aload_n 0, 1) := by decide +kernel
theorem dX10_spread_99 : decode cX10_spread 99 = .ok (.getfield 15, 3) := by decide +kernel
theorem dX10_spread_102 : decode cX10_spread 102 = .ok (.iload 4, 2) := by decide +kernel
theorem dX10_spread_104 : decode cX10_spread 104 = .ok (.iaload, 1) := by decide +kernel
theorem dX10_spread_105 : decode cX10_spread 105 = .ok (.istore 5, 2) := by decide +kernel
theorem dX10_spread_107 : decode cX10_spread 107 = .ok (.iconst 0, 1) := by decide +kernel
theorem dX10_spread_108 : decode cX10_spread 108 = .ok (.istore 6, 2) := by decide +kernel
theorem dX10_spread_110 : decode cX10_spread 110 = .ok (.iload 6, 2) := by decide +kernel
theorem dX10_spread_112 : decode cX10_spread 112 = .ok (.iconst 4, 1) := by decide +kernel
theorem dX10_spread_113 : decode cX10_spread 113 = .ok (.if_icmp .ge 88, 3) := by decide +kernel
theorem dX10_spread_116 : decode cX10_spread 116 = .ok (.aload_n 0, 1) := by decide +kernel
theorem dX10_spread_117 : decode cX10_spread 117 = .ok (.getfield 22, 3) := by decide +kernel
theorem dX10_spread_120 : decode cX10_spread 120 = .ok (.getfield 26, 3) := by decide +kernel
theorem dX10_spread_123 : decode cX10_spread 123 = .ok (.iload 5, 2) := by decide +kernel
theorem dX10_spread_125 : decode cX10_spread 125 = .ok (.iload 6, 2) := by decide +kernel
theorem dX10_spread_127 : decode cX10_spread 127 = .ok (.iconst 1, 1) := by decide +kernel
theorem dX10_spread_128 : decode cX10_spread 128 = .ok (.invokevirtual 47, 3) := by decide +kernel
theorem dX10_spread_131 : decode cX10_spread 131 = .ok (.istore 7, 2) := by decide +kernel
theorem dX10_spread_133 : decode cX10_spread 133 = .ok (.iload 7, 2) := by decide +kernel
theorem dX10_spread_135 : decode cX10_spread 135 = .ok (.iconst (-1), 1) := by decide +kernel
theorem dX10_spread_136 : decode cX10_spread 136 = .ok (.if_icmp .eq 59, 3) := by decide +kernel
theorem dX10_spread_139 : decode cX10_spread 139 = .ok (.aload_n 0, 1) := by decide +kernel
theorem dX10_spread_140 : decode cX10_spread 140 = .ok (.getfield 9, 3) := by decide +kernel
theorem dX10_spread_143 : decode cX10_spread 143 = .ok (.iload 7, 2) := by decide +kernel
theorem dX10_spread_145 : decode cX10_spread 145 = .ok (.iaload, 1) := by decide +kernel
theorem dX10_spread_146 : decode cX10_spread 146 = .ok (.iconst (-1), 1) := by decide +kernel
theorem dX10_spread_147 : decode cX10_spread 147 = .ok (.if_icmp .ne 48, 3) := by decide +kernel
theorem dX10_spread_150 : decode cX10_spread 150 = .ok (.aload_n 0, 1) := by decide +kernel
theorem dX10_spread_151 : decode cX10_spread 151 = .ok (.getfield 22, 3) := by decide +kernel
theorem dX10_spread_154 : decode cX10_spread 154 = .ok (.iload 7, 2) := by decide +kernel
theorem dX10_spread_156 : decode cX10_spread 156 = .ok (.invokevirtual 51, 3) := by decide +kernel
theorem dX10_spread_159 : decode cX10_spread 159 = .ok (.ifCond .ne 36, 3) := by decide +kernel
theorem dX10_spread_162 : decode cX10_spread 162 = .ok (.iload_n 3, 1) := by decide +kernel
theorem dX10_spread_163 : decode cX10_spread 163 = .ok (.bipush 64, 2) := by decide +kernel
theorem dX10_spread_165 : decode cX10_spread 165 = .ok (.if_icmp .ge 30, 3) := by decide +kernel
theorem dX10_spread_168 : decode cX10_spread 168 = .ok (.aload_n 0, 1) := by decide +kernel
theorem dX10_spread_169 : decode cX10_spread 169 = .ok (.getfield 9, 3) := by decide +kernel
theorem dX10_spread_172 : decode cX10_spread 172 = .ok (.iload 7, 2) := by decide +kernel
theorem dX10_spread_174 : decode cX10_spread 174 = .ok (.aload_n 0, 1) := by decide +kernel
theorem dX10_spread_175 : decode cX10_spread 175 = .ok (.getfield 9, 3) := by decide +kernel
theorem dX10_spread_178 : decode cX10_spread 178 = .ok (.iload 5, 2) := by decide +kernel
theorem dX10_spread_180 : decode cX10_spread 180 = .ok (.iaload, 1) := by decide +kernel
theorem dX10_spread_181 : decode cX10_spread 181 = .ok (.iconst 1, 1) := by decide +kernel
theorem dX10_spread_182 : decode cX10_spread 182 = .ok (.iadd, 1) := by decide +kernel
theorem dX10_spread_183 : decode cX10_spread 183 = .ok (.iastore, 1) := by decide +kernel
theorem dX10_spread_184 : decode cX10_spread 184 = .ok (.aload_n 0, 1) := by decide +kernel
theorem dX10_spread_185 : decode cX10_spread 185 = .ok (.getfield 15, 3) := by decide +kernel
theorem dX10_spread_188 : decode cX10_spread 188 = .ok (.iload_n 3, 1) := by decide +kernel
theorem dX10_spread_189 : decode cX10_spread 189 = .ok (.iload 7, 2) := by decide +kernel
theorem dX10_spread_191 : decode cX10_spread 191 = .ok (.iastore, 1) := by decide +kernel
theorem dX10_spread_192 : decode cX10_spread 192 = .ok (.iinc 3 1, 3) := by decide +kernel
theorem dX10_spread_195 : decode cX10_spread 195 = .ok (.iinc 6 1, 3) := by decide +kernel
theorem dX10_spread_198 : decode cX10_spread 198 = .ok (.goto (-88), 3) := by decide +kernel
theorem dX10_spread_201 : decode cX10_spread 201 = .ok (.iinc 4 1, 3) := by decide +kernel
theorem dX10_spread_204 : decode cX10_spread 204 = .ok (.goto (-119), 3) := by decide +kernel
theorem dX10_spread_207 : decode cX10_spread 207 = .ok (.return_, 1) := by decide +kernel
theorem dX10_stepsIntoShadow_0 : decode cX10_stepsIntoShadow 0 = .ok (.aload_n 0, 1) := by decide +kernel
theorem dX10_stepsIntoShadow_1 : decode cX10_stepsIntoShadow 1 = .ok (.iload_n 1, 1) := by decide +kernel
theorem dX10_stepsIntoShadow_2 : decode cX10_stepsIntoShadow 2 = .ok (.invokevirtual 65, 3) := by decide +kernel
theorem dX10_stepsIntoShadow_5 : decode cX10_stepsIntoShadow 5 = .ok (.aload_n 0, 1) := by decide +kernel
theorem dX10_stepsIntoShadow_6 : decode cX10_stepsIntoShadow 6 = .ok (.getfield 22, 3) := by decide +kernel
theorem dX10_stepsIntoShadow_9 : decode cX10_stepsIntoShadow 9 = .ok (.iload_n 2, 1) := by decide +kernel
theorem dX10_stepsIntoShadow_10 : decode cX10_stepsIntoShadow 10 = .ok (.iload_n 3, 1) := by decide +kernel
theorem dX10_stepsIntoShadow_11 : decode cX10_stepsIntoShadow 11 = .ok (.invokevirtual 69, 3) := by decide +kernel
theorem dX10_stepsIntoShadow_14 : decode cX10_stepsIntoShadow 14 = .ok (.istore 4, 2) := by decide +kernel
theorem dX10_stepsIntoShadow_16 : decode cX10_stepsIntoShadow 16 = .ok (.iconst (-1), 1) := by decide +kernel
theorem dX10_stepsIntoShadow_17 : decode cX10_stepsIntoShadow 17 = .ok (.istore 5, 2) := by decide +kernel
theorem dX10_stepsIntoShadow_19 : decode cX10_stepsIntoShadow 19 = .ok (.iconst 1, 1) := by decide +kernel
theorem dX10_stepsIntoShadow_20 : decode cX10_stepsIntoShadow 20 = .ok (.istore 6, 2) := by decide +kernel
theorem dX10_stepsIntoShadow_22 : decode cX10_stepsIntoShadow 22 = .ok (.iload 6, 2) := by decide +kernel
theorem dX10_stepsIntoShadow_24 : decode cX10_stepsIntoShadow 24 = .ok (.iload 4, 2) := by decide +kernel
theorem dX10_stepsIntoShadow_26 : decode cX10_stepsIntoShadow 26 = .ok (.if_icmp .gt 42, 3) := by decide +kernel
theorem dX10_stepsIntoShadow_29 : decode cX10_stepsIntoShadow 29 = .ok (.aload_n 0, 1) := by decide +kernel
theorem dX10_stepsIntoShadow_30 : decode cX10_stepsIntoShadow 30 = .ok (.iload_n 2, 1) := by decide +kernel
theorem dX10_stepsIntoShadow_31 : decode cX10_stepsIntoShadow 31 = .ok (.iload_n 3, 1) := by decide +kernel
theorem dX10_stepsIntoShadow_32 : decode cX10_stepsIntoShadow 32 = .ok (.iload 6, 2) := by decide +kernel
theorem dX10_stepsIntoShadow_34 : decode cX10_stepsIntoShadow 34 = .ok (.invokevirtual 73, 3) := by decide +kernel
theorem dX10_stepsIntoShadow_37 : decode cX10_stepsIntoShadow 37 = .ok (.istore 7, 2) := by decide +kernel
theorem dX10_stepsIntoShadow_39 : decode cX10_stepsIntoShadow 39 = .ok (.iload 7, 2) := by decide +kernel
theorem dX10_stepsIntoShadow_41 : decode cX10_stepsIntoShadow 41 = .ok (.iconst (-1), 1) := by decide +kernel
theorem dX10_stepsIntoShadow_42 : decode cX10_stepsIntoShadow 42 = .ok (.if_icmp .eq 20, 3) := by decide +kernel
theorem dX10_stepsIntoShadow_45 : decode cX10_stepsIntoShadow 45 = .ok (.iload 5, 2) := by decide +kernel
theorem dX10_stepsIntoShadow_47 : decode cX10_stepsIntoShadow 47 = .ok (.iconst (-1), 1) := by decide +kernel
theorem dX10_stepsIntoShadow_48 : decode cX10_stepsIntoShadow 48 = .ok (.if_icmp .eq 10, 3) := by decide +kernel
theorem dX10_stepsIntoShadow_51 : decode cX10_stepsIntoShadow 51 = .ok (.iload 7, 2) := by decide +kernel
theorem dX10_stepsIntoShadow_53 : decode cX10_stepsIntoShadow 53 = .ok (.iload 5, 2) := by decide +kernel
theorem dX10_stepsIntoShadow_55 : decode cX10_stepsIntoShadow 55 = .ok (.if_icmp .ge 7, 3) := by decide +kernel
theorem dX10_stepsIntoShadow_58 : decode cX10_stepsIntoShadow 58 = .ok (.iload 7, 2) := by decide +kernel
theorem dX10_stepsIntoShadow_60 : decode cX10_stepsIntoShadow 60 = .ok (.istore 5, 2) := by decide +kernel
theorem dX10_stepsIntoShadow_62 : decode cX10_stepsIntoShadow 62 = .ok (.iinc 6 1, 3) := by decide +kernel
theorem dX10_stepsIntoShadow_65 : decode cX10_stepsIntoShadow 65 = .ok (.goto (-43), 3) := by decide +kernel
theorem dX10_stepsIntoShadow_68 : decode cX10_stepsIntoShadow 68 = .ok (.iload 5, 2) := by decide +kernel
theorem dX10_stepsIntoShadow_70 : decode cX10_stepsIntoShadow 70 = .ok (.ireturn, 1) := by decide +kernel
theorem dX10_stepsToShade_0 : decode cX10_stepsToShade 0 = .ok (.aload_n 0, 1) := by decide +kernel
theorem dX10_stepsToShade_1 : decode cX10_stepsToShade 1 = .ok (.getfield 22, 3) := by decide +kernel
theorem dX10_stepsToShade_4 : decode cX10_stepsToShade 4 = .ok (.getfield 26, 3) := by decide +kernel
theorem dX10_stepsToShade_7 : decode cX10_stepsToShade 7 = .ok (.iload_n 1, 1) := by decide +kernel
theorem dX10_stepsToShade_8 : decode cX10_stepsToShade 8 = .ok (.iload_n 2, 1) := by decide +kernel
theorem dX10_stepsToShade_9 : decode cX10_stepsToShade 9 = .ok (.invokevirtual 55, 3) := by decide +kernel
theorem dX10_stepsToShade_12 : decode cX10_stepsToShade 12 = .ok (.ifCond .ne 5, 3) := by decide +kernel
theorem dX10_stepsToShade_15 : decode cX10_stepsToShade 15 = .ok (.iconst (-1), 1) := by decide +kernel
theorem dX10_stepsToShade_16 : decode cX10_stepsToShade 16 = .ok (.ireturn, 1) := by decide +kernel
theorem dX10_stepsToShade_17 : decode cX10_stepsToShade 17 = .ok (.aload_n 0, 1) := by decide +kernel
theorem dX10_stepsToShade_18 : decode cX10_stepsToShade 18 = .ok (.getfield 22, 3) := by decide +kernel
theorem dX10_stepsToShade_21 : decode cX10_stepsToShade 21 = .ok (.getfield 26, 3) := by decide +kernel
theorem dX10_stepsToShade_24 : decode cX10_stepsToShade 24 = .ok (.aload_n 0, 1) := by decide +kernel
theorem dX10_stepsToShade_25 : decode cX10_stepsToShade 25 = .ok (.getfield 22, 3) := by decide +kernel
theorem dX10_stepsToShade_28 : decode cX10_stepsToShade 28 = .ok (.getfield 26, 3) := by decide +kernel
theorem dX10_stepsToShade_31 : decode cX10_stepsToShade 31 = .ok (.getfield 59, 3) := by decide +kernel
theorem dX10_stepsToShade_34 : decode cX10_stepsToShade 34 = .ok (.iload_n 1, 1) := by decide +kernel
theorem dX10_stepsToShade_35 : decode cX10_stepsToShade 35 = .ok (.iaload, 1) := by decide +kernel
theorem dX10_stepsToShade_36 : decode cX10_stepsToShade 36 = .ok (.aload_n 0, 1) := by decide +kernel
theorem dX10_stepsToShade_37 : decode cX10_stepsToShade 37 = .ok (.getfield 22, 3) := by decide +kernel
theorem dX10_stepsToShade_40 : decode cX10_stepsToShade 40 = .ok (.getfield 26, 3) := by decide +kernel
theorem dX10_stepsToShade_43 : decode cX10_stepsToShade 43 = .ok (.getfield 62, 3) := by decide +kernel
theorem dX10_stepsToShade_46 : decode cX10_stepsToShade 46 = .ok (.iload_n 2, 1) := by decide +kernel
theorem dX10_stepsToShade_47 : decode cX10_stepsToShade 47 = .ok (.iaload, 1) := by decide +kernel
theorem dX10_stepsToShade_48 : decode cX10_stepsToShade 48 = .ok (.iload_n 3, 1) := by decide +kernel
theorem dX10_stepsToShade_49 : decode cX10_stepsToShade 49 = .ok (.invokevirtual 47, 3) := by decide +kernel
theorem dX10_stepsToShade_52 : decode cX10_stepsToShade 52 = .ok (.istore 4, 2) := by decide +kernel
theorem dX10_stepsToShade_54 : decode cX10_stepsToShade 54 = .ok (.iload 4, 2) := by decide +kernel
theorem dX10_stepsToShade_56 : decode cX10_stepsToShade 56 = .ok (.iconst (-1), 1) := by decide +kernel
theorem dX10_stepsToShade_57 : decode cX10_stepsToShade 57 = .ok (.if_icmp .ne 7, 3) := by decide +kernel
theorem dX10_stepsToShade_60 : decode cX10_stepsToShade 60 = .ok (.iconst (-1), 1) := by decide +kernel
theorem dX10_stepsToShade_61 : decode cX10_stepsToShade 61 = .ok (.goto 10, 3) := by decide +kernel
theorem dX10_stepsToShade_64 : decode cX10_stepsToShade 64 = .ok (.aload_n 0, 1) := by decide +kernel
theorem dX10_stepsToShade_65 : decode cX10_stepsToShade 65 = .ok (.getfield 9, 3) := by decide +kernel
theorem dX10_stepsToShade_68 : decode cX10_stepsToShade 68 = .ok (.iload 4, 2) := by decide +kernel
theorem dX10_stepsToShade_70 : decode cX10_stepsToShade 70 = .ok (.iaload, 1) := by decide +kernel
theorem dX10_stepsToShade_71 : decode cX10_stepsToShade 71 = .ok (.ireturn, 1) := by decide +kernel
theorem dX10_takeOneMore_0 : decode cX10_takeOneMore 0 = .ok (.bipush 127, 2) := by decide +kernel
theorem dX10_takeOneMore_2 : decode cX10_takeOneMore 2 = .ok (.istore_n 2, 1) := by decide +kernel
theorem dX10_takeOneMore_3 : decode cX10_takeOneMore 3 = .ok (.iload_n 2, 1) := by decide +kernel
theorem dX10_takeOneMore_4 : decode cX10_takeOneMore 4 = .ok (.ifCond .lt 64, 3) := by decide +kernel
theorem dX10_takeOneMore_7 : decode cX10_takeOneMore 7 = .ok (.iconst 1, 1) := by decide +kernel
theorem dX10_takeOneMore_8 : decode cX10_takeOneMore 8 = .ok (.istore_n 3, 1) := by decide +kernel
theorem dX10_takeOneMore_9 : decode cX10_takeOneMore 9 = .ok (.aload_n 0, 1) := by decide +kernel
theorem dX10_takeOneMore_10 : decode cX10_takeOneMore 10 = .ok (.getfield 18, 3) := by decide +kernel
theorem dX10_takeOneMore_13 : decode cX10_takeOneMore 13 = .ok (.iload_n 2, 1) := by decide +kernel
theorem dX10_takeOneMore_14 : decode cX10_takeOneMore 14 = .ok (.baload, 1) := by decide +kernel
theorem dX10_takeOneMore_15 : decode cX10_takeOneMore 15 = .ok (.ifCond .eq 47, 3) := by decide +kernel
theorem dX10_takeOneMore_18 : decode cX10_takeOneMore 18 = .ok (.iload_n 3, 1) := by decide +kernel
theorem dX10_takeOneMore_19 : decode cX10_takeOneMore 19 = .ok (.sipush 128, 3) := by decide +kernel
theorem dX10_takeOneMore_22 : decode cX10_takeOneMore 22 = .ok (.if_icmp .ge 40, 3) := by decide +kernel
theorem dX10_takeOneMore_25 : decode cX10_takeOneMore 25 = .ok (.iload_n 1, 1) := by decide +kernel
theorem dX10_takeOneMore_26 : decode cX10_takeOneMore 26 = .ok (.iload_n 3, 1) := by decide +kernel
theorem dX10_takeOneMore_27 : decode cX10_takeOneMore 27 = .ok (.iand, 1) := by decide +kernel
theorem dX10_takeOneMore_28 : decode cX10_takeOneMore 28 = .ok (.ifCond .eq 27, 3) := by decide +kernel
theorem dX10_takeOneMore_31 : decode cX10_takeOneMore 31 = .ok (.iload_n 2, 1) := by decide +kernel
theorem dX10_takeOneMore_32 : decode cX10_takeOneMore 32 = .ok (.iload_n 3, 1) := by decide +kernel
theorem dX10_takeOneMore_33 : decode cX10_takeOneMore 33 = .ok (.iand, 1) := by decide +kernel
theorem dX10_takeOneMore_34 : decode cX10_takeOneMore 34 = .ok (.ifCond .ne 21, 3) := by decide +kernel
theorem dX10_takeOneMore_37 : decode cX10_takeOneMore 37 = .ok (.iload_n 2, 1) := by decide +kernel
theorem dX10_takeOneMore_38 : decode cX10_takeOneMore 38 = .ok (.iload_n 3, 1) := by decide +kernel
theorem dX10_takeOneMore_39 : decode cX10_takeOneMore 39 = .ok (.ior, 1) := by decide +kernel
theorem dX10_takeOneMore_40 : decode cX10_takeOneMore 40 = .ok (.sipush 128, 3) := by decide +kernel
theorem dX10_takeOneMore_43 : decode cX10_takeOneMore 43 = .ok (.if_icmp .ge 12, 3) := by decide +kernel
theorem dX10_takeOneMore_46 : decode cX10_takeOneMore 46 = .ok (.aload_n 0, 1) := by decide +kernel
theorem dX10_takeOneMore_47 : decode cX10_takeOneMore 47 = .ok (.getfield 18, 3) := by decide +kernel
theorem dX10_takeOneMore_50 : decode cX10_takeOneMore 50 = .ok (.iload_n 2, 1) := by decide +kernel
theorem dX10_takeOneMore_51 : decode cX10_takeOneMore 51 = .ok (.iload_n 3, 1) := by decide +kernel
theorem dX10_takeOneMore_52 : decode cX10_takeOneMore 52 = .ok (.ior, 1) := by decide +kernel
theorem dX10_takeOneMore_53 : decode cX10_takeOneMore 53 = .ok (.iconst 1, 1) := by decide +kernel
theorem dX10_takeOneMore_54 : decode cX10_takeOneMore 54 = .ok (.bastore, 1) := by decide +kernel
theorem dX10_takeOneMore_55 : decode cX10_takeOneMore 55 = .ok (.iload_n 3, 1) := by decide +kernel
theorem dX10_takeOneMore_56 : decode cX10_takeOneMore 56 = .ok (.iconst 1, 1) := by decide +kernel
theorem dX10_takeOneMore_57 : decode cX10_takeOneMore 57 = .ok (.ishl, 1) := by decide +kernel
theorem dX10_takeOneMore_58 : decode cX10_takeOneMore 58 = .ok (.istore_n 3, 1) := by decide +kernel
theorem dX10_takeOneMore_59 : decode cX10_takeOneMore 59 = .ok (.goto (-50), 3) := by decide +kernel
theorem dX10_takeOneMore_62 : decode cX10_takeOneMore 62 = .ok (.iinc 2 (-1), 3) := by decide +kernel
theorem dX10_takeOneMore_65 : decode cX10_takeOneMore 65 = .ok (.goto (-62), 3) := by decide +kernel
theorem dX10_takeOneMore_68 : decode cX10_takeOneMore 68 = .ok (.return_, 1) := by decide +kernel
theorem dX11_ask_0 : decode cX11_ask 0 = .ok (.aload_n 0, 1) := by decide +kernel
theorem dX11_ask_1 : decode cX11_ask 1 = .ok (.getfield 113, 3) := by decide +kernel
theorem dX11_ask_4 : decode cX11_ask 4 = .ok (.ireturn, 1) := by decide +kernel
theorem dX11_best_0 : decode cX11_best 0 = .ok (.aload_n 0, 1) := by decide +kernel
theorem dX11_best_1 : decode cX11_best 1 = .ok (.getfield 19, 3) := by decide +kernel
theorem dX11_best_4 : decode cX11_best 4 = .ok (.iload_n 1, 1) := by decide +kernel
theorem dX11_best_5 : decode cX11_best 5 = .ok (.invokevirtual 200, 3) := by decide +kernel
theorem dX11_best_8 : decode cX11_best 8 = .ok (.ifCond .eq 14, 3) := by decide +kernel
theorem dX11_best_11 : decode cX11_best 11 = .ok (.aload_n 0, 1) := by decide +kernel
theorem dX11_best_12 : decode cX11_best 12 = .ok (.getfield 19, 3) := by decide +kernel
theorem dX11_best_15 : decode cX11_best 15 = .ok (.iload_n 2, 1) := by decide +kernel
theorem dX11_best_16 : decode cX11_best 16 = .ok (.invokevirtual 170, 3) := by decide +kernel
theorem dX11_best_19 : decode cX11_best 19 = .ok (.ifCond .ne 5, 3) := by decide +kernel
theorem dX11_best_22 : decode cX11_best 22 = .ok (.iconst (-1), 1) := by decide +kernel
theorem dX11_best_23 : decode cX11_best 23 = .ok (.ireturn, 1) := by decide +kernel
theorem dX11_best_24 : decode cX11_best 24 = .ok (.iconst (-1), 1) := by decide +kernel
theorem dX11_best_25 : decode cX11_best 25 = .ok (.istore_n 3, 1) := by decide +kernel
theorem dX11_best_26 : decode cX11_best 26 = .ok (.bipush 7, 2) := by decide +kernel
theorem dX11_best_28 : decode cX11_best 28 = .ok (.istore 4, 2) := by decide +kernel
theorem dX11_best_30 : decode cX11_best 30 = .ok (.iconst 0, 1) := by decide +kernel
theorem dX11_best_31 : decode cX11_best 31 = .ok (.istore 5, 2) := by decide +kernel
theorem dX11_best_33 : decode cX11_best 33 = .ok (.iload 5, 2) := by decide +kernel
theorem dX11_best_35 : decode cX11_best 35 = .ok (.aload_n 0, 1) := by decide +kernel
theorem dX11_best_36 : decode cX11_best 36 = .ok (.getfield 19, 3) := by decide +kernel
theorem dX11_best_39 : decode cX11_best 39 = .ok (.getfield 286, 3) := by decide +kernel
theorem dX11_best_42 : decode cX11_best 42 = .ok (.if_icmp .ge 41, 3) := by decide +kernel
theorem dX11_best_45 : decode cX11_best 45 = .ok (.aload_n 0, 1) := by decide +kernel
theorem dX11_best_46 : decode cX11_best 46 = .ok (.getfield 42, 3) := by decide +kernel
theorem dX11_best_49 : decode cX11_best 49 = .ok (.iload_n 1, 1) := by decide +kernel
theorem dX11_best_50 : decode cX11_best 50 = .ok (.iload_n 2, 1) := by decide +kernel
theorem dX11_best_51 : decode cX11_best 51 = .ok (.iload 5, 2) := by decide +kernel
theorem dX11_best_53 : decode cX11_best 53 = .ok (.invokevirtual 282, 3) := by decide +kernel
theorem dX11_best_56 : decode cX11_best 56 = .ok (.istore 6, 2) := by decide +kernel
theorem dX11_best_58 : decode cX11_best 58 = .ok (.iload 6, 2) := by decide +kernel
theorem dX11_best_60 : decode cX11_best 60 = .ok (.ifCond .le 17, 3) := by decide +kernel
theorem dX11_best_63 : decode cX11_best 63 = .ok (.iload 6, 2) := by decide +kernel
theorem dX11_best_65 : decode cX11_best 65 = .ok (.iload 4, 2) := by decide +kernel
theorem dX11_best_67 : decode cX11_best 67 = .ok (.if_icmp .ge 10, 3) := by decide +kernel
theorem dX11_best_70 : decode cX11_best 70 = .ok (.iload 6, 2) := by decide +kernel
theorem dX11_best_72 : decode cX11_best 72 = .ok (.istore 4, 2) := by decide +kernel
theorem dX11_best_74 : decode cX11_best 74 = .ok (.iload 5, 2) := by decide +kernel
theorem dX11_best_76 : decode cX11_best 76 = .ok (.istore_n 3, 1) := by decide +kernel
theorem dX11_best_77 : decode cX11_best 77 = .ok (.iinc 5 1, 3) := by decide +kernel
theorem dX11_best_80 : decode cX11_best 80 = .ok (.goto (-47), 3) := by decide +kernel
theorem dX11_best_83 : decode cX11_best 83 = .ok (.iload_n 3, 1) := by decide +kernel
theorem dX11_best_84 : decode cX11_best 84 = .ok (.ireturn, 1) := by decide +kernel
theorem dX11_bestToAsk_0 : decode cX11_bestToAsk 0 = .ok (.iconst (-1), 1) := by decide +kernel
theorem dX11_bestToAsk_1 : decode cX11_bestToAsk 1 = .ok (.istore_n 3, 1) := by decide +kernel
theorem dX11_bestToAsk_2 : decode cX11_bestToAsk 2 = .ok (.bipush 9, 2) := by decide +kernel
theorem dX11_bestToAsk_4 : decode cX11_bestToAsk 4 = .ok (.istore 4, 2) := by decide +kernel
theorem dX11_bestToAsk_6 : decode cX11_bestToAsk 6 = .ok (.iconst 0, 1) := by decide +kernel
theorem dX11_bestToAsk_7 : decode cX11_bestToAsk 7 = .ok (.istore 5, 2) := by decide +kernel
theorem dX11_bestToAsk_9 : decode cX11_bestToAsk 9 = .ok (.iload 5, 2) := by decide +kernel
theorem dX11_bestToAsk_11 : decode cX11_bestToAsk 11 = .ok (.aload_n 0, 1) := by decide +kernel
theorem dX11_bestToAsk_12 : decode cX11_bestToAsk 12 = .ok (.getfield 19, 3) := by decide +kernel
theorem dX11_bestToAsk_15 : decode cX11_bestToAsk 15 = .ok (.getfield 379, 3) := by decide +kernel
theorem dX11_bestToAsk_18 : decode cX11_bestToAsk 18 = .ok (.if_icmp .ge 91, 3) := by decide +kernel
theorem dX11_bestToAsk_21 : decode cX11_bestToAsk 21 = .ok (.iconst 0, 1) := by decide +kernel
theorem dX11_bestToAsk_22 : decode cX11_bestToAsk 22 = .ok (.istore 6, 2) := by decide +kernel
theorem dX11_bestToAsk_24 : decode cX11_bestToAsk 24 = .ok (.iconst 0, 1) := by decide +kernel
theorem dX11_bestToAsk_25 : decode cX11_bestToAsk 25 = .ok (.istore 7, 2) := by decide +kernel
theorem dX11_bestToAsk_27 : decode cX11_bestToAsk 27 = .ok (.iload 7, 2) := by decide +kernel
theorem dX11_bestToAsk_29 : decode cX11_bestToAsk 29 = .ok (.aload_n 0, 1) := by decide +kernel
theorem dX11_bestToAsk_30 : decode cX11_bestToAsk 30 = .ok (.getfield 19, 3) := by decide +kernel
theorem dX11_bestToAsk_33 : decode cX11_bestToAsk 33 = .ok (.getfield 286, 3) := by decide +kernel
theorem dX11_bestToAsk_36 : decode cX11_bestToAsk 36 = .ok (.if_icmp .ge 39, 3) := by decide +kernel
theorem dX11_bestToAsk_39 : decode cX11_bestToAsk 39 = .ok (.iload_n 2, 1) := by decide +kernel
theorem dX11_bestToAsk_40 : decode cX11_bestToAsk 40 = .ok (.iload 7, 2) := by decide +kernel
theorem dX11_bestToAsk_42 : decode cX11_bestToAsk 42 = .ok (.ishr, 1) := by decide +kernel
theorem dX11_bestToAsk_43 : decode cX11_bestToAsk 43 = .ok (.iconst 1, 1) := by decide +kernel
theorem dX11_bestToAsk_44 : decode cX11_bestToAsk 44 = .ok (.iand, 1) := by decide +kernel
theorem dX11_bestToAsk_45 : decode cX11_bestToAsk 45 = .ok (.iconst 1, 1) := by decide +kernel
theorem dX11_bestToAsk_46 : decode cX11_bestToAsk 46 = .ok (.if_icmp .ne 23, 3) := by decide +kernel
theorem dX11_bestToAsk_49 : decode cX11_bestToAsk 49 = .ok (.iload 6, 2) := by decide +kernel
theorem dX11_bestToAsk_51 : decode cX11_bestToAsk 51 = .ok (.aload_n 0, 1) := by decide +kernel
theorem dX11_bestToAsk_52 : decode cX11_bestToAsk 52 = .ok (.getfield 42, 3) := by decide +kernel
theorem dX11_bestToAsk_55 : decode cX11_bestToAsk 55 = .ok (.iload_n 1, 1) := by decide +kernel
theorem dX11_bestToAsk_56 : decode cX11_bestToAsk 56 = .ok (.iload 7, 2) := by decide +kernel
theorem dX11_bestToAsk_58 : decode cX11_bestToAsk 58 = .ok (.invokevirtual 196, 3) := by decide +kernel
theorem dX11_bestToAsk_61 : decode cX11_bestToAsk 61 = .ok (.iload 5, 2) := by decide +kernel
theorem dX11_bestToAsk_63 : decode cX11_bestToAsk 63 = .ok (.ishr, 1) := by decide +kernel
theorem dX11_bestToAsk_64 : decode cX11_bestToAsk 64 = .ok (.iconst 1, 1) := by decide +kernel
theorem dX11_bestToAsk_65 : decode cX11_bestToAsk 65 = .ok (.iand, 1) := by decide +kernel
theorem dX11_bestToAsk_66 : decode cX11_bestToAsk 66 = .ok (.iadd, 1) := by decide +kernel
theorem dX11_bestToAsk_67 : decode cX11_bestToAsk 67 = .ok (.istore 6, 2) := by decide +kernel
theorem dX11_bestToAsk_69 : decode cX11_bestToAsk 69 = .ok (.iinc 7 1, 3) := by decide +kernel
theorem dX11_bestToAsk_72 : decode cX11_bestToAsk 72 = .ok (.goto (-45), 3) := by decide +kernel
theorem dX11_bestToAsk_75 : decode cX11_bestToAsk 75 = .ok (.iload 6, 2) := by decide +kernel
theorem dX11_bestToAsk_77 : decode cX11_bestToAsk 77 = .ok (.iload_n 2, 1) := by decide +kernel
theorem dX11_bestToAsk_78 : decode cX11_bestToAsk 78 = .ok (.invokestatic 365, 3) := by decide +kernel
theorem dX11_bestToAsk_81 : decode cX11_bestToAsk 81 = .ok (.iload 6, 2) := by decide +kernel
theorem dX11_bestToAsk_83 : decode cX11_bestToAsk 83 = .ok (.isub, 1) := by decide +kernel
theorem dX11_bestToAsk_84 : decode cX11_bestToAsk 84 = .ok (.invokestatic 391, 3) := by decide +kernel
theorem dX11_bestToAsk_87 : decode cX11_bestToAsk 87 = .ok (.istore 7, 2) := by decide +kernel
theorem dX11_bestToAsk_89 : decode cX11_bestToAsk 89 = .ok (.iload 7, 2) := by decide +kernel
theorem dX11_bestToAsk_91 : decode cX11_bestToAsk 91 = .ok (.iload 4, 2) := by decide +kernel
theorem dX11_bestToAsk_93 : decode cX11_bestToAsk 93 = .ok (.if_icmp .ge 10, 3) := by decide +kernel
theorem dX11_bestToAsk_96 : decode cX11_bestToAsk 96 = .ok (.iload 7, 2) := by decide +kernel
theorem dX11_bestToAsk_98 : decode cX11_bestToAsk 98 = .ok (.istore 4, 2) := by decide +kernel
theorem dX11_bestToAsk_100 : decode cX11_bestToAsk 100 = .ok (.iload 5, 2) := by decide +kernel
theorem dX11_bestToAsk_102 : decode cX11_bestToAsk 102 = .ok (.istore_n 3, 1) := by decide +kernel
theorem dX11_bestToAsk_103 : decode cX11_bestToAsk 103 = .ok (.iinc 5 1, 3) := by decide +kernel
theorem dX11_bestToAsk_106 : decode cX11_bestToAsk 106 = .ok (.goto (-97), 3) := by decide +kernel
theorem dX11_bestToAsk_109 : decode cX11_bestToAsk 109 = .ok (.iload_n 3, 1) := by decide +kernel
theorem dX11_bestToAsk_110 : decode cX11_bestToAsk 110 = .ok (.ireturn, 1) := by decide +kernel
theorem dX11_book_0 : decode cX11_book 0 = .ok (.iload_n 1, 1) := by decide +kernel
theorem dX11_book_1 : decode cX11_book 1 = .ok (.ifCond .eq 12, 3) := by decide +kernel
theorem dX11_book_4 : decode cX11_book 4 = .ok (.iload_n 1, 1) := by decide +kernel
theorem dX11_book_5 : decode cX11_book 5 = .ok (.iconst 1, 1) := by decide +kernel
theorem dX11_book_6 : decode cX11_book 6 = .ok (.if_icmp .eq 7, 3) := by decide +kernel
theorem dX11_book_9 : decode cX11_book 9 = .ok (.sipush (-1000), 3) := by decide +kernel
theorem dX11_book_12 : decode cX11_book 12 = .ok (.ireturn, 1) := by decide +kernel
theorem dX11_book_13 : decode cX11_book 13 = .ok (.aload_n 0, 1) := by decide +kernel
theorem dX11_book_14 : decode cX11_book 14 = .ok (.getfield 61, 3) := by decide +kernel
theorem dX11_book_17 : decode cX11_book 17 = .ok (.aload_n 0, 1) := by decide +kernel
theorem dX11_book_18 : decode cX11_book 18 = .ok (.getfield 19, 3) := by decide +kernel
theorem dX11_book_21 : decode cX11_book 21 = .ok (.invokevirtual 329, 3) := by decide +kernel
theorem dX11_book_24 : decode cX11_book 24 = .ok (.aload_n 0, 1) := by decide +kernel
theorem dX11_book_25 : decode cX11_book 25 = .ok (.invokevirtual 137, 3) := by decide +kernel
theorem dX11_book_28 : decode cX11_book 28 = .ok (.ifCond .eq 14, 3) := by decide +kernel
theorem dX11_book_31 : decode cX11_book 31 = .ok (.bipush (-2), 2) := by decide +kernel
theorem dX11_book_33 : decode cX11_book 33 = .ok (.aload_n 0, 1) := by decide +kernel
theorem dX11_book_34 : decode cX11_book 34 = .ok (.getfield 10, 3) := by decide +kernel
theorem dX11_book_37 : decode cX11_book 37 = .ok (.getfield 141, 3) := by decide +kernel
theorem dX11_book_40 : decode cX11_book 40 = .ok (.isub, 1) := by decide +kernel
theorem dX11_book_41 : decode cX11_book 41 = .ok (.ireturn, 1) := by decide +kernel
theorem dX11_book_42 : decode cX11_book 42 = .ok (.aload_n 0, 1) := by decide +kernel
theorem dX11_book_43 : decode cX11_book 43 = .ok (.getfield 46, 3) := by decide +kernel
theorem dX11_book_46 : decode cX11_book 46 = .ok (.getfield 322, 3) := by decide +kernel
theorem dX11_book_49 : decode cX11_book 49 = .ok (.aload_n 0, 1) := by decide +kernel
theorem dX11_book_50 : decode cX11_book 50 = .ok (.getfield 26, 3) := by decide +kernel
theorem dX11_book_53 : decode cX11_book 53 = .ok (.invokevirtual 323, 3) := by decide +kernel
theorem dX11_book_56 : decode cX11_book 56 = .ok (.aload_n 0, 1) := by decide +kernel
theorem dX11_book_57 : decode cX11_book 57 = .ok (.getfield 61, 3) := by decide +kernel
theorem dX11_book_60 : decode cX11_book 60 = .ok (.aload_n 0, 1) := by decide +kernel
theorem dX11_book_61 : decode cX11_book 61 = .ok (.getfield 46, 3) := by decide +kernel
theorem dX11_book_64 : decode cX11_book 64 = .ok (.invokevirtual 332, 3) := by decide +kernel
theorem dX11_book_67 : decode cX11_book 67 = .ok (.iload_n 1, 1) := by decide +kernel
theorem dX11_book_68 : decode cX11_book 68 = .ok (.iconst 1, 1) := by decide +kernel
theorem dX11_book_69 : decode cX11_book 69 = .ok (.if_icmp .ne 38, 3) := by decide +kernel
theorem dX11_book_72 : decode cX11_book 72 = .ok (.aload_n 0, 1) := by decide +kernel
theorem dX11_book_73 : decode cX11_book 73 = .ok (.getfield 61, 3) := by decide +kernel
theorem dX11_book_76 : decode cX11_book 76 = .ok (.getfield 335, 3) := by decide +kernel
theorem dX11_book_79 : decode cX11_book 79 = .ok (.ifCond .le 28, 3) := by decide +kernel
theorem dX11_book_82 : decode cX11_book 82 = .ok (.aload_n 0, 1) := by decide +kernel
theorem dX11_book_83 : decode cX11_book 83 = .ok (.getfield 71, 3) := by decide +kernel
theorem dX11_book_86 : decode cX11_book 86 = .ok (.aload_n 0, 1) := by decide +kernel
theorem dX11_book_87 : decode cX11_book 87 = .ok (.getfield 26, 3) := by decide +kernel
theorem dX11_book_90 : decode cX11_book 90 = .ok (.invokevirtual 238, 3) := by decide +kernel
theorem dX11_book_93 : decode cX11_book 93 = .ok (.aload_n 0, 1) := by decide +kernel
theorem dX11_book_94 : decode cX11_book 94 = .ok (.getfield 26, 3) := by decide +kernel
theorem dX11_book_97 : decode cX11_book 97 = .ok (.aload_n 0, 1) := by decide +kernel
theorem dX11_book_98 : decode cX11_book 98 = .ok (.getfield 46, 3) := by decide +kernel
theorem dX11_book_101 : decode cX11_book 101 = .ok (.getfield 322, 3) := by decide +kernel
theorem dX11_book_104 : decode cX11_book 104 = .ok (.invokevirtual 323, 3) := by decide +kernel
theorem dX11_book_107 : decode cX11_book 107 = .ok (.aload_n 0, 1) := by decide +kernel
theorem dX11_book_108 : decode cX11_book 108 = .ok (.getfield 61, 3) := by decide +kernel
theorem dX11_book_111 : decode cX11_book 111 = .ok (.getfield 338, 3) := by decide +kernel
theorem dX11_book_114 : decode cX11_book 114 = .ok (.ifCond .ne 7, 3) := by decide +kernel
theorem dX11_book_117 : decode cX11_book 117 = .ok (.iconst (-1), 1) := by decide +kernel
theorem dX11_book_118 : decode cX11_book 118 = .ok (.goto 10, 3) := by decide +kernel
theorem dX11_book_121 : decode cX11_book 121 = .ok (.aload_n 0, 1) := by decide +kernel
theorem dX11_book_122 : decode cX11_book 122 = .ok (.getfield 61, 3) := by decide +kernel
theorem dX11_book_125 : decode cX11_book 125 = .ok (.getfield 335, 3) := by decide +kernel
theorem dX11_book_128 : decode cX11_book 128 = .ok (.ireturn, 1) := by decide +kernel
theorem dX11_bury_0 : decode cX11_bury 0 = .ok (.aload_n 0, 1) := by decide +kernel
theorem dX11_bury_1 : decode cX11_bury 1 = .ok (.getfield 19, 3) := by decide +kernel
theorem dX11_bury_4 : decode cX11_bury 4 = .ok (.iload_n 1, 1) := by decide +kernel
theorem dX11_bury_5 : decode cX11_bury 5 = .ok (.invokevirtual 170, 3) := by decide +kernel
theorem dX11_bury_8 : decode cX11_bury 8 = .ok (.ifCond .ne 5, 3) := by decide +kernel
theorem dX11_bury_11 : decode cX11_bury 11 = .ok (.iconst (-1), 1) := by decide +kernel
theorem dX11_bury_12 : decode cX11_bury 12 = .ok (.ireturn, 1) := by decide +kernel
theorem dX11_bury_13 : decode cX11_bury 13 = .ok (.aload_n 0, 1) := by decide +kernel
theorem dX11_bury_14 : decode cX11_bury 14 = .ok (.getfield 42, 3) := by decide +kernel
theorem dX11_bury_17 : decode cX11_bury 17 = .ok (.iload_n 1, 1) := by decide +kernel
theorem dX11_bury_18 : decode cX11_bury 18 = .ok (.invokevirtual 258, 3) := by decide +kernel
theorem dX11_bury_21 : decode cX11_bury 21 = .ok (.istore_n 2, 1) := by decide +kernel
theorem dX11_bury_22 : decode cX11_bury 22 = .ok (.iload_n 2, 1) := by decide +kernel
theorem dX11_bury_23 : decode cX11_bury 23 = .ok (.ifCond .ne 22, 3) := by decide +kernel
theorem dX11_bury_26 : decode cX11_bury 26 = .ok (.aload_n 0, 1) := by decide +kernel
theorem dX11_bury_27 : decode cX11_bury 27 = .ok (.getfield 71, 3) := by decide +kernel
theorem dX11_bury_30 : decode cX11_bury 30 = .ok (.aload_n 0, 1) := by decide +kernel
theorem dX11_bury_31 : decode cX11_bury 31 = .ok (.getfield 26, 3) := by decide +kernel
theorem dX11_bury_34 : decode cX11_bury 34 = .ok (.invokevirtual 238, 3) := by decide +kernel
theorem dX11_bury_37 : decode cX11_bury 37 = .ok (.aload_n 0, 1) := by decide +kernel
theorem dX11_bury_38 : decode cX11_bury 38 = .ok (.getfield 42, 3) := by decide +kernel
theorem dX11_bury_41 : decode cX11_bury 41 = .ok (.iload_n 1, 1) := by decide +kernel
theorem dX11_bury_42 : decode cX11_bury 42 = .ok (.invokevirtual 261, 3) := by decide +kernel
theorem dX11_bury_45 : decode cX11_bury 45 = .ok (.iload_n 2, 1) := by decide +kernel
theorem dX11_bury_46 : decode cX11_bury 46 = .ok (.ireturn, 1) := by decide +kernel
theorem dX11_byteAt_0 : decode cX11_byteAt 0 = .ok (.aload_n 0, 1) := by decide +kernel
theorem dX11_byteAt_1 : decode cX11_byteAt 1 = .ok (.getfield 102, 3) := by decide +kernel
theorem dX11_byteAt_4 : decode cX11_byteAt 4 = .ok (.iload_n 1, 1) := by decide +kernel
theorem dX11_byteAt_5 : decode cX11_byteAt 5 = .ok (.invokevirtual 321, 3) := by decide +kernel
theorem dX11_byteAt_8 : decode cX11_byteAt 8 = .ok (.ireturn, 1) := by decide +kernel
theorem dX11_cell_0 : decode cX11_cell 0 = .ok (.aload_n 0, 1) := by decide +kernel
theorem dX11_cell_1 : decode cX11_cell 1 = .ok (.getfield 19, 3) := by decide +kernel
theorem dX11_cell_4 : decode cX11_cell 4 = .ok (.iload_n 1, 1) := by decide +kernel
theorem dX11_cell_5 : decode cX11_cell 5 = .ok (.iload_n 2, 1) := by decide +kernel
theorem dX11_cell_6 : decode cX11_cell 6 = .ok (.invokevirtual 153, 3) := by decide +kernel
theorem dX11_cell_9 : decode cX11_cell 9 = .ok (.ifCond .ne 5, 3) := by decide +kernel
theorem dX11_cell_12 : decode cX11_cell 12 = .ok (.iconst (-1), 1) := by decide +kernel
theorem dX11_cell_13 : decode cX11_cell 13 = .ok (.ireturn, 1) := by decide +kernel
theorem dX11_cell_14 : decode cX11_cell 14 = .ok (.bipush 8, 2) := by decide +kernel
theorem dX11_cell_16 : decode cX11_cell 16 = .ok (.iload_n 2, 1) := by decide +kernel
theorem dX11_cell_17 : decode cX11_cell 17 = .ok (.imul, 1) := by decide +kernel
theorem dX11_cell_18 : decode cX11_cell 18 = .ok (.iload_n 1, 1) := by decide +kernel
theorem dX11_cell_19 : decode cX11_cell 19 = .ok (.iadd, 1) := by decide +kernel
theorem dX11_cell_20 : decode cX11_cell 20 = .ok (.istore 4, 2) := by decide +kernel
theorem dX11_cell_22 : decode cX11_cell 22 = .ok (.iload_n 3, 1) := by decide +kernel
theorem dX11_cell_23 : decode cX11_cell 23 = .ok (.tableswitch 69 0 3 #[29, 39, 49, 59], 29) := by decide +kernel
theorem dX11_cell_52 : decode cX11_cell 52 = .ok (.aload_n 0, 1) := by decide +kernel
theorem dX11_cell_53 : decode cX11_cell 53 = .ok (.getfield 42, 3) := by decide +kernel
theorem dX11_cell_56 : decode cX11_cell 56 = .ok (.iload 4, 2) := by decide +kernel
theorem dX11_cell_58 : decode cX11_cell 58 = .ok (.invokevirtual 157, 3) := by decide +kernel
theorem dX11_cell_61 : decode cX11_cell 61 = .ok (.ireturn, 1) := by decide +kernel
theorem dX11_cell_62 : decode cX11_cell 62 = .ok (.aload_n 0, 1) := by decide +kernel
theorem dX11_cell_63 : decode cX11_cell 63 = .ok (.getfield 19, 3) := by decide +kernel
theorem dX11_cell_66 : decode cX11_cell 66 = .ok (.iload 4, 2) := by decide +kernel
theorem dX11_cell_68 : decode cX11_cell 68 = .ok (.invokevirtual 161, 3) := by decide +kernel
theorem dX11_cell_71 : decode cX11_cell 71 = .ok (.ireturn, 1) := by decide +kernel
theorem dX11_cell_72 : decode cX11_cell 72 = .ok (.aload_n 0, 1) := by decide +kernel
theorem dX11_cell_73 : decode cX11_cell 73 = .ok (.getfield 42, 3) := by decide +kernel
theorem dX11_cell_76 : decode cX11_cell 76 = .ok (.iload 4, 2) := by decide +kernel
theorem dX11_cell_78 : decode cX11_cell 78 = .ok (.invokevirtual 164, 3) := by decide +kernel
theorem dX11_cell_81 : decode cX11_cell 81 = .ok (.ireturn, 1) := by decide +kernel
theorem dX11_cell_82 : decode cX11_cell 82 = .ok (.aload_n 0, 1) := by decide +kernel
theorem dX11_cell_83 : decode cX11_cell 83 = .ok (.getfield 42, 3) := by decide +kernel
theorem dX11_cell_86 : decode cX11_cell 86 = .ok (.iload 4, 2) := by decide +kernel
theorem dX11_cell_88 : decode cX11_cell 88 = .ok (.invokevirtual 167, 3) := by decide +kernel
theorem dX11_cell_91 : decode cX11_cell 91 = .ok (.ireturn, 1) := by decide +kernel
theorem dX11_cell_92 : decode cX11_cell 92 = .ok (.iconst (-1), 1) := by decide +kernel
theorem dX11_cell_93 : decode cX11_cell 93 = .ok (.ireturn, 1) := by decide +kernel
theorem dX11_closeTape_0 : decode cX11_closeTape 0 = .ok (.aload_n 0, 1) := by decide +kernel
theorem dX11_closeTape_1 : decode cX11_closeTape 1 = .ok (.getfield 10, 3) := by decide +kernel
theorem dX11_closeTape_4 : decode cX11_closeTape 4 = .ok (.iconst 0, 1) := by decide +kernel
theorem dX11_closeTape_5 : decode cX11_closeTape 5 = .ok (.putfield 130, 3) := by decide +kernel
theorem dX11_closeTape_8 : decode cX11_closeTape 8 = .ok (.aload_n 0, 1) := by decide +kernel
theorem dX11_closeTape_9 : decode cX11_closeTape 9 = .ok (.aload_n 0, 1) := by decide +kernel
theorem dX11_closeTape_10 : decode cX11_closeTape 10 = .ok (.getfield 10, 3) := by decide +kernel
theorem dX11_closeTape_13 : decode cX11_closeTape 13 = .ok (.getfield 382, 3) := by decide +kernel
theorem dX11_closeTape_16 : decode cX11_closeTape 16 = .ok (.putfield 106, 3) := by decide +kernel
theorem dX11_closeTape_19 : decode cX11_closeTape 19 = .ok (.aload_n 0, 1) := by decide +kernel
theorem dX11_closeTape_20 : decode cX11_closeTape 20 = .ok (.getfield 106, 3) := by decide +kernel
theorem dX11_closeTape_23 : decode cX11_closeTape 23 = .ok (.ifCond .eq 7, 3) := by decide +kernel
theorem dX11_closeTape_26 : decode cX11_closeTape 26 = .ok (.iconst 1, 1) := by decide +kernel
theorem dX11_closeTape_27 : decode cX11_closeTape 27 = .ok (.goto 4, 3) := by decide +kernel
theorem dX11_closeTape_30 : decode cX11_closeTape 30 = .ok (.iconst 0, 1) := by decide +kernel
theorem dX11_closeTape_31 : decode cX11_closeTape 31 = .ok (.ireturn, 1) := by decide +kernel
theorem dX11_copyNames_0 : decode cX11_copyNames 0 = .ok (.aload_n 0, 1) := by decide +kernel
theorem dX11_copyNames_1 : decode cX11_copyNames 1 = .ok (.iconst 0, 1) := by decide +kernel
theorem dX11_copyNames_2 : decode cX11_copyNames 2 = .ok (.aload_n 1, 1) := by decide +kernel
theorem dX11_copyNames_3 : decode cX11_copyNames 3 = .ok (.iconst 0, 1) := by decide +kernel
theorem dX11_copyNames_4 : decode cX11_copyNames 4 = .ok (.aload_n 0, 1) := by decide +kernel
theorem dX11_copyNames_5 : decode cX11_copyNames 5 = .ok (.arraylength, 1) := by decide +kernel
theorem dX11_copyNames_6 : decode cX11_copyNames 6 = .ok (.aload_n 1, 1) := by decide +kernel
theorem dX11_copyNames_7 : decode cX11_copyNames 7 = .ok (.arraylength, 1) := by decide +kernel
theorem dX11_copyNames_8 : decode cX11_copyNames 8 = .ok (.invokestatic 264, 3) := by decide +kernel
theorem dX11_copyNames_11 : decode cX11_copyNames 11 = .ok (.invokestatic 394, 3) := by decide +kernel
theorem dX11_copyNames_14 : decode cX11_copyNames 14 = .ok (.return_, 1) := by decide +kernel
theorem dX11_copyRow_0 : decode cX11_copyRow 0 = .ok (.aload_n 0, 1) := by decide +kernel
theorem dX11_copyRow_1 : decode cX11_copyRow 1 = .ok (.iconst 0, 1) := by decide +kernel
theorem dX11_copyRow_2 : decode cX11_copyRow 2 = .ok (.aload_n 1, 1) := by decide +kernel
theorem dX11_copyRow_3 : decode cX11_copyRow 3 = .ok (.iconst 0, 1) := by decide +kernel
theorem dX11_copyRow_4 : decode cX11_copyRow 4 = .ok (.aload_n 0, 1) := by decide +kernel
theorem dX11_copyRow_5 : decode cX11_copyRow 5 = .ok (.arraylength, 1) := by decide +kernel
theorem dX11_copyRow_6 : decode cX11_copyRow 6 = .ok (.aload_n 1, 1) := by decide +kernel
theorem dX11_copyRow_7 : decode cX11_copyRow 7 = .ok (.arraylength, 1) := by decide +kernel
theorem dX11_copyRow_8 : decode cX11_copyRow 8 = .ok (.invokestatic 264, 3) := by decide +kernel
theorem dX11_copyRow_11 : decode cX11_copyRow 11 = .ok (.invokestatic 394, 3) := by decide +kernel
theorem dX11_copyRow_14 : decode cX11_copyRow 14 = .ok (.return_, 1) := by decide +kernel
theorem dX11_count_0 : decode cX11_count 0 = .ok (.iload_n 1, 1) := by decide +kernel
theorem dX11_count_1 : decode cX11_count 1 = .ok (.tableswitch 87 0 5 #[39, 47, 55, 63, 71, 79], 39) := by decide +kernel
theorem dX11_count_40 : decode cX11_count 40 = .ok (.aload_n 0, 1) := by decide +kernel
theorem dX11_count_41 : decode cX11_count 41 = .ok (.getfield 19, 3) := by decide +kernel
theorem dX11_count_44 : decode cX11_count 44 = .ok (.getfield 373, 3) := by decide +kernel
theorem dX11_count_47 : decode cX11_count 47 = .ok (.ireturn, 1) := by decide +kernel
theorem dX11_count_48 : decode cX11_count 48 = .ok (.aload_n 0, 1) := by decide +kernel
theorem dX11_count_49 : decode cX11_count 49 = .ok (.getfield 19, 3) := by decide +kernel
theorem dX11_count_52 : decode cX11_count 52 = .ok (.getfield 376, 3) := by decide +kernel
theorem dX11_count_55 : decode cX11_count 55 = .ok (.ireturn, 1) := by decide +kernel
theorem dX11_count_56 : decode cX11_count 56 = .ok (.aload_n 0, 1) := by decide +kernel
theorem dX11_count_57 : decode cX11_count 57 = .ok (.getfield 19, 3) := by decide +kernel
theorem dX11_count_60 : decode cX11_count 60 = .ok (.getfield 313, 3) := by decide +kernel
theorem dX11_count_63 : decode cX11_count 63 = .ok (.ireturn, 1) := by decide +kernel
theorem dX11_count_64 : decode cX11_count 64 = .ok (.aload_n 0, 1) := by decide +kernel
theorem dX11_count_65 : decode cX11_count 65 = .ok (.getfield 19, 3) := by decide +kernel
theorem dX11_count_68 : decode cX11_count 68 = .ok (.getfield 379, 3) := by decide +kernel
theorem dX11_count_71 : decode cX11_count 71 = .ok (.ireturn, 1) := by decide +kernel
theorem dX11_count_72 : decode cX11_count 72 = .ok (.aload_n 0, 1) := by decide +kernel
theorem dX11_count_73 : decode cX11_count 73 = .ok (.getfield 19, 3) := by decide +kernel
theorem dX11_count_76 : decode cX11_count 76 = .ok (.getfield 286, 3) := by decide +kernel
theorem dX11_count_79 : decode cX11_count 79 = .ok (.ireturn, 1) := by decide +kernel
theorem dX11_count_80 : decode cX11_count 80 = .ok (.aload_n 0, 1) := by decide +kernel
theorem dX11_count_81 : decode cX11_count 81 = .ok (.getfield 10, 3) := by decide +kernel
theorem dX11_count_84 : decode cX11_count 84 = .ok (.getfield 130, 3) := by decide +kernel
theorem dX11_count_87 : decode cX11_count 87 = .ok (.ireturn, 1) := by decide +kernel
theorem dX11_count_88 : decode cX11_count 88 = .ok (.iconst (-1), 1) := by decide +kernel
theorem dX11_count_89 : decode cX11_count 89 = .ok (.ireturn, 1) := by decide +kernel
theorem dX11_crowd_0 : decode cX11_crowd 0 = .ok (.aload_n 0, 1) := by decide +kernel
theorem dX11_crowd_1 : decode cX11_crowd 1 = .ok (.getfield 19, 3) := by decide +kernel
theorem dX11_crowd_4 : decode cX11_crowd 4 = .ok (.iload_n 1, 1) := by decide +kernel
theorem dX11_crowd_5 : decode cX11_crowd 5 = .ok (.iload_n 2, 1) := by decide +kernel
theorem dX11_crowd_6 : decode cX11_crowd 6 = .ok (.invokevirtual 274, 3) := by decide +kernel
theorem dX11_crowd_9 : decode cX11_crowd 9 = .ok (.ifCond .eq 13, 3) := by decide +kernel
theorem dX11_crowd_12 : decode cX11_crowd 12 = .ok (.iload_n 3, 1) := by decide +kernel
theorem dX11_crowd_13 : decode cX11_crowd 13 = .ok (.ifCond .lt 9, 3) := by decide +kernel
theorem dX11_crowd_16 : decode cX11_crowd 16 = .ok (.iload_n 3, 1) := by decide +kernel
theorem dX11_crowd_17 : decode cX11_crowd 17 = .ok (.bipush 30, 2) := by decide +kernel
theorem dX11_crowd_19 : decode cX11_crowd 19 = .ok (.if_icmp .le 5, 3) := by decide +kernel
theorem dX11_crowd_22 : decode cX11_crowd 22 = .ok (.iconst (-1), 1) := by decide +kernel
theorem dX11_crowd_23 : decode cX11_crowd 23 = .ok (.ireturn, 1) := by decide +kernel
theorem dX11_crowd_24 : decode cX11_crowd 24 = .ok (.aload_n 0, 1) := by decide +kernel
theorem dX11_crowd_25 : decode cX11_crowd 25 = .ok (.getfield 88, 3) := by decide +kernel
theorem dX11_crowd_28 : decode cX11_crowd 28 = .ok (.iload_n 1, 1) := by decide +kernel
theorem dX11_crowd_29 : decode cX11_crowd 29 = .ok (.iload_n 2, 1) := by decide +kernel
theorem dX11_crowd_30 : decode cX11_crowd 30 = .ok (.iload_n 3, 1) := by decide +kernel
theorem dX11_crowd_31 : decode cX11_crowd 31 = .ok (.invokevirtual 298, 3) := by decide +kernel
theorem dX11_crowd_34 : decode cX11_crowd 34 = .ok (.ireturn, 1) := by decide +kernel
theorem dX11_drawn_0 : decode cX11_drawn 0 = .ok (.iload_n 1, 1) := by decide +kernel
theorem dX11_drawn_1 : decode cX11_drawn 1 = .ok (.iconst 1, 1) := by decide +kernel
theorem dX11_drawn_2 : decode cX11_drawn 2 = .ok (.if_icmp .lt 9, 3) := by decide +kernel
theorem dX11_drawn_5 : decode cX11_drawn 5 = .ok (.iload_n 1, 1) := by decide +kernel
theorem dX11_drawn_6 : decode cX11_drawn 6 = .ok (.bipush 60, 2) := by decide +kernel
theorem dX11_drawn_8 : decode cX11_drawn 8 = .ok (.if_icmp .le 5, 3) := by decide +kernel
theorem dX11_drawn_11 : decode cX11_drawn 11 = .ok (.iconst (-1), 1) := by decide +kernel
theorem dX11_drawn_12 : decode cX11_drawn 12 = .ok (.ireturn, 1) := by decide +kernel
theorem dX11_drawn_13 : decode cX11_drawn 13 = .ok (.aload_n 0, 1) := by decide +kernel
theorem dX11_drawn_14 : decode cX11_drawn 14 = .ok (.getfield 46, 3) := by decide +kernel
theorem dX11_drawn_17 : decode cX11_drawn 17 = .ok (.getfield 322, 3) := by decide +kernel
theorem dX11_drawn_20 : decode cX11_drawn 20 = .ok (.aload_n 0, 1) := by decide +kernel
theorem dX11_drawn_21 : decode cX11_drawn 21 = .ok (.getfield 26, 3) := by decide +kernel
theorem dX11_drawn_24 : decode cX11_drawn 24 = .ok (.invokevirtual 323, 3) := by decide +kernel
theorem dX11_drawn_27 : decode cX11_drawn 27 = .ok (.aload_n 0, 1) := by decide +kernel
theorem dX11_drawn_28 : decode cX11_drawn 28 = .ok (.getfield 95, 3) := by decide +kernel
theorem dX11_drawn_31 : decode cX11_drawn 31 = .ok (.aload_n 0, 1) := by decide +kernel
theorem dX11_drawn_32 : decode cX11_drawn 32 = .ok (.getfield 46, 3) := by decide +kernel
theorem dX11_drawn_35 : decode cX11_drawn 35 = .ok (.iload_n 1, 1) := by decide +kernel
theorem dX11_drawn_36 : decode cX11_drawn 36 = .ok (.iload_n 2, 1) := by decide +kernel
theorem dX11_drawn_37 : decode cX11_drawn 37 = .ok (.invokevirtual 325, 3) := by decide +kernel
theorem dX11_drawn_40 : decode cX11_drawn 40 = .ok (.istore_n 3, 1) := by decide +kernel
theorem dX11_drawn_41 : decode cX11_drawn 41 = .ok (.iload_n 3, 1) := by decide +kernel
theorem dX11_drawn_42 : decode cX11_drawn 42 = .ok (.ifCond .le 28, 3) := by decide +kernel
theorem dX11_drawn_45 : decode cX11_drawn 45 = .ok (.aload_n 0, 1) := by decide +kernel
theorem dX11_drawn_46 : decode cX11_drawn 46 = .ok (.getfield 71, 3) := by decide +kernel
theorem dX11_drawn_49 : decode cX11_drawn 49 = .ok (.aload_n 0, 1) := by decide +kernel
theorem dX11_drawn_50 : decode cX11_drawn 50 = .ok (.getfield 26, 3) := by decide +kernel
theorem dX11_drawn_53 : decode cX11_drawn 53 = .ok (.invokevirtual 238, 3) := by decide +kernel
theorem dX11_drawn_56 : decode cX11_drawn 56 = .ok (.aload_n 0, 1) := by decide +kernel
theorem dX11_drawn_57 : decode cX11_drawn 57 = .ok (.getfield 26, 3) := by decide +kernel
theorem dX11_drawn_60 : decode cX11_drawn 60 = .ok (.aload_n 0, 1) := by decide +kernel
theorem dX11_drawn_61 : decode cX11_drawn 61 = .ok (.getfield 46, 3) := by decide +kernel
theorem dX11_drawn_64 : decode cX11_drawn 64 = .ok (.getfield 322, 3) := by decide +kernel
theorem dX11_drawn_67 : decode cX11_drawn 67 = .ok (.invokevirtual 323, 3) := by decide +kernel
theorem dX11_drawn_70 : decode cX11_drawn 70 = .ok (.iload_n 3, 1) := by decide +kernel
theorem dX11_drawn_71 : decode cX11_drawn 71 = .ok (.ireturn, 1) := by decide +kernel
theorem dX11_end_0 : decode cX11_end 0 = .ok (.iload_n 1, 1) := by decide +kernel
theorem dX11_end_1 : decode cX11_end 1 = .ok (.ifCond .lt 14, 3) := by decide +kernel
theorem dX11_end_4 : decode cX11_end 4 = .ok (.iload_n 1, 1) := by decide +kernel
theorem dX11_end_5 : decode cX11_end 5 = .ok (.aload_n 0, 1) := by decide +kernel
theorem dX11_end_6 : decode cX11_end 6 = .ok (.getfield 10, 3) := by decide +kernel
theorem dX11_end_9 : decode cX11_end 9 = .ok (.getfield 130, 3) := by decide +kernel
theorem dX11_end_12 : decode cX11_end 12 = .ok (.if_icmp .le 5, 3) := by decide +kernel
theorem dX11_end_15 : decode cX11_end 15 = .ok (.iconst 0, 1) := by decide +kernel
theorem dX11_end_16 : decode cX11_end 16 = .ok (.ireturn, 1) := by decide +kernel
theorem dX11_end_17 : decode cX11_end 17 = .ok (.aload_n 0, 1) := by decide +kernel
theorem dX11_end_18 : decode cX11_end 18 = .ok (.getfield 10, 3) := by decide +kernel
theorem dX11_end_21 : decode cX11_end 21 = .ok (.iload_n 1, 1) := by decide +kernel
theorem dX11_end_22 : decode cX11_end 22 = .ok (.putfield 130, 3) := by decide +kernel
theorem dX11_end_25 : decode cX11_end 25 = .ok (.iconst 1, 1) := by decide +kernel
theorem dX11_end_26 : decode cX11_end 26 = .ok (.ireturn, 1) := by decide +kernel
theorem dX11_fault_0 : decode cX11_fault 0 = .ok (.aload_n 0, 1) := by decide +kernel
theorem dX11_fault_1 : decode cX11_fault 1 = .ok (.getfield 106, 3) := by decide +kernel
theorem dX11_fault_4 : decode cX11_fault 4 = .ok (.ireturn, 1) := by decide +kernel
theorem dX11_feed_0 : decode cX11_feed 0 = .ok (.aload_n 0, 1) := by decide +kernel
theorem dX11_feed_1 : decode cX11_feed 1 = .ok (.getfield 10, 3) := by decide +kernel
theorem dX11_feed_4 : decode cX11_feed 4 = .ok (.bipush 20, 2) := by decide +kernel
theorem dX11_feed_6 : decode cX11_feed 6 = .ok (.invokevirtual 122, 3) := by decide +kernel
theorem dX11_feed_9 : decode cX11_feed 9 = .ok (.ifCond .ne 5, 3) := by decide +kernel
theorem dX11_feed_12 : decode cX11_feed 12 = .ok (.iconst (-1), 1) := by decide +kernel
theorem dX11_feed_13 : decode cX11_feed 13 = .ok (.ireturn, 1) := by decide +kernel
theorem dX11_feed_14 : decode cX11_feed 14 = .ok (.aload_n 0, 1) := by decide +kernel
theorem dX11_feed_15 : decode cX11_feed 15 = .ok (.getfield 10, 3) := by decide +kernel
theorem dX11_feed_18 : decode cX11_feed 18 = .ok (.iload_n 1, 1) := by decide +kernel
theorem dX11_feed_19 : decode cX11_feed 19 = .ok (.invokevirtual 126, 3) := by decide +kernel
theorem dX11_feed_22 : decode cX11_feed 22 = .ok (.aload_n 0, 1) := by decide +kernel
theorem dX11_feed_23 : decode cX11_feed 23 = .ok (.getfield 10, 3) := by decide +kernel
theorem dX11_feed_26 : decode cX11_feed 26 = .ok (.iload_n 2, 1) := by decide +kernel
theorem dX11_feed_27 : decode cX11_feed 27 = .ok (.invokevirtual 126, 3) := by decide +kernel
theorem dX11_feed_30 : decode cX11_feed 30 = .ok (.aload_n 0, 1) := by decide +kernel
theorem dX11_feed_31 : decode cX11_feed 31 = .ok (.getfield 10, 3) := by decide +kernel
theorem dX11_feed_34 : decode cX11_feed 34 = .ok (.iload_n 3, 1) := by decide +kernel
theorem dX11_feed_35 : decode cX11_feed 35 = .ok (.invokevirtual 126, 3) := by decide +kernel
theorem dX11_feed_38 : decode cX11_feed 38 = .ok (.aload_n 0, 1) := by decide +kernel
theorem dX11_feed_39 : decode cX11_feed 39 = .ok (.getfield 10, 3) := by decide +kernel
theorem dX11_feed_42 : decode cX11_feed 42 = .ok (.iload 4, 2) := by decide +kernel
theorem dX11_feed_44 : decode cX11_feed 44 = .ok (.invokevirtual 126, 3) := by decide +kernel
theorem dX11_feed_47 : decode cX11_feed 47 = .ok (.aload_n 0, 1) := by decide +kernel
theorem dX11_feed_48 : decode cX11_feed 48 = .ok (.getfield 10, 3) := by decide +kernel
theorem dX11_feed_51 : decode cX11_feed 51 = .ok (.iload 5, 2) := by decide +kernel
theorem dX11_feed_53 : decode cX11_feed 53 = .ok (.invokevirtual 126, 3) := by decide +kernel
theorem dX11_feed_56 : decode cX11_feed 56 = .ok (.aload_n 0, 1) := by decide +kernel
theorem dX11_feed_57 : decode cX11_feed 57 = .ok (.getfield 10, 3) := by decide +kernel
theorem dX11_feed_60 : decode cX11_feed 60 = .ok (.getfield 130, 3) := by decide +kernel
theorem dX11_feed_63 : decode cX11_feed 63 = .ok (.ireturn, 1) := by decide +kernel
theorem dX11_go_0 : decode cX11_go 0 = .ok (.aload_n 0, 1) := by decide +kernel
theorem dX11_go_1 : decode cX11_go 1 = .ok (.getfield 19, 3) := by decide +kernel
theorem dX11_go_4 : decode cX11_go 4 = .ok (.iload_n 1, 1) := by decide +kernel
theorem dX11_go_5 : decode cX11_go 5 = .ok (.invokevirtual 200, 3) := by decide +kernel
theorem dX11_go_8 : decode cX11_go 8 = .ok (.ifCond .eq 12, 3) := by decide +kernel
theorem dX11_go_11 : decode cX11_go 11 = .ok (.iload_n 2, 1) := by decide +kernel
theorem dX11_go_12 : decode cX11_go 12 = .ok (.ifCond .lt 8, 3) := by decide +kernel
theorem dX11_go_15 : decode cX11_go 15 = .ok (.iload_n 2, 1) := by decide +kernel
theorem dX11_go_16 : decode cX11_go 16 = .ok (.iconst 4, 1) := by decide +kernel
theorem dX11_go_17 : decode cX11_go 17 = .ok (.if_icmp .lt 5, 3) := by decide +kernel
theorem dX11_go_20 : decode cX11_go 20 = .ok (.iconst (-1), 1) := by decide +kernel
theorem dX11_go_21 : decode cX11_go 21 = .ok (.ireturn, 1) := by decide +kernel
theorem dX11_go_22 : decode cX11_go 22 = .ok (.aload_n 0, 1) := by decide +kernel
theorem dX11_go_23 : decode cX11_go 23 = .ok (.getfield 42, 3) := by decide +kernel
theorem dX11_go_26 : decode cX11_go 26 = .ok (.iload_n 1, 1) := by decide +kernel
theorem dX11_go_27 : decode cX11_go 27 = .ok (.iload_n 2, 1) := by decide +kernel
theorem dX11_go_28 : decode cX11_go 28 = .ok (.invokevirtual 235, 3) := by decide +kernel
theorem dX11_go_31 : decode cX11_go 31 = .ok (.istore_n 3, 1) := by decide +kernel
theorem dX11_go_32 : decode cX11_go 32 = .ok (.iload_n 3, 1) := by decide +kernel
theorem dX11_go_33 : decode cX11_go 33 = .ok (.ifCond .ne 23, 3) := by decide +kernel
theorem dX11_go_36 : decode cX11_go 36 = .ok (.aload_n 0, 1) := by decide +kernel
theorem dX11_go_37 : decode cX11_go 37 = .ok (.getfield 71, 3) := by decide +kernel
theorem dX11_go_40 : decode cX11_go 40 = .ok (.aload_n 0, 1) := by decide +kernel
theorem dX11_go_41 : decode cX11_go 41 = .ok (.getfield 26, 3) := by decide +kernel
theorem dX11_go_44 : decode cX11_go 44 = .ok (.invokevirtual 238, 3) := by decide +kernel
theorem dX11_go_47 : decode cX11_go 47 = .ok (.aload_n 0, 1) := by decide +kernel
theorem dX11_go_48 : decode cX11_go 48 = .ok (.getfield 42, 3) := by decide +kernel
theorem dX11_go_51 : decode cX11_go 51 = .ok (.iload_n 1, 1) := by decide +kernel
theorem dX11_go_52 : decode cX11_go 52 = .ok (.iload_n 2, 1) := by decide +kernel
theorem dX11_go_53 : decode cX11_go 53 = .ok (.invokevirtual 242, 3) := by decide +kernel
theorem dX11_go_56 : decode cX11_go 56 = .ok (.iload_n 3, 1) := by decide +kernel
theorem dX11_go_57 : decode cX11_go 57 = .ok (.ireturn, 1) := by decide +kernel
theorem dX11_heirs_0 : decode cX11_heirs 0 = .ok (.aload_n 0, 1) := by decide +kernel
theorem dX11_heirs_1 : decode cX11_heirs 1 = .ok (.getfield 19, 3) := by decide +kernel
theorem dX11_heirs_4 : decode cX11_heirs 4 = .ok (.iload_n 1, 1) := by decide +kernel
theorem dX11_heirs_5 : decode cX11_heirs 5 = .ok (.iload_n 2, 1) := by decide +kernel
theorem dX11_heirs_6 : decode cX11_heirs 6 = .ok (.invokevirtual 274, 3) := by decide +kernel
theorem dX11_heirs_9 : decode cX11_heirs 9 = .ok (.ifCond .ne 5, 3) := by decide +kernel
theorem dX11_heirs_12 : decode cX11_heirs 12 = .ok (.iconst (-1), 1) := by decide +kernel
theorem dX11_heirs_13 : decode cX11_heirs 13 = .ok (.ireturn, 1) := by decide +kernel
theorem dX11_heirs_14 : decode cX11_heirs 14 = .ok (.aload_n 0, 1) := by decide +kernel
theorem dX11_heirs_15 : decode cX11_heirs 15 = .ok (.getfield 42, 3) := by decide +kernel
theorem dX11_heirs_18 : decode cX11_heirs 18 = .ok (.iload_n 1, 1) := by decide +kernel
theorem dX11_heirs_19 : decode cX11_heirs 19 = .ok (.iload_n 2, 1) := by decide +kernel
theorem dX11_heirs_20 : decode cX11_heirs 20 = .ok (.invokevirtual 196, 3) := by decide +kernel
theorem dX11_heirs_23 : decode cX11_heirs 23 = .ok (.ireturn, 1) := by decide +kernel
theorem dX11_hours_0 : decode cX11_hours 0 = .ok (.iload_n 1, 1) := by decide +kernel
theorem dX11_hours_1 : decode cX11_hours 1 = .ok (.iconst 1, 1) := by decide +kernel
theorem dX11_hours_2 : decode cX11_hours 2 = .ok (.if_icmp .lt 9, 3) := by decide +kernel
theorem dX11_hours_5 : decode cX11_hours 5 = .ok (.iload_n 1, 1) := by decide +kernel
theorem dX11_hours_6 : decode cX11_hours 6 = .ok (.bipush 60, 2) := by decide +kernel
theorem dX11_hours_8 : decode cX11_hours 8 = .ok (.if_icmp .le 5, 3) := by decide +kernel
theorem dX11_hours_11 : decode cX11_hours 11 = .ok (.iconst (-1), 1) := by decide +kernel
theorem dX11_hours_12 : decode cX11_hours 12 = .ok (.ireturn, 1) := by decide +kernel
theorem dX11_hours_13 : decode cX11_hours 13 = .ok (.iload_n 1, 1) := by decide +kernel
theorem dX11_hours_14 : decode cX11_hours 14 = .ok (.sipush 400, 3) := by decide +kernel
theorem dX11_hours_17 : decode cX11_hours 17 = .ok (.aload_n 0, 1) := by decide +kernel
theorem dX11_hours_18 : decode cX11_hours 18 = .ok (.getfield 26, 3) := by decide +kernel
theorem dX11_hours_21 : decode cX11_hours 21 = .ok (.getfield 214, 3) := by decide +kernel
theorem dX11_hours_24 : decode cX11_hours 24 = .ok (.isub, 1) := by decide +kernel
theorem dX11_hours_25 : decode cX11_hours 25 = .ok (.invokestatic 264, 3) := by decide +kernel
theorem dX11_hours_28 : decode cX11_hours 28 = .ok (.istore_n 2, 1) := by decide +kernel
theorem dX11_hours_29 : decode cX11_hours 29 = .ok (.iload_n 2, 1) := by decide +kernel
theorem dX11_hours_30 : decode cX11_hours 30 = .ok (.ifCond .le 27, 3) := by decide +kernel
theorem dX11_hours_33 : decode cX11_hours 33 = .ok (.aload_n 0, 1) := by decide +kernel
theorem dX11_hours_34 : decode cX11_hours 34 = .ok (.getfield 71, 3) := by decide +kernel
theorem dX11_hours_37 : decode cX11_hours 37 = .ok (.aload_n 0, 1) := by decide +kernel
theorem dX11_hours_38 : decode cX11_hours 38 = .ok (.getfield 26, 3) := by decide +kernel
theorem dX11_hours_41 : decode cX11_hours 41 = .ok (.invokevirtual 238, 3) := by decide +kernel
theorem dX11_hours_44 : decode cX11_hours 44 = .ok (.aload_n 0, 1) := by decide +kernel
theorem dX11_hours_45 : decode cX11_hours 45 = .ok (.getfield 26, 3) := by decide +kernel
theorem dX11_hours_48 : decode cX11_hours 48 = .ok (.dup, 1) := by decide +kernel
theorem dX11_hours_49 : decode cX11_hours 49 = .ok (.getfield 214, 3) := by decide +kernel
theorem dX11_hours_52 : decode cX11_hours 52 = .ok (.iload_n 2, 1) := by decide +kernel
theorem dX11_hours_53 : decode cX11_hours 53 = .ok (.iadd, 1) := by decide +kernel
theorem dX11_hours_54 : decode cX11_hours 54 = .ok (.putfield 214, 3) := by decide +kernel
theorem dX11_hours_57 : decode cX11_hours 57 = .ok (.iload_n 2, 1) := by decide +kernel
theorem dX11_hours_58 : decode cX11_hours 58 = .ok (.ireturn, 1) := by decide +kernel
theorem dX11_hoursByTape_0 : decode cX11_hoursByTape 0 = .ok (.aload_n 0, 1) := by decide +kernel
theorem dX11_hoursByTape_1 : decode cX11_hoursByTape 1 = .ok (.invokevirtual 385, 3) := by decide +kernel
theorem dX11_hoursByTape_4 : decode cX11_hoursByTape 4 = .ok (.ifCond .ne 5, 3) := by decide +kernel
theorem dX11_hoursByTape_7 : decode cX11_hoursByTape 7 = .ok (.iconst (-1), 1) := by decide +kernel
theorem dX11_hoursByTape_8 : decode cX11_hoursByTape 8 = .ok (.ireturn, 1) := by decide +kernel
theorem dX11_hoursByTape_9 : decode cX11_hoursByTape 9 = .ok (.iconst 0, 1) := by decide +kernel
theorem dX11_hoursByTape_10 : decode cX11_hoursByTape 10 = .ok (.istore_n 1, 1) := by decide +kernel
theorem dX11_hoursByTape_11 : decode cX11_hoursByTape 11 = .ok (.iconst 0, 1) := by decide +kernel
theorem dX11_hoursByTape_12 : decode cX11_hoursByTape 12 = .ok (.istore_n 2, 1) := by decide +kernel
theorem dX11_hoursByTape_13 : decode cX11_hoursByTape 13 = .ok (.iload_n 2, 1) := by decide +kernel
theorem dX11_hoursByTape_14 : decode cX11_hoursByTape 14 = .ok (.aload_n 0, 1) := by decide +kernel
theorem dX11_hoursByTape_15 : decode cX11_hoursByTape 15 = .ok (.getfield 19, 3) := by decide +kernel
theorem dX11_hoursByTape_18 : decode cX11_hoursByTape 18 = .ok (.getfield 286, 3) := by decide +kernel
theorem dX11_hoursByTape_21 : decode cX11_hoursByTape 21 = .ok (.if_icmp .ge 23, 3) := by decide +kernel
theorem dX11_hoursByTape_24 : decode cX11_hoursByTape 24 = .ok (.aload_n 0, 1) := by decide +kernel
theorem dX11_hoursByTape_25 : decode cX11_hoursByTape 25 = .ok (.iload_n 2, 1) := by decide +kernel
theorem dX11_hoursByTape_26 : decode cX11_hoursByTape 26 = .ok (.invokevirtual 388, 3) := by decide +kernel
theorem dX11_hoursByTape_29 : decode cX11_hoursByTape 29 = .ok (.ifCond .eq 9, 3) := by decide +kernel
theorem dX11_hoursByTape_32 : decode cX11_hoursByTape 32 = .ok (.iload_n 1, 1) := by decide +kernel
theorem dX11_hoursByTape_33 : decode cX11_hoursByTape 33 = .ok (.iconst 1, 1) := by decide +kernel
theorem dX11_hoursByTape_34 : decode cX11_hoursByTape 34 = .ok (.iload_n 2, 1) := by decide +kernel
theorem dX11_hoursByTape_35 : decode cX11_hoursByTape 35 = .ok (.ishl, 1) := by decide +kernel
theorem dX11_hoursByTape_36 : decode cX11_hoursByTape 36 = .ok (.ior, 1) := by decide +kernel
theorem dX11_hoursByTape_37 : decode cX11_hoursByTape 37 = .ok (.istore_n 1, 1) := by decide +kernel
theorem dX11_hoursByTape_38 : decode cX11_hoursByTape 38 = .ok (.iinc 2 1, 3) := by decide +kernel
theorem dX11_hoursByTape_41 : decode cX11_hoursByTape 41 = .ok (.goto (-28), 3) := by decide +kernel
theorem dX11_hoursByTape_44 : decode cX11_hoursByTape 44 = .ok (.iload_n 1, 1) := by decide +kernel
theorem dX11_hoursByTape_45 : decode cX11_hoursByTape 45 = .ok (.ireturn, 1) := by decide +kernel
theorem dX11_house_0 : decode cX11_house 0 = .ok (.aload_n 0, 1) := by decide +kernel
theorem dX11_house_1 : decode cX11_house 1 = .ok (.getfield 19, 3) := by decide +kernel
theorem dX11_house_4 : decode cX11_house 4 = .ok (.iload_n 1, 1) := by decide +kernel
theorem dX11_house_5 : decode cX11_house 5 = .ok (.invokevirtual 170, 3) := by decide +kernel
theorem dX11_house_8 : decode cX11_house 8 = .ok (.ifCond .eq 12, 3) := by decide +kernel
theorem dX11_house_11 : decode cX11_house 11 = .ok (.iload_n 2, 1) := by decide +kernel
theorem dX11_house_12 : decode cX11_house 12 = .ok (.ifCond .lt 8, 3) := by decide +kernel
theorem dX11_house_15 : decode cX11_house 15 = .ok (.iload_n 2, 1) := by decide +kernel
theorem dX11_house_16 : decode cX11_house 16 = .ok (.iconst 5, 1) := by decide +kernel
theorem dX11_house_17 : decode cX11_house 17 = .ok (.if_icmp .le 13, 3) := by decide +kernel
theorem dX11_house_30 : decode cX11_house 30 = .ok (.iload_n 2, 1) := by decide +kernel
theorem dX11_house_31 : decode cX11_house 31 = .ok (.tableswitch 96 0 4 #[33, 46, 59, 69, 79], 33) := by decide +kernel
theorem dX11_house_64 : decode cX11_house 64 = .ok (.aload_n 0, 1) := by decide +kernel
theorem dX11_house_65 : decode cX11_house 65 = .ok (.getfield 19, 3) := by decide +kernel
theorem dX11_house_68 : decode cX11_house 68 = .ok (.getfield 180, 3) := by decide +kernel
theorem dX11_house_71 : decode cX11_house 71 = .ok (.iload_n 1, 1) := by decide +kernel
theorem dX11_house_72 : decode cX11_house 72 = .ok (.iaload, 1) := by decide +kernel
theorem dX11_house_73 : decode cX11_house 73 = .ok (.bipush 8, 2) := by decide +kernel
theorem dX11_house_75 : decode cX11_house 75 = .ok (.irem, 1) := by decide +kernel
theorem dX11_house_76 : decode cX11_house 76 = .ok (.ireturn, 1) := by decide +kernel
theorem dX11_house_77 : decode cX11_house 77 = .ok (.aload_n 0, 1) := by decide +kernel
theorem dX11_house_78 : decode cX11_house 78 = .ok (.getfield 19, 3) := by decide +kernel
theorem dX11_house_81 : decode cX11_house 81 = .ok (.getfield 180, 3) := by decide +kernel
theorem dX11_house_84 : decode cX11_house 84 = .ok (.iload_n 1, 1) := by decide +kernel
theorem dX11_house_85 : decode cX11_house 85 = .ok (.iaload, 1) := by decide +kernel
theorem dX11_house_86 : decode cX11_house 86 = .ok (.bipush 8, 2) := by decide +kernel
theorem dX11_house_88 : decode cX11_house 88 = .ok (.idiv, 1) := by decide +kernel
theorem dX11_house_89 : decode cX11_house 89 = .ok (.ireturn, 1) := by decide +kernel
theorem dX11_house_90 : decode cX11_house 90 = .ok (.aload_n 0, 1) := by decide +kernel
theorem dX11_house_91 : decode cX11_house 91 = .ok (.getfield 19, 3) := by decide +kernel
theorem dX11_house_94 : decode cX11_house 94 = .ok (.getfield 184, 3) := by decide +kernel
theorem dX11_house_97 : decode cX11_house 97 = .ok (.iload_n 1, 1) := by decide +kernel
theorem dX11_house_98 : decode cX11_house 98 = .ok (.iaload, 1) := by decide +kernel
theorem dX11_house_99 : decode cX11_house 99 = .ok (.ireturn, 1) := by decide +kernel
theorem dX11_house_100 : decode cX11_house 100 = .ok (.aload_n 0, 1) := by decide +kernel
theorem dX11_house_101 : decode cX11_house 101 = .ok (.getfield 26, 3) := by decide +kernel
theorem dX11_house_104 : decode cX11_house 104 = .ok (.getfield 187, 3) := by decide +kernel
theorem dX11_house_107 : decode cX11_house 107 = .ok (.iload_n 1, 1) := by decide +kernel
theorem dX11_house_108 : decode cX11_house 108 = .ok (.iaload, 1) := by decide +kernel
theorem dX11_house_109 : decode cX11_house 109 = .ok (.ireturn, 1) := by decide +kernel
theorem dX11_house_110 : decode cX11_house 110 = .ok (.aload_n 0, 1) := by decide +kernel
theorem dX11_house_111 : decode cX11_house 111 = .ok (.getfield 26, 3) := by decide +kernel
theorem dX11_house_114 : decode cX11_house 114 = .ok (.iload_n 1, 1) := by decide +kernel
theorem dX11_house_115 : decode cX11_house 115 = .ok (.invokevirtual 190, 3) := by decide +kernel
theorem dX11_house_118 : decode cX11_house 118 = .ok (.ifCond .eq 7, 3) := by decide +kernel
theorem dX11_house_121 : decode cX11_house 121 = .ok (.iconst 1, 1) := by decide +kernel
theorem dX11_house_122 : decode cX11_house 122 = .ok (.goto 4, 3) := by decide +kernel
theorem dX11_house_125 : decode cX11_house 125 = .ok (.iconst 0, 1) := by decide +kernel
theorem dX11_house_126 : decode cX11_house 126 = .ok (.ireturn, 1) := by decide +kernel
theorem dX11_house_127 : decode cX11_house 127 = .ok (.aload_n 0, 1) := by decide +kernel
theorem dX11_house_128 : decode cX11_house 128 = .ok (.getfield 42, 3) := by decide +kernel
theorem dX11_house_131 : decode cX11_house 131 = .ok (.iload_n 1, 1) := by decide +kernel
theorem dX11_house_132 : decode cX11_house 132 = .ok (.aload_n 0, 1) := by decide +kernel
theorem dX11_house_133 : decode cX11_house 133 = .ok (.getfield 42, 3) := by decide +kernel
theorem dX11_house_136 : decode cX11_house 136 = .ok (.invokevirtual 193, 3) := by decide +kernel
theorem dX11_house_139 : decode cX11_house 139 = .ok (.invokevirtual 196, 3) := by decide +kernel
theorem dX11_house_142 : decode cX11_house 142 = .ok (.ireturn, 1) := by decide +kernel
theorem dX11_image_0 : decode cX11_image 0 = .ok (.iload_n 1, 1) := by decide +kernel
theorem dX11_image_1 : decode cX11_image 1 = .ok (.ifCond .lt 12, 3) := by decide +kernel
theorem dX11_image_4 : decode cX11_image 4 = .ok (.iload_n 1, 1) := by decide +kernel
theorem dX11_image_5 : decode cX11_image 5 = .ok (.aload_n 0, 1) := by decide +kernel
theorem dX11_image_6 : decode cX11_image 6 = .ok (.getfield 75, 3) := by decide +kernel
theorem dX11_image_9 : decode cX11_image 9 = .ok (.arraylength, 1) := by decide +kernel
theorem dX11_image_10 : decode cX11_image 10 = .ok (.if_icmp .lt 5, 3) := by decide +kernel
theorem dX11_image_13 : decode cX11_image 13 = .ok (.iconst 0, 1) := by decide +kernel
theorem dX11_image_14 : decode cX11_image 14 = .ok (.ireturn, 1) := by decide +kernel
theorem dX11_image_15 : decode cX11_image 15 = .ok (.aload_n 0, 1) := by decide +kernel
theorem dX11_image_16 : decode cX11_image 16 = .ok (.getfield 75, 3) := by decide +kernel
theorem dX11_image_19 : decode cX11_image 19 = .ok (.iload_n 1, 1) := by decide +kernel
theorem dX11_image_20 : decode cX11_image 20 = .ok (.aaload, 1) := by decide +kernel
theorem dX11_image_21 : decode cX11_image 21 = .ok (.aload_n 0, 1) := by decide +kernel
theorem dX11_image_22 : decode cX11_image 22 = .ok (.getfield 42, 3) := by decide +kernel
theorem dX11_image_25 : decode cX11_image 25 = .ok (.invokevirtual 147, 3) := by decide +kernel
theorem dX11_image_28 : decode cX11_image 28 = .ok (.aload_n 0, 1) := by decide +kernel
theorem dX11_image_29 : decode cX11_image 29 = .ok (.getfield 79, 3) := by decide +kernel
theorem dX11_image_32 : decode cX11_image 32 = .ok (.iload_n 1, 1) := by decide +kernel
theorem dX11_image_33 : decode cX11_image 33 = .ok (.iconst 1, 1) := by decide +kernel
theorem dX11_image_34 : decode cX11_image 34 = .ok (.bastore, 1) := by decide +kernel
theorem dX11_image_35 : decode cX11_image 35 = .ok (.iconst 1, 1) := by decide +kernel
theorem dX11_image_36 : decode cX11_image 36 = .ok (.ireturn, 1) := by decide +kernel
theorem dX11_isTapeAsTold_0 : decode cX11_isTapeAsTold 0 = .ok (.aload_n 0, 1) := by decide +kernel
theorem dX11_isTapeAsTold_1 : decode cX11_isTapeAsTold 1 = .ok (.getfield 10, 3) := by decide +kernel
theorem dX11_isTapeAsTold_4 : decode cX11_isTapeAsTold 4 = .ok (.getfield 130, 3) := by decide +kernel
theorem dX11_isTapeAsTold_7 : decode cX11_isTapeAsTold 7 = .ok (.istore_n 1, 1) := by decide +kernel
theorem dX11_isTapeAsTold_8 : decode cX11_isTapeAsTold 8 = .ok (.iload_n 1, 1) := by decide +kernel
theorem dX11_isTapeAsTold_9 : decode cX11_isTapeAsTold 9 = .ok (.iconst 3, 1) := by decide +kernel
theorem dX11_isTapeAsTold_10 : decode cX11_isTapeAsTold 10 = .ok (.if_icmp .lt 15, 3) := by decide +kernel
theorem dX11_isTapeAsTold_13 : decode cX11_isTapeAsTold 13 = .ok (.iload_n 1, 1) := by decide +kernel
theorem dX11_isTapeAsTold_14 : decode cX11_isTapeAsTold 14 = .ok (.bipush 13, 2) := by decide +kernel
theorem dX11_isTapeAsTold_16 : decode cX11_isTapeAsTold 16 = .ok (.if_icmp .gt 9, 3) := by decide +kernel
theorem dX11_isTapeAsTold_19 : decode cX11_isTapeAsTold 19 = .ok (.iload_n 1, 1) := by decide +kernel
theorem dX11_isTapeAsTold_20 : decode cX11_isTapeAsTold 20 = .ok (.iconst 2, 1) := by decide +kernel
theorem dX11_isTapeAsTold_21 : decode cX11_isTapeAsTold 21 = .ok (.irem, 1) := by decide +kernel
theorem dX11_isTapeAsTold_22 : decode cX11_isTapeAsTold 22 = .ok (.ifCond .ne 5, 3) := by decide +kernel
theorem dX11_isTapeAsTold_25 : decode cX11_isTapeAsTold 25 = .ok (.iconst 0, 1) := by decide +kernel
theorem dX11_isTapeAsTold_26 : decode cX11_isTapeAsTold 26 = .ok (.ireturn, 1) := by decide +kernel
theorem dX11_isTapeAsTold_27 : decode cX11_isTapeAsTold 27 = .ok (.aload_n 0, 1) := by decide +kernel
theorem dX11_isTapeAsTold_28 : decode cX11_isTapeAsTold 28 = .ok (.getfield 19, 3) := by decide +kernel
theorem dX11_isTapeAsTold_31 : decode cX11_isTapeAsTold 31 = .ok (.aload_n 0, 1) := by decide +kernel
theorem dX11_isTapeAsTold_32 : decode cX11_isTapeAsTold 32 = .ok (.getfield 10, 3) := by decide +kernel
theorem dX11_isTapeAsTold_35 : decode cX11_isTapeAsTold 35 = .ok (.iconst 0, 1) := by decide +kernel
theorem dX11_isTapeAsTold_36 : decode cX11_isTapeAsTold 36 = .ok (.invokevirtual 307, 3) := by decide +kernel
theorem dX11_isTapeAsTold_39 : decode cX11_isTapeAsTold 39 = .ok (.invokevirtual 170, 3) := by decide +kernel
theorem dX11_isTapeAsTold_42 : decode cX11_isTapeAsTold 42 = .ok (.ifCond .ne 5, 3) := by decide +kernel
theorem dX11_isTapeAsTold_45 : decode cX11_isTapeAsTold 45 = .ok (.iconst 0, 1) := by decide +kernel
theorem dX11_isTapeAsTold_46 : decode cX11_isTapeAsTold 46 = .ok (.ireturn, 1) := by decide +kernel
theorem dX11_isTapeAsTold_47 : decode cX11_isTapeAsTold 47 = .ok (.iconst 1, 1) := by decide +kernel
theorem dX11_isTapeAsTold_48 : decode cX11_isTapeAsTold 48 = .ok (.istore_n 2, 1) := by decide +kernel
theorem dX11_isTapeAsTold_49 : decode cX11_isTapeAsTold 49 = .ok (.iload_n 2, 1) := by decide +kernel
theorem dX11_isTapeAsTold_50 : decode cX11_isTapeAsTold 50 = .ok (.iconst 1, 1) := by decide +kernel
theorem dX11_isTapeAsTold_51 : decode cX11_isTapeAsTold 51 = .ok (.iadd, 1) := by decide +kernel
theorem dX11_isTapeAsTold_52 : decode cX11_isTapeAsTold 52 = .ok (.iload_n 1, 1) := by decide +kernel
theorem dX11_isTapeAsTold_53 : decode cX11_isTapeAsTold 53 = .ok (.if_icmp .ge 43, 3) := by decide +kernel
theorem dX11_isTapeAsTold_56 : decode cX11_isTapeAsTold 56 = .ok (.aload_n 0, 1) := by decide +kernel
theorem dX11_isTapeAsTold_57 : decode cX11_isTapeAsTold 57 = .ok (.getfield 19, 3) := by decide +kernel
theorem dX11_isTapeAsTold_60 : decode cX11_isTapeAsTold 60 = .ok (.aload_n 0, 1) := by decide +kernel
theorem dX11_isTapeAsTold_61 : decode cX11_isTapeAsTold 61 = .ok (.getfield 10, 3) := by decide +kernel
theorem dX11_isTapeAsTold_64 : decode cX11_isTapeAsTold 64 = .ok (.iload_n 2, 1) := by decide +kernel
theorem dX11_isTapeAsTold_65 : decode cX11_isTapeAsTold 65 = .ok (.invokevirtual 307, 3) := by decide +kernel
theorem dX11_isTapeAsTold_68 : decode cX11_isTapeAsTold 68 = .ok (.invokevirtual 200, 3) := by decide +kernel
theorem dX11_isTapeAsTold_71 : decode cX11_isTapeAsTold 71 = .ok (.ifCond .eq 17, 3) := by decide +kernel
theorem dX11_isTapeAsTold_74 : decode cX11_isTapeAsTold 74 = .ok (.aload_n 0, 1) := by decide +kernel
theorem dX11_isTapeAsTold_75 : decode cX11_isTapeAsTold 75 = .ok (.getfield 10, 3) := by decide +kernel
theorem dX11_isTapeAsTold_78 : decode cX11_isTapeAsTold 78 = .ok (.iload_n 2, 1) := by decide +kernel
theorem dX11_isTapeAsTold_79 : decode cX11_isTapeAsTold 79 = .ok (.iconst 1, 1) := by decide +kernel
theorem dX11_isTapeAsTold_80 : decode cX11_isTapeAsTold 80 = .ok (.iadd, 1) := by decide +kernel
theorem dX11_isTapeAsTold_81 : decode cX11_isTapeAsTold 81 = .ok (.invokevirtual 307, 3) := by decide +kernel
theorem dX11_isTapeAsTold_84 : decode cX11_isTapeAsTold 84 = .ok (.iconst 1, 1) := by decide +kernel
theorem dX11_isTapeAsTold_85 : decode cX11_isTapeAsTold 85 = .ok (.if_icmp .le 5, 3) := by decide +kernel
theorem dX11_isTapeAsTold_88 : decode cX11_isTapeAsTold 88 = .ok (.iconst 0, 1) := by decide +kernel
theorem dX11_isTapeAsTold_89 : decode cX11_isTapeAsTold 89 = .ok (.ireturn, 1) := by decide +kernel
theorem dX11_isTapeAsTold_90 : decode cX11_isTapeAsTold 90 = .ok (.iinc 2 2, 3) := by decide +kernel
theorem dX11_isTapeAsTold_93 : decode cX11_isTapeAsTold 93 = .ok (.goto (-44), 3) := by decide +kernel
theorem dX11_isTapeAsTold_96 : decode cX11_isTapeAsTold 96 = .ok (.iconst 1, 1) := by decide +kernel
theorem dX11_isTapeAsTold_97 : decode cX11_isTapeAsTold 97 = .ok (.ireturn, 1) := by decide +kernel
theorem dX11_isTapeSoAt_0 : decode cX11_isTapeSoAt 0 = .ok (.aload_n 0, 1) := by decide +kernel
theorem dX11_isTapeSoAt_1 : decode cX11_isTapeSoAt 1 = .ok (.getfield 42, 3) := by decide +kernel
theorem dX11_isTapeSoAt_4 : decode cX11_isTapeSoAt 4 = .ok (.aload_n 0, 1) := by decide +kernel
theorem dX11_isTapeSoAt_5 : decode cX11_isTapeSoAt 5 = .ok (.getfield 10, 3) := by decide +kernel
theorem dX11_isTapeSoAt_8 : decode cX11_isTapeSoAt 8 = .ok (.iconst 0, 1) := by decide +kernel
theorem dX11_isTapeSoAt_9 : decode cX11_isTapeSoAt 9 = .ok (.invokevirtual 307, 3) := by decide +kernel
theorem dX11_isTapeSoAt_12 : decode cX11_isTapeSoAt 12 = .ok (.iload_n 1, 1) := by decide +kernel
theorem dX11_isTapeSoAt_13 : decode cX11_isTapeSoAt 13 = .ok (.invokevirtual 196, 3) := by decide +kernel
theorem dX11_isTapeSoAt_16 : decode cX11_isTapeSoAt 16 = .ok (.istore_n 2, 1) := by decide +kernel
theorem dX11_isTapeSoAt_17 : decode cX11_isTapeSoAt 17 = .ok (.iconst 1, 1) := by decide +kernel
theorem dX11_isTapeSoAt_18 : decode cX11_isTapeSoAt 18 = .ok (.istore_n 3, 1) := by decide +kernel
theorem dX11_isTapeSoAt_19 : decode cX11_isTapeSoAt 19 = .ok (.iload_n 3, 1) := by decide +kernel
theorem dX11_isTapeSoAt_20 : decode cX11_isTapeSoAt 20 = .ok (.iconst 1, 1) := by decide +kernel
theorem dX11_isTapeSoAt_21 : decode cX11_isTapeSoAt 21 = .ok (.iadd, 1) := by decide +kernel
theorem dX11_isTapeSoAt_22 : decode cX11_isTapeSoAt 22 = .ok (.aload_n 0, 1) := by decide +kernel
theorem dX11_isTapeSoAt_23 : decode cX11_isTapeSoAt 23 = .ok (.getfield 10, 3) := by decide +kernel
theorem dX11_isTapeSoAt_26 : decode cX11_isTapeSoAt 26 = .ok (.getfield 130, 3) := by decide +kernel
theorem dX11_isTapeSoAt_29 : decode cX11_isTapeSoAt 29 = .ok (.if_icmp .ge 36, 3) := by decide +kernel
theorem dX11_isTapeSoAt_32 : decode cX11_isTapeSoAt 32 = .ok (.iload_n 2, 1) := by decide +kernel
theorem dX11_isTapeSoAt_33 : decode cX11_isTapeSoAt 33 = .ok (.aload_n 0, 1) := by decide +kernel
theorem dX11_isTapeSoAt_34 : decode cX11_isTapeSoAt 34 = .ok (.getfield 10, 3) := by decide +kernel
theorem dX11_isTapeSoAt_37 : decode cX11_isTapeSoAt 37 = .ok (.iload_n 3, 1) := by decide +kernel
theorem dX11_isTapeSoAt_38 : decode cX11_isTapeSoAt 38 = .ok (.invokevirtual 307, 3) := by decide +kernel
theorem dX11_isTapeSoAt_41 : decode cX11_isTapeSoAt 41 = .ok (.ishr, 1) := by decide +kernel
theorem dX11_isTapeSoAt_42 : decode cX11_isTapeSoAt 42 = .ok (.iconst 1, 1) := by decide +kernel
theorem dX11_isTapeSoAt_43 : decode cX11_isTapeSoAt 43 = .ok (.iand, 1) := by decide +kernel
theorem dX11_isTapeSoAt_44 : decode cX11_isTapeSoAt 44 = .ok (.aload_n 0, 1) := by decide +kernel
theorem dX11_isTapeSoAt_45 : decode cX11_isTapeSoAt 45 = .ok (.getfield 10, 3) := by decide +kernel
theorem dX11_isTapeSoAt_48 : decode cX11_isTapeSoAt 48 = .ok (.iload_n 3, 1) := by decide +kernel
theorem dX11_isTapeSoAt_49 : decode cX11_isTapeSoAt 49 = .ok (.iconst 1, 1) := by decide +kernel
theorem dX11_isTapeSoAt_50 : decode cX11_isTapeSoAt 50 = .ok (.iadd, 1) := by decide +kernel
theorem dX11_isTapeSoAt_51 : decode cX11_isTapeSoAt 51 = .ok (.invokevirtual 307, 3) := by decide +kernel
theorem dX11_isTapeSoAt_54 : decode cX11_isTapeSoAt 54 = .ok (.if_icmp .eq 5, 3) := by decide +kernel
theorem dX11_isTapeSoAt_57 : decode cX11_isTapeSoAt 57 = .ok (.iconst 0, 1) := by decide +kernel
theorem dX11_isTapeSoAt_58 : decode cX11_isTapeSoAt 58 = .ok (.ireturn, 1) := by decide +kernel
theorem dX11_isTapeSoAt_59 : decode cX11_isTapeSoAt 59 = .ok (.iinc 3 2, 3) := by decide +kernel
theorem dX11_isTapeSoAt_62 : decode cX11_isTapeSoAt 62 = .ok (.goto (-43), 3) := by decide +kernel
theorem dX11_isTapeSoAt_65 : decode cX11_isTapeSoAt 65 = .ok (.iconst 1, 1) := by decide +kernel
theorem dX11_isTapeSoAt_66 : decode cX11_isTapeSoAt 66 = .ok (.ireturn, 1) := by decide +kernel
theorem dX11_island_0 : decode cX11_island 0 = .ok (.aload_n 0, 1) := by decide +kernel
theorem dX11_island_1 : decode cX11_island 1 = .ok (.getfield 54, 3) := by decide +kernel
theorem dX11_island_4 : decode cX11_island 4 = .ok (.invokevirtual 133, 3) := by decide +kernel
theorem dX11_island_7 : decode cX11_island 7 = .ok (.istore_n 1, 1) := by decide +kernel
theorem dX11_island_8 : decode cX11_island 8 = .ok (.aload_n 0, 1) := by decide +kernel
theorem dX11_island_9 : decode cX11_island 9 = .ok (.invokevirtual 137, 3) := by decide +kernel
theorem dX11_island_12 : decode cX11_island 12 = .ok (.ifCond .eq 13, 3) := by decide +kernel
theorem dX11_island_15 : decode cX11_island 15 = .ok (.iconst (-1), 1) := by decide +kernel
theorem dX11_island_16 : decode cX11_island 16 = .ok (.aload_n 0, 1) := by decide +kernel
theorem dX11_island_17 : decode cX11_island 17 = .ok (.getfield 10, 3) := by decide +kernel
theorem dX11_island_20 : decode cX11_island 20 = .ok (.getfield 141, 3) := by decide +kernel
theorem dX11_island_23 : decode cX11_island 23 = .ok (.isub, 1) := by decide +kernel
theorem dX11_island_24 : decode cX11_island 24 = .ok (.ireturn, 1) := by decide +kernel
theorem dX11_island_25 : decode cX11_island 25 = .ok (.aload_n 0, 1) := by decide +kernel
theorem dX11_island_26 : decode cX11_island 26 = .ok (.getfield 42, 3) := by decide +kernel
theorem dX11_island_29 : decode cX11_island 29 = .ok (.aload_n 0, 1) := by decide +kernel
theorem dX11_island_30 : decode cX11_island 30 = .ok (.getfield 54, 3) := by decide +kernel
theorem dX11_island_33 : decode cX11_island 33 = .ok (.getfield 144, 3) := by decide +kernel
theorem dX11_island_36 : decode cX11_island 36 = .ok (.invokevirtual 147, 3) := by decide +kernel
theorem dX11_island_39 : decode cX11_island 39 = .ok (.aload_n 0, 1) := by decide +kernel
theorem dX11_island_40 : decode cX11_island 40 = .ok (.getfield 71, 3) := by decide +kernel
theorem dX11_island_43 : decode cX11_island 43 = .ok (.invokevirtual 150, 3) := by decide +kernel
theorem dX11_island_46 : decode cX11_island 46 = .ok (.iload_n 1, 1) := by decide +kernel
theorem dX11_island_47 : decode cX11_island 47 = .ok (.ireturn, 1) := by decide +kernel
theorem dX11_lay_0 : decode cX11_lay 0 = .ok (.aload_n 0, 1) := by decide +kernel
theorem dX11_lay_1 : decode cX11_lay 1 = .ok (.getfield 19, 3) := by decide +kernel
theorem dX11_lay_4 : decode cX11_lay 4 = .ok (.iload_n 1, 1) := by decide +kernel
theorem dX11_lay_5 : decode cX11_lay 5 = .ok (.iload_n 2, 1) := by decide +kernel
theorem dX11_lay_6 : decode cX11_lay 6 = .ok (.invokevirtual 153, 3) := by decide +kernel
theorem dX11_lay_9 : decode cX11_lay 9 = .ok (.ifCond .ne 5, 3) := by decide +kernel
theorem dX11_lay_12 : decode cX11_lay 12 = .ok (.iconst (-1), 1) := by decide +kernel
theorem dX11_lay_13 : decode cX11_lay 13 = .ok (.ireturn, 1) := by decide +kernel
theorem dX11_lay_14 : decode cX11_lay 14 = .ok (.bipush 8, 2) := by decide +kernel
theorem dX11_lay_16 : decode cX11_lay 16 = .ok (.iload_n 2, 1) := by decide +kernel
theorem dX11_lay_17 : decode cX11_lay 17 = .ok (.imul, 1) := by decide +kernel
theorem dX11_lay_18 : decode cX11_lay 18 = .ok (.iload_n 1, 1) := by decide +kernel
theorem dX11_lay_19 : decode cX11_lay 19 = .ok (.iadd, 1) := by decide +kernel
theorem dX11_lay_20 : decode cX11_lay 20 = .ok (.istore_n 3, 1) := by decide +kernel
theorem dX11_lay_21 : decode cX11_lay 21 = .ok (.aload_n 0, 1) := by decide +kernel
theorem dX11_lay_22 : decode cX11_lay 22 = .ok (.getfield 42, 3) := by decide +kernel
theorem dX11_lay_25 : decode cX11_lay 25 = .ok (.iload_n 3, 1) := by decide +kernel
theorem dX11_lay_26 : decode cX11_lay 26 = .ok (.invokevirtual 246, 3) := by decide +kernel
theorem dX11_lay_29 : decode cX11_lay 29 = .ok (.istore 4, 2) := by decide +kernel
theorem dX11_lay_31 : decode cX11_lay 31 = .ok (.iload 4, 2) := by decide +kernel
theorem dX11_lay_33 : decode cX11_lay 33 = .ok (.ifCond .ne 22, 3) := by decide +kernel
theorem dX11_lay_36 : decode cX11_lay 36 = .ok (.aload_n 0, 1) := by decide +kernel
theorem dX11_lay_37 : decode cX11_lay 37 = .ok (.getfield 71, 3) := by decide +kernel
theorem dX11_lay_40 : decode cX11_lay 40 = .ok (.aload_n 0, 1) := by decide +kernel
theorem dX11_lay_41 : decode cX11_lay 41 = .ok (.getfield 26, 3) := by decide +kernel
theorem dX11_lay_44 : decode cX11_lay 44 = .ok (.invokevirtual 238, 3) := by decide +kernel
theorem dX11_lay_47 : decode cX11_lay 47 = .ok (.aload_n 0, 1) := by decide +kernel
theorem dX11_lay_48 : decode cX11_lay 48 = .ok (.getfield 42, 3) := by decide +kernel
theorem dX11_lay_51 : decode cX11_lay 51 = .ok (.iload_n 3, 1) := by decide +kernel
theorem dX11_lay_52 : decode cX11_lay 52 = .ok (.invokevirtual 249, 3) := by decide +kernel
theorem dX11_lay_55 : decode cX11_lay 55 = .ok (.iload 4, 2) := by decide +kernel
theorem dX11_lay_57 : decode cX11_lay 57 = .ok (.ireturn, 1) := by decide +kernel
theorem dX11_longest_0 : decode cX11_longest 0 = .ok (.iconst 0, 1) := by decide +kernel
theorem dX11_longest_1 : decode cX11_longest 1 = .ok (.istore_n 1, 1) := by decide +kernel
theorem dX11_longest_2 : decode cX11_longest 2 = .ok (.iconst 0, 1) := by decide +kernel
theorem dX11_longest_3 : decode cX11_longest 3 = .ok (.istore_n 2, 1) := by decide +kernel
theorem dX11_longest_4 : decode cX11_longest 4 = .ok (.iload_n 2, 1) := by decide +kernel
theorem dX11_longest_5 : decode cX11_longest 5 = .ok (.aload_n 0, 1) := by decide +kernel
theorem dX11_longest_6 : decode cX11_longest 6 = .ok (.getfield 19, 3) := by decide +kernel
theorem dX11_longest_9 : decode cX11_longest 9 = .ok (.getfield 313, 3) := by decide +kernel
theorem dX11_longest_12 : decode cX11_longest 12 = .ok (.if_icmp .ge 58, 3) := by decide +kernel
theorem dX11_longest_15 : decode cX11_longest 15 = .ok (.iconst 0, 1) := by decide +kernel
theorem dX11_longest_16 : decode cX11_longest 16 = .ok (.istore_n 3, 1) := by decide +kernel
theorem dX11_longest_17 : decode cX11_longest 17 = .ok (.iload_n 3, 1) := by decide +kernel
theorem dX11_longest_18 : decode cX11_longest 18 = .ok (.aload_n 0, 1) := by decide +kernel
theorem dX11_longest_19 : decode cX11_longest 19 = .ok (.getfield 19, 3) := by decide +kernel
theorem dX11_longest_22 : decode cX11_longest 22 = .ok (.getfield 286, 3) := by decide +kernel
theorem dX11_longest_25 : decode cX11_longest 25 = .ok (.if_icmp .ge 39, 3) := by decide +kernel
theorem dX11_longest_28 : decode cX11_longest 28 = .ok (.aload_n 0, 1) := by decide +kernel
theorem dX11_longest_29 : decode cX11_longest 29 = .ok (.getfield 42, 3) := by decide +kernel
theorem dX11_longest_32 : decode cX11_longest 32 = .ok (.iload_n 2, 1) := by decide +kernel
theorem dX11_longest_33 : decode cX11_longest 33 = .ok (.iload_n 3, 1) := by decide +kernel
theorem dX11_longest_34 : decode cX11_longest 34 = .ok (.invokevirtual 277, 3) := by decide +kernel
theorem dX11_longest_37 : decode cX11_longest 37 = .ok (.istore 4, 2) := by decide +kernel
theorem dX11_longest_39 : decode cX11_longest 39 = .ok (.iload 4, 2) := by decide +kernel
theorem dX11_longest_41 : decode cX11_longest 41 = .ok (.iload_n 1, 1) := by decide +kernel
theorem dX11_longest_42 : decode cX11_longest 42 = .ok (.if_icmp .le 16, 3) := by decide +kernel
theorem dX11_longest_45 : decode cX11_longest 45 = .ok (.iload 4, 2) := by decide +kernel
theorem dX11_longest_47 : decode cX11_longest 47 = .ok (.istore_n 1, 1) := by decide +kernel
theorem dX11_longest_48 : decode cX11_longest 48 = .ok (.aload_n 0, 1) := by decide +kernel
theorem dX11_longest_49 : decode cX11_longest 49 = .ok (.iload_n 2, 1) := by decide +kernel
theorem dX11_longest_50 : decode cX11_longest 50 = .ok (.putfield 116, 3) := by decide +kernel
theorem dX11_longest_53 : decode cX11_longest 53 = .ok (.aload_n 0, 1) := by decide +kernel
theorem dX11_longest_54 : decode cX11_longest 54 = .ok (.iload_n 3, 1) := by decide +kernel
theorem dX11_longest_55 : decode cX11_longest 55 = .ok (.putfield 119, 3) := by decide +kernel
theorem dX11_longest_58 : decode cX11_longest 58 = .ok (.iinc 3 1, 3) := by decide +kernel
theorem dX11_longest_61 : decode cX11_longest 61 = .ok (.goto (-44), 3) := by decide +kernel
theorem dX11_longest_64 : decode cX11_longest 64 = .ok (.iinc 2 1, 3) := by decide +kernel
theorem dX11_longest_67 : decode cX11_longest 67 = .ok (.goto (-63), 3) := by decide +kernel
theorem dX11_longest_70 : decode cX11_longest 70 = .ok (.iload_n 1, 1) := by decide +kernel
theorem dX11_longest_71 : decode cX11_longest 71 = .ok (.ireturn, 1) := by decide +kernel
theorem dX11_longestAt_0 : decode cX11_longestAt 0 = .ok (.iload_n 1, 1) := by decide +kernel
theorem dX11_longestAt_1 : decode cX11_longestAt 1 = .ok (.ifCond .ne 8, 3) := by decide +kernel
theorem dX11_longestAt_4 : decode cX11_longestAt 4 = .ok (.aload_n 0, 1) := by decide +kernel
theorem dX11_longestAt_5 : decode cX11_longestAt 5 = .ok (.getfield 116, 3) := by decide +kernel
theorem dX11_longestAt_8 : decode cX11_longestAt 8 = .ok (.ireturn, 1) := by decide +kernel
theorem dX11_longestAt_9 : decode cX11_longestAt 9 = .ok (.iload_n 1, 1) := by decide +kernel
theorem dX11_longestAt_10 : decode cX11_longestAt 10 = .ok (.iconst 1, 1) := by decide +kernel
theorem dX11_longestAt_11 : decode cX11_longestAt 11 = .ok (.if_icmp .ne 10, 3) := by decide +kernel
theorem dX11_longestAt_14 : decode cX11_longestAt 14 = .ok (.aload_n 0, 1) := by decide +kernel
theorem dX11_longestAt_15 : decode cX11_longestAt 15 = .ok (.getfield 119, 3) := by decide +kernel
theorem dX11_longestAt_18 : decode cX11_longestAt 18 = .ok (.goto 4, 3) := by decide +kernel
theorem dX11_longestAt_21 : decode cX11_longestAt 21 = .ok (.iconst (-1), 1) := by decide +kernel
theorem dX11_longestAt_22 : decode cX11_longestAt 22 = .ok (.ireturn, 1) := by decide +kernel
theorem dX11_near_0 : decode cX11_near 0 = .ok (.aload_n 0, 1) := by decide +kernel
theorem dX11_near_1 : decode cX11_near 1 = .ok (.getfield 19, 3) := by decide +kernel
theorem dX11_near_4 : decode cX11_near 4 = .ok (.iload_n 1, 1) := by decide +kernel
theorem dX11_near_5 : decode cX11_near 5 = .ok (.invokevirtual 200, 3) := by decide +kernel
theorem dX11_near_8 : decode cX11_near 8 = .ok (.ifCond .eq 15, 3) := by decide +kernel
theorem dX11_near_11 : decode cX11_near 11 = .ok (.aload_n 0, 1) := by decide +kernel
theorem dX11_near_12 : decode cX11_near 12 = .ok (.getfield 19, 3) := by decide +kernel
theorem dX11_near_15 : decode cX11_near 15 = .ok (.iload_n 2, 1) := by decide +kernel
theorem dX11_near_16 : decode cX11_near 16 = .ok (.iload_n 3, 1) := by decide +kernel
theorem dX11_near_17 : decode cX11_near 17 = .ok (.invokevirtual 274, 3) := by decide +kernel
theorem dX11_near_20 : decode cX11_near 20 = .ok (.ifCond .ne 5, 3) := by decide +kernel
theorem dX11_near_23 : decode cX11_near 23 = .ok (.iconst (-1), 1) := by decide +kernel
theorem dX11_near_24 : decode cX11_near 24 = .ok (.ireturn, 1) := by decide +kernel
theorem dX11_near_25 : decode cX11_near 25 = .ok (.aload_n 0, 1) := by decide +kernel
theorem dX11_near_26 : decode cX11_near 26 = .ok (.getfield 88, 3) := by decide +kernel
theorem dX11_near_29 : decode cX11_near 29 = .ok (.iload_n 1, 1) := by decide +kernel
theorem dX11_near_30 : decode cX11_near 30 = .ok (.iload_n 2, 1) := by decide +kernel
theorem dX11_near_31 : decode cX11_near 31 = .ok (.iload_n 3, 1) := by decide +kernel
theorem dX11_near_32 : decode cX11_near 32 = .ok (.invokevirtual 301, 3) := by decide +kernel
theorem dX11_near_35 : decode cX11_near 35 = .ok (.ireturn, 1) := by decide +kernel
theorem dX11_now_0 : decode cX11_now 0 = .ok (.iload_n 1, 1) := by decide +kernel
theorem dX11_now_1 : decode cX11_now 1 = .ok (.tableswitch 111 0 7 #[47, 55, 63, 71, 79, 87, 95, 103], 47) := by decide +kernel
theorem dX11_now_48 : decode cX11_now 48 = .ok (.aload_n 0, 1) := by decide +kernel
theorem dX11_now_49 : decode cX11_now 49 = .ok (.getfield 26, 3) := by decide +kernel
theorem dX11_now_52 : decode cX11_now 52 = .ok (.getfield 214, 3) := by decide +kernel
theorem dX11_now_55 : decode cX11_now 55 = .ok (.ireturn, 1) := by decide +kernel
theorem dX11_now_56 : decode cX11_now 56 = .ok (.aload_n 0, 1) := by decide +kernel
theorem dX11_now_57 : decode cX11_now 57 = .ok (.getfield 42, 3) := by decide +kernel
theorem dX11_now_60 : decode cX11_now 60 = .ok (.invokevirtual 193, 3) := by decide +kernel
theorem dX11_now_63 : decode cX11_now 63 = .ok (.ireturn, 1) := by decide +kernel
theorem dX11_now_64 : decode cX11_now 64 = .ok (.aload_n 0, 1) := by decide +kernel
theorem dX11_now_65 : decode cX11_now 65 = .ok (.getfield 26, 3) := by decide +kernel
theorem dX11_now_68 : decode cX11_now 68 = .ok (.getfield 217, 3) := by decide +kernel
theorem dX11_now_71 : decode cX11_now 71 = .ok (.ireturn, 1) := by decide +kernel
theorem dX11_now_72 : decode cX11_now 72 = .ok (.aload_n 0, 1) := by decide +kernel
theorem dX11_now_73 : decode cX11_now 73 = .ok (.getfield 26, 3) := by decide +kernel
theorem dX11_now_76 : decode cX11_now 76 = .ok (.invokevirtual 220, 3) := by decide +kernel
theorem dX11_now_79 : decode cX11_now 79 = .ok (.ireturn, 1) := by decide +kernel
theorem dX11_now_80 : decode cX11_now 80 = .ok (.aload_n 0, 1) := by decide +kernel
theorem dX11_now_81 : decode cX11_now 81 = .ok (.getfield 26, 3) := by decide +kernel
theorem dX11_now_84 : decode cX11_now 84 = .ok (.invokevirtual 223, 3) := by decide +kernel
theorem dX11_now_87 : decode cX11_now 87 = .ok (.ireturn, 1) := by decide +kernel
theorem dX11_now_88 : decode cX11_now 88 = .ok (.aload_n 0, 1) := by decide +kernel
theorem dX11_now_89 : decode cX11_now 89 = .ok (.getfield 26, 3) := by decide +kernel
theorem dX11_now_92 : decode cX11_now 92 = .ok (.getfield 226, 3) := by decide +kernel
theorem dX11_now_95 : decode cX11_now 95 = .ok (.ireturn, 1) := by decide +kernel
theorem dX11_now_96 : decode cX11_now 96 = .ok (.aload_n 0, 1) := by decide +kernel
theorem dX11_now_97 : decode cX11_now 97 = .ok (.getfield 26, 3) := by decide +kernel
theorem dX11_now_100 : decode cX11_now 100 = .ok (.getfield 229, 3) := by decide +kernel
theorem dX11_now_103 : decode cX11_now 103 = .ok (.ireturn, 1) := by decide +kernel
theorem dX11_now_104 : decode cX11_now 104 = .ok (.aload_n 0, 1) := by decide +kernel
theorem dX11_now_105 : decode cX11_now 105 = .ok (.getfield 26, 3) := by decide +kernel
theorem dX11_now_108 : decode cX11_now 108 = .ok (.getfield 232, 3) := by decide +kernel
theorem dX11_now_111 : decode cX11_now 111 = .ok (.ireturn, 1) := by decide +kernel
theorem dX11_now_112 : decode cX11_now 112 = .ok (.iconst (-1), 1) := by decide +kernel
theorem dX11_now_113 : decode cX11_now 113 = .ok (.ireturn, 1) := by decide +kernel
theorem dX11_odds_0 : decode cX11_odds 0 = .ok (.aload_n 0, 1) := by decide +kernel
theorem dX11_odds_1 : decode cX11_odds 1 = .ok (.getfield 19, 3) := by decide +kernel
theorem dX11_odds_4 : decode cX11_odds 4 = .ok (.iload_n 1, 1) := by decide +kernel
theorem dX11_odds_5 : decode cX11_odds 5 = .ok (.invokevirtual 200, 3) := by decide +kernel
theorem dX11_odds_8 : decode cX11_odds 8 = .ok (.ifCond .eq 14, 3) := by decide +kernel
theorem dX11_odds_11 : decode cX11_odds 11 = .ok (.iload_n 2, 1) := by decide +kernel
theorem dX11_odds_12 : decode cX11_odds 12 = .ok (.iconst 1, 1) := by decide +kernel
theorem dX11_odds_13 : decode cX11_odds 13 = .ok (.if_icmp .lt 9, 3) := by decide +kernel
theorem dX11_odds_16 : decode cX11_odds 16 = .ok (.iload_n 2, 1) := by decide +kernel
theorem dX11_odds_17 : decode cX11_odds 17 = .ok (.bipush 30, 2) := by decide +kernel
theorem dX11_odds_19 : decode cX11_odds 19 = .ok (.if_icmp .le 5, 3) := by decide +kernel
theorem dX11_odds_22 : decode cX11_odds 22 = .ok (.iconst (-1), 1) := by decide +kernel
theorem dX11_odds_23 : decode cX11_odds 23 = .ok (.ireturn, 1) := by decide +kernel
theorem dX11_odds_24 : decode cX11_odds 24 = .ok (.iconst 0, 1) := by decide +kernel
theorem dX11_odds_25 : decode cX11_odds 25 = .ok (.istore 4, 2) := by decide +kernel
theorem dX11_odds_27 : decode cX11_odds 27 = .ok (.iconst 0, 1) := by decide +kernel
theorem dX11_odds_28 : decode cX11_odds 28 = .ok (.istore 5, 2) := by decide +kernel
theorem dX11_odds_30 : decode cX11_odds 30 = .ok (.iload 5, 2) := by decide +kernel
theorem dX11_odds_32 : decode cX11_odds 32 = .ok (.iload_n 2, 1) := by decide +kernel
theorem dX11_odds_33 : decode cX11_odds 33 = .ok (.if_icmp .ge 68, 3) := by decide +kernel
theorem dX11_odds_36 : decode cX11_odds 36 = .ok (.aload_n 0, 1) := by decide +kernel
theorem dX11_odds_37 : decode cX11_odds 37 = .ok (.getfield 46, 3) := by decide +kernel
theorem dX11_odds_40 : decode cX11_odds 40 = .ok (.getfield 322, 3) := by decide +kernel
theorem dX11_odds_43 : decode cX11_odds 43 = .ok (.aload_n 0, 1) := by decide +kernel
theorem dX11_odds_44 : decode cX11_odds 44 = .ok (.getfield 26, 3) := by decide +kernel
theorem dX11_odds_47 : decode cX11_odds 47 = .ok (.invokevirtual 323, 3) := by decide +kernel
theorem dX11_odds_50 : decode cX11_odds 50 = .ok (.aload_n 0, 1) := by decide +kernel
theorem dX11_odds_51 : decode cX11_odds 51 = .ok (.getfield 95, 3) := by decide +kernel
theorem dX11_odds_54 : decode cX11_odds 54 = .ok (.aload_n 0, 1) := by decide +kernel
theorem dX11_odds_55 : decode cX11_odds 55 = .ok (.getfield 46, 3) := by decide +kernel
theorem dX11_odds_58 : decode cX11_odds 58 = .ok (.bipush 20, 2) := by decide +kernel
theorem dX11_odds_60 : decode cX11_odds 60 = .ok (.iload_n 3, 1) := by decide +kernel
theorem dX11_odds_61 : decode cX11_odds 61 = .ok (.iload 5, 2) := by decide +kernel
theorem dX11_odds_63 : decode cX11_odds 63 = .ok (.iadd, 1) := by decide +kernel
theorem dX11_odds_64 : decode cX11_odds 64 = .ok (.invokevirtual 325, 3) := by decide +kernel
theorem dX11_odds_67 : decode cX11_odds 67 = .ok (.pop, 1) := by decide +kernel
theorem dX11_odds_68 : decode cX11_odds 68 = .ok (.aload_n 0, 1) := by decide +kernel
theorem dX11_odds_69 : decode cX11_odds 69 = .ok (.getfield 46, 3) := by decide +kernel
theorem dX11_odds_72 : decode cX11_odds 72 = .ok (.getfield 322, 3) := by decide +kernel
theorem dX11_odds_75 : decode cX11_odds 75 = .ok (.getfield 208, 3) := by decide +kernel
theorem dX11_odds_78 : decode cX11_odds 78 = .ok (.iload_n 1, 1) := by decide +kernel
theorem dX11_odds_79 : decode cX11_odds 79 = .ok (.iaload, 1) := by decide +kernel
theorem dX11_odds_80 : decode cX11_odds 80 = .ok (.aload_n 0, 1) := by decide +kernel
theorem dX11_odds_81 : decode cX11_odds 81 = .ok (.getfield 26, 3) := by decide +kernel
theorem dX11_odds_84 : decode cX11_odds 84 = .ok (.getfield 208, 3) := by decide +kernel
theorem dX11_odds_87 : decode cX11_odds 87 = .ok (.iload_n 1, 1) := by decide +kernel
theorem dX11_odds_88 : decode cX11_odds 88 = .ok (.iaload, 1) := by decide +kernel
theorem dX11_odds_89 : decode cX11_odds 89 = .ok (.if_icmp .le 6, 3) := by decide +kernel
theorem dX11_odds_92 : decode cX11_odds 92 = .ok (.iinc 4 1, 3) := by decide +kernel
theorem dX11_odds_95 : decode cX11_odds 95 = .ok (.iinc 5 1, 3) := by decide +kernel
theorem dX11_odds_98 : decode cX11_odds 98 = .ok (.goto (-68), 3) := by decide +kernel
theorem dX11_odds_101 : decode cX11_odds 101 = .ok (.iload 4, 2) := by decide +kernel
theorem dX11_odds_103 : decode cX11_odds 103 = .ok (.ireturn, 1) := by decide +kernel
theorem dX11_person_0 : decode cX11_person 0 = .ok (.aload_n 0, 1) := by decide +kernel
theorem dX11_person_1 : decode cX11_person 1 = .ok (.getfield 19, 3) := by decide +kernel
theorem dX11_person_4 : decode cX11_person 4 = .ok (.iload_n 1, 1) := by decide +kernel
theorem dX11_person_5 : decode cX11_person 5 = .ok (.invokevirtual 200, 3) := by decide +kernel
theorem dX11_person_8 : decode cX11_person 8 = .ok (.ifCond .eq 12, 3) := by decide +kernel
theorem dX11_person_11 : decode cX11_person 11 = .ok (.iload_n 2, 1) := by decide +kernel
theorem dX11_person_12 : decode cX11_person 12 = .ok (.ifCond .lt 8, 3) := by decide +kernel
theorem dX11_person_15 : decode cX11_person 15 = .ok (.iload_n 2, 1) := by decide +kernel
theorem dX11_person_16 : decode cX11_person 16 = .ok (.iconst 4, 1) := by decide +kernel
theorem dX11_person_17 : decode cX11_person 17 = .ok (.if_icmp .le 13, 3) := by decide +kernel
theorem dX11_person_30 : decode cX11_person 30 = .ok (.iload_n 2, 1) := by decide +kernel
theorem dX11_person_31 : decode cX11_person 31 = .ok (.tableswitch 82 0 3 #[29, 42, 55, 65], 29) := by decide +kernel
theorem dX11_person_60 : decode cX11_person 60 = .ok (.aload_n 0, 1) := by decide +kernel
theorem dX11_person_61 : decode cX11_person 61 = .ok (.getfield 26, 3) := by decide +kernel
theorem dX11_person_64 : decode cX11_person 64 = .ok (.getfield 205, 3) := by decide +kernel
theorem dX11_person_67 : decode cX11_person 67 = .ok (.iload_n 1, 1) := by decide +kernel
theorem dX11_person_68 : decode cX11_person 68 = .ok (.iaload, 1) := by decide +kernel
theorem dX11_person_69 : decode cX11_person 69 = .ok (.bipush 8, 2) := by decide +kernel
theorem dX11_person_71 : decode cX11_person 71 = .ok (.irem, 1) := by decide +kernel
theorem dX11_person_72 : decode cX11_person 72 = .ok (.ireturn, 1) := by decide +kernel
theorem dX11_person_73 : decode cX11_person 73 = .ok (.aload_n 0, 1) := by decide +kernel
theorem dX11_person_74 : decode cX11_person 74 = .ok (.getfield 26, 3) := by decide +kernel
theorem dX11_person_77 : decode cX11_person 77 = .ok (.getfield 205, 3) := by decide +kernel
theorem dX11_person_80 : decode cX11_person 80 = .ok (.iload_n 1, 1) := by decide +kernel
theorem dX11_person_81 : decode cX11_person 81 = .ok (.iaload, 1) := by decide +kernel
theorem dX11_person_82 : decode cX11_person 82 = .ok (.bipush 8, 2) := by decide +kernel
theorem dX11_person_84 : decode cX11_person 84 = .ok (.idiv, 1) := by decide +kernel
theorem dX11_person_85 : decode cX11_person 85 = .ok (.ireturn, 1) := by decide +kernel
theorem dX11_person_86 : decode cX11_person 86 = .ok (.aload_n 0, 1) := by decide +kernel
theorem dX11_person_87 : decode cX11_person 87 = .ok (.getfield 26, 3) := by decide +kernel
theorem dX11_person_90 : decode cX11_person 90 = .ok (.getfield 208, 3) := by decide +kernel
theorem dX11_person_93 : decode cX11_person 93 = .ok (.iload_n 1, 1) := by decide +kernel
theorem dX11_person_94 : decode cX11_person 94 = .ok (.iaload, 1) := by decide +kernel
theorem dX11_person_95 : decode cX11_person 95 = .ok (.ireturn, 1) := by decide +kernel
theorem dX11_person_96 : decode cX11_person 96 = .ok (.aload_n 0, 1) := by decide +kernel
theorem dX11_person_97 : decode cX11_person 97 = .ok (.getfield 42, 3) := by decide +kernel
theorem dX11_person_100 : decode cX11_person 100 = .ok (.aload_n 0, 1) := by decide +kernel
theorem dX11_person_101 : decode cX11_person 101 = .ok (.getfield 26, 3) := by decide +kernel
theorem dX11_person_104 : decode cX11_person 104 = .ok (.getfield 205, 3) := by decide +kernel
theorem dX11_person_107 : decode cX11_person 107 = .ok (.iload_n 1, 1) := by decide +kernel
theorem dX11_person_108 : decode cX11_person 108 = .ok (.iaload, 1) := by decide +kernel
theorem dX11_person_109 : decode cX11_person 109 = .ok (.invokevirtual 167, 3) := by decide +kernel
theorem dX11_person_112 : decode cX11_person 112 = .ok (.ireturn, 1) := by decide +kernel
theorem dX11_person_113 : decode cX11_person 113 = .ok (.aload_n 0, 1) := by decide +kernel
theorem dX11_person_114 : decode cX11_person 114 = .ok (.getfield 42, 3) := by decide +kernel
theorem dX11_person_117 : decode cX11_person 117 = .ok (.iload_n 1, 1) := by decide +kernel
theorem dX11_person_118 : decode cX11_person 118 = .ok (.invokevirtual 211, 3) := by decide +kernel
theorem dX11_person_121 : decode cX11_person 121 = .ok (.ireturn, 1) := by decide +kernel
theorem dX11_placeOfBit_0 : decode cX11_placeOfBit 0 = .ok (.iconst 0, 1) := by decide +kernel
theorem dX11_placeOfBit_1 : decode cX11_placeOfBit 1 = .ok (.istore_n 2, 1) := by decide +kernel
theorem dX11_placeOfBit_2 : decode cX11_placeOfBit 2 = .ok (.iconst 0, 1) := by decide +kernel
theorem dX11_placeOfBit_3 : decode cX11_placeOfBit 3 = .ok (.istore_n 3, 1) := by decide +kernel
theorem dX11_placeOfBit_4 : decode cX11_placeOfBit 4 = .ok (.iload_n 3, 1) := by decide +kernel
theorem dX11_placeOfBit_5 : decode cX11_placeOfBit 5 = .ok (.bipush 6, 2) := by decide +kernel
theorem dX11_placeOfBit_7 : decode cX11_placeOfBit 7 = .ok (.if_icmp .ge 28, 3) := by decide +kernel
theorem dX11_placeOfBit_10 : decode cX11_placeOfBit 10 = .ok (.iload_n 0, 1) := by decide +kernel
theorem dX11_placeOfBit_11 : decode cX11_placeOfBit 11 = .ok (.iload_n 3, 1) := by decide +kernel
theorem dX11_placeOfBit_12 : decode cX11_placeOfBit 12 = .ok (.ishr, 1) := by decide +kernel
theorem dX11_placeOfBit_13 : decode cX11_placeOfBit 13 = .ok (.iconst 1, 1) := by decide +kernel
theorem dX11_placeOfBit_14 : decode cX11_placeOfBit 14 = .ok (.iand, 1) := by decide +kernel
theorem dX11_placeOfBit_15 : decode cX11_placeOfBit 15 = .ok (.iconst 1, 1) := by decide +kernel
theorem dX11_placeOfBit_16 : decode cX11_placeOfBit 16 = .ok (.if_icmp .ne 13, 3) := by decide +kernel
theorem dX11_placeOfBit_19 : decode cX11_placeOfBit 19 = .ok (.iload_n 2, 1) := by decide +kernel
theorem dX11_placeOfBit_20 : decode cX11_placeOfBit 20 = .ok (.iload_n 1, 1) := by decide +kernel
theorem dX11_placeOfBit_21 : decode cX11_placeOfBit 21 = .ok (.if_icmp .ne 5, 3) := by decide +kernel
theorem dX11_placeOfBit_24 : decode cX11_placeOfBit 24 = .ok (.iload_n 3, 1) := by decide +kernel
theorem dX11_placeOfBit_25 : decode cX11_placeOfBit 25 = .ok (.ireturn, 1) := by decide +kernel
theorem dX11_placeOfBit_26 : decode cX11_placeOfBit 26 = .ok (.iinc 2 1, 3) := by decide +kernel
theorem dX11_placeOfBit_29 : decode cX11_placeOfBit 29 = .ok (.iinc 3 1, 3) := by decide +kernel
theorem dX11_placeOfBit_32 : decode cX11_placeOfBit 32 = .ok (.goto (-28), 3) := by decide +kernel
theorem dX11_placeOfBit_35 : decode cX11_placeOfBit 35 = .ok (.iconst (-1), 1) := by decide +kernel
theorem dX11_placeOfBit_36 : decode cX11_placeOfBit 36 = .ok (.ireturn, 1) := by decide +kernel
theorem dX11_restore_0 : decode cX11_restore 0 = .ok (.iload_n 1, 1) := by decide +kernel
theorem dX11_restore_1 : decode cX11_restore 1 = .ok (.ifCond .lt 21, 3) := by decide +kernel
theorem dX11_restore_4 : decode cX11_restore 4 = .ok (.iload_n 1, 1) := by decide +kernel
theorem dX11_restore_5 : decode cX11_restore 5 = .ok (.aload_n 0, 1) := by decide +kernel
theorem dX11_restore_6 : decode cX11_restore 6 = .ok (.getfield 75, 3) := by decide +kernel
theorem dX11_restore_9 : decode cX11_restore 9 = .ok (.arraylength, 1) := by decide +kernel
theorem dX11_restore_10 : decode cX11_restore 10 = .ok (.if_icmp .ge 12, 3) := by decide +kernel
theorem dX11_restore_13 : decode cX11_restore 13 = .ok (.aload_n 0, 1) := by decide +kernel
theorem dX11_restore_14 : decode cX11_restore 14 = .ok (.getfield 79, 3) := by decide +kernel
theorem dX11_restore_17 : decode cX11_restore 17 = .ok (.iload_n 1, 1) := by decide +kernel
theorem dX11_restore_18 : decode cX11_restore 18 = .ok (.baload, 1) := by decide +kernel
theorem dX11_restore_19 : decode cX11_restore 19 = .ok (.ifCond .ne 5, 3) := by decide +kernel
theorem dX11_restore_22 : decode cX11_restore 22 = .ok (.iconst 0, 1) := by decide +kernel
theorem dX11_restore_23 : decode cX11_restore 23 = .ok (.ireturn, 1) := by decide +kernel
theorem dX11_restore_24 : decode cX11_restore 24 = .ok (.aload_n 0, 1) := by decide +kernel
theorem dX11_restore_25 : decode cX11_restore 25 = .ok (.getfield 42, 3) := by decide +kernel
theorem dX11_restore_28 : decode cX11_restore 28 = .ok (.aload_n 0, 1) := by decide +kernel
theorem dX11_restore_29 : decode cX11_restore 29 = .ok (.getfield 75, 3) := by decide +kernel
theorem dX11_restore_32 : decode cX11_restore 32 = .ok (.iload_n 1, 1) := by decide +kernel
theorem dX11_restore_33 : decode cX11_restore 33 = .ok (.aaload, 1) := by decide +kernel
theorem dX11_restore_34 : decode cX11_restore 34 = .ok (.invokevirtual 147, 3) := by decide +kernel
theorem dX11_restore_37 : decode cX11_restore 37 = .ok (.aload_n 0, 1) := by decide +kernel
theorem dX11_restore_38 : decode cX11_restore 38 = .ok (.getfield 71, 3) := by decide +kernel
theorem dX11_restore_41 : decode cX11_restore 41 = .ok (.invokevirtual 150, 3) := by decide +kernel
theorem dX11_restore_44 : decode cX11_restore 44 = .ok (.iconst 1, 1) := by decide +kernel
theorem dX11_restore_45 : decode cX11_restore 45 = .ok (.ireturn, 1) := by decide +kernel
theorem dX11_said_0 : decode cX11_said 0 = .ok (.aload_n 0, 1) := by decide +kernel
theorem dX11_said_1 : decode cX11_said 1 = .ok (.getfield 33, 3) := by decide +kernel
theorem dX11_said_4 : decode cX11_said 4 = .ok (.getfield 358, 3) := by decide +kernel
theorem dX11_said_7 : decode cX11_said 7 = .ok (.ifCond .ne 5, 3) := by decide +kernel
theorem dX11_said_10 : decode cX11_said 10 = .ok (.iconst (-1), 1) := by decide +kernel
theorem dX11_said_11 : decode cX11_said 11 = .ok (.ireturn, 1) := by decide +kernel
theorem dX11_said_12 : decode cX11_said 12 = .ok (.aload_n 0, 1) := by decide +kernel
theorem dX11_said_13 : decode cX11_said 13 = .ok (.getfield 33, 3) := by decide +kernel
theorem dX11_said_16 : decode cX11_said 16 = .ok (.aload_n 0, 1) := by decide +kernel
theorem dX11_said_17 : decode cX11_said 17 = .ok (.getfield 42, 3) := by decide +kernel
theorem dX11_said_20 : decode cX11_said 20 = .ok (.invokevirtual 361, 3) := by decide +kernel
theorem dX11_said_23 : decode cX11_said 23 = .ok (.istore_n 2, 1) := by decide +kernel
theorem dX11_said_24 : decode cX11_said 24 = .ok (.iload_n 1, 1) := by decide +kernel
theorem dX11_said_25 : decode cX11_said 25 = .ok (.iconst (-1), 1) := by decide +kernel
theorem dX11_said_26 : decode cX11_said 26 = .ok (.if_icmp .ne 10, 3) := by decide +kernel
theorem dX11_said_29 : decode cX11_said 29 = .ok (.iload_n 2, 1) := by decide +kernel
theorem dX11_said_30 : decode cX11_said 30 = .ok (.invokestatic 365, 3) := by decide +kernel
theorem dX11_said_33 : decode cX11_said 33 = .ok (.goto 8, 3) := by decide +kernel
theorem dX11_said_36 : decode cX11_said 36 = .ok (.iload_n 2, 1) := by decide +kernel
theorem dX11_said_37 : decode cX11_said 37 = .ok (.iload_n 1, 1) := by decide +kernel
theorem dX11_said_38 : decode cX11_said 38 = .ok (.invokestatic 370, 3) := by decide +kernel
theorem dX11_said_41 : decode cX11_said 41 = .ok (.ireturn, 1) := by decide +kernel
theorem dX11_sentence_0 : decode cX11_sentence 0 = .ok (.aload_n 0, 1) := by decide +kernel
theorem dX11_sentence_1 : decode cX11_sentence 1 = .ok (.getfield 65, 3) := by decide +kernel
theorem dX11_sentence_4 : decode cX11_sentence 4 = .ok (.aload_n 0, 1) := by decide +kernel
theorem dX11_sentence_5 : decode cX11_sentence 5 = .ok (.getfield 10, 3) := by decide +kernel
theorem dX11_sentence_8 : decode cX11_sentence 8 = .ok (.aload_n 0, 1) := by decide +kernel
theorem dX11_sentence_9 : decode cX11_sentence 9 = .ok (.getfield 19, 3) := by decide +kernel
theorem dX11_sentence_12 : decode cX11_sentence 12 = .ok (.invokevirtual 351, 3) := by decide +kernel
theorem dX11_sentence_15 : decode cX11_sentence 15 = .ok (.aload_n 0, 1) := by decide +kernel
theorem dX11_sentence_16 : decode cX11_sentence 16 = .ok (.invokevirtual 137, 3) := by decide +kernel
theorem dX11_sentence_19 : decode cX11_sentence 19 = .ok (.ifCond .eq 13, 3) := by decide +kernel
theorem dX11_sentence_22 : decode cX11_sentence 22 = .ok (.iconst (-1), 1) := by decide +kernel
theorem dX11_sentence_23 : decode cX11_sentence 23 = .ok (.aload_n 0, 1) := by decide +kernel
theorem dX11_sentence_24 : decode cX11_sentence 24 = .ok (.getfield 10, 3) := by decide +kernel
theorem dX11_sentence_27 : decode cX11_sentence 27 = .ok (.getfield 141, 3) := by decide +kernel
theorem dX11_sentence_30 : decode cX11_sentence 30 = .ok (.isub, 1) := by decide +kernel
theorem dX11_sentence_31 : decode cX11_sentence 31 = .ok (.ireturn, 1) := by decide +kernel
theorem dX11_sentence_32 : decode cX11_sentence 32 = .ok (.aload_n 0, 1) := by decide +kernel
theorem dX11_sentence_33 : decode cX11_sentence 33 = .ok (.getfield 33, 3) := by decide +kernel
theorem dX11_sentence_36 : decode cX11_sentence 36 = .ok (.aload_n 0, 1) := by decide +kernel
theorem dX11_sentence_37 : decode cX11_sentence 37 = .ok (.getfield 65, 3) := by decide +kernel
theorem dX11_sentence_40 : decode cX11_sentence 40 = .ok (.invokevirtual 355, 3) := by decide +kernel
theorem dX11_sentence_43 : decode cX11_sentence 43 = .ok (.aload_n 0, 1) := by decide +kernel
theorem dX11_sentence_44 : decode cX11_sentence 44 = .ok (.getfield 33, 3) := by decide +kernel
theorem dX11_sentence_47 : decode cX11_sentence 47 = .ok (.getfield 358, 3) := by decide +kernel
theorem dX11_sentence_50 : decode cX11_sentence 50 = .ok (.ireturn, 1) := by decide +kernel
theorem dX11_shadow_0 : decode cX11_shadow 0 = .ok (.aload_n 0, 1) := by decide +kernel
theorem dX11_shadow_1 : decode cX11_shadow 1 = .ok (.getfield 19, 3) := by decide +kernel
theorem dX11_shadow_4 : decode cX11_shadow 4 = .ok (.iload_n 1, 1) := by decide +kernel
theorem dX11_shadow_5 : decode cX11_shadow 5 = .ok (.iload_n 2, 1) := by decide +kernel
theorem dX11_shadow_6 : decode cX11_shadow 6 = .ok (.invokevirtual 274, 3) := by decide +kernel
theorem dX11_shadow_9 : decode cX11_shadow 9 = .ok (.ifCond .ne 5, 3) := by decide +kernel
theorem dX11_shadow_12 : decode cX11_shadow 12 = .ok (.iconst (-1), 1) := by decide +kernel
theorem dX11_shadow_13 : decode cX11_shadow 13 = .ok (.ireturn, 1) := by decide +kernel
theorem dX11_shadow_14 : decode cX11_shadow 14 = .ok (.aload_n 0, 1) := by decide +kernel
theorem dX11_shadow_15 : decode cX11_shadow 15 = .ok (.getfield 42, 3) := by decide +kernel
theorem dX11_shadow_18 : decode cX11_shadow 18 = .ok (.iload_n 1, 1) := by decide +kernel
theorem dX11_shadow_19 : decode cX11_shadow 19 = .ok (.iload_n 2, 1) := by decide +kernel
theorem dX11_shadow_20 : decode cX11_shadow 20 = .ok (.invokevirtual 277, 3) := by decide +kernel
theorem dX11_shadow_23 : decode cX11_shadow 23 = .ok (.ireturn, 1) := by decide +kernel
theorem dX11_share_0 : decode cX11_share 0 = .ok (.aload_n 0, 1) := by decide +kernel
theorem dX11_share_1 : decode cX11_share 1 = .ok (.getfield 19, 3) := by decide +kernel
theorem dX11_share_4 : decode cX11_share 4 = .ok (.iload_n 1, 1) := by decide +kernel
theorem dX11_share_5 : decode cX11_share 5 = .ok (.invokevirtual 200, 3) := by decide +kernel
theorem dX11_share_8 : decode cX11_share 8 = .ok (.ifCond .eq 26, 3) := by decide +kernel
theorem dX11_share_11 : decode cX11_share 11 = .ok (.aload_n 0, 1) := by decide +kernel
theorem dX11_share_12 : decode cX11_share 12 = .ok (.getfield 19, 3) := by decide +kernel
theorem dX11_share_15 : decode cX11_share 15 = .ok (.iload_n 2, 1) := by decide +kernel
theorem dX11_share_16 : decode cX11_share 16 = .ok (.iload_n 3, 1) := by decide +kernel
theorem dX11_share_17 : decode cX11_share 17 = .ok (.invokevirtual 274, 3) := by decide +kernel
theorem dX11_share_20 : decode cX11_share 20 = .ok (.ifCond .eq 14, 3) := by decide +kernel
theorem dX11_share_23 : decode cX11_share 23 = .ok (.iload 4, 2) := by decide +kernel
theorem dX11_share_25 : decode cX11_share 25 = .ok (.ifCond .lt 9, 3) := by decide +kernel
theorem dX11_share_28 : decode cX11_share 28 = .ok (.iload 4, 2) := by decide +kernel
theorem dX11_share_30 : decode cX11_share 30 = .ok (.iconst 1, 1) := by decide +kernel
theorem dX11_share_31 : decode cX11_share 31 = .ok (.if_icmp .le 14, 3) := by decide +kernel
theorem dX11_share_45 : decode cX11_share 45 = .ok (.aload_n 0, 1) := by decide +kernel
theorem dX11_share_46 : decode cX11_share 46 = .ok (.getfield 42, 3) := by decide +kernel
theorem dX11_share_49 : decode cX11_share 49 = .ok (.iload_n 1, 1) := by decide +kernel
theorem dX11_share_50 : decode cX11_share 50 = .ok (.iload_n 2, 1) := by decide +kernel
theorem dX11_share_51 : decode cX11_share 51 = .ok (.iload_n 3, 1) := by decide +kernel
theorem dX11_share_52 : decode cX11_share 52 = .ok (.invokevirtual 282, 3) := by decide +kernel
theorem dX11_share_55 : decode cX11_share 55 = .ok (.istore 5, 2) := by decide +kernel
theorem dX11_share_57 : decode cX11_share 57 = .ok (.iload 4, 2) := by decide +kernel
theorem dX11_share_59 : decode cX11_share 59 = .ok (.ifCond .ne 14, 3) := by decide +kernel
theorem dX11_share_62 : decode cX11_share 62 = .ok (.iload 5, 2) := by decide +kernel
theorem dX11_share_64 : decode cX11_share 64 = .ok (.ifCond .ne 7, 3) := by decide +kernel
theorem dX11_share_67 : decode cX11_share 67 = .ok (.iconst 0, 1) := by decide +kernel
theorem dX11_share_68 : decode cX11_share 68 = .ok (.goto 4, 3) := by decide +kernel
theorem dX11_share_71 : decode cX11_share 71 = .ok (.iconst 1, 1) := by decide +kernel
theorem dX11_share_72 : decode cX11_share 72 = .ok (.ireturn, 1) := by decide +kernel
theorem dX11_share_73 : decode cX11_share 73 = .ok (.iload 5, 2) := by decide +kernel
theorem dX11_share_75 : decode cX11_share 75 = .ok (.ifCond .ne 7, 3) := by decide +kernel
theorem dX11_share_78 : decode cX11_share 78 = .ok (.iconst 1, 1) := by decide +kernel
theorem dX11_share_79 : decode cX11_share 79 = .ok (.goto 5, 3) := by decide +kernel
theorem dX11_share_82 : decode cX11_share 82 = .ok (.iload 5, 2) := by decide +kernel
theorem dX11_share_84 : decode cX11_share 84 = .ok (.ireturn, 1) := by decide +kernel
theorem dX11_spare_0 : decode cX11_spare 0 = .ok (.aload_n 0, 1) := by decide +kernel
theorem dX11_spare_1 : decode cX11_spare 1 = .ok (.getfield 19, 3) := by decide +kernel
theorem dX11_spare_4 : decode cX11_spare 4 = .ok (.iload_n 1, 1) := by decide +kernel
theorem dX11_spare_5 : decode cX11_spare 5 = .ok (.invokevirtual 200, 3) := by decide +kernel
theorem dX11_spare_8 : decode cX11_spare 8 = .ok (.ifCond .eq 15, 3) := by decide +kernel
theorem dX11_spare_11 : decode cX11_spare 11 = .ok (.aload_n 0, 1) := by decide +kernel
theorem dX11_spare_12 : decode cX11_spare 12 = .ok (.getfield 19, 3) := by decide +kernel
theorem dX11_spare_15 : decode cX11_spare 15 = .ok (.iload_n 2, 1) := by decide +kernel
theorem dX11_spare_16 : decode cX11_spare 16 = .ok (.iload_n 3, 1) := by decide +kernel
theorem dX11_spare_17 : decode cX11_spare 17 = .ok (.invokevirtual 274, 3) := by decide +kernel
theorem dX11_spare_20 : decode cX11_spare 20 = .ok (.ifCond .ne 5, 3) := by decide +kernel
theorem dX11_spare_23 : decode cX11_spare 23 = .ok (.iconst (-1), 1) := by decide +kernel
theorem dX11_spare_24 : decode cX11_spare 24 = .ok (.ireturn, 1) := by decide +kernel
theorem dX11_spare_25 : decode cX11_spare 25 = .ok (.aload_n 0, 1) := by decide +kernel
theorem dX11_spare_26 : decode cX11_spare 26 = .ok (.getfield 19, 3) := by decide +kernel
theorem dX11_spare_29 : decode cX11_spare 29 = .ok (.iload_n 2, 1) := by decide +kernel
theorem dX11_spare_30 : decode cX11_spare 30 = .ok (.iload_n 3, 1) := by decide +kernel
theorem dX11_spare_31 : decode cX11_spare 31 = .ok (.aload_n 0, 1) := by decide +kernel
theorem dX11_spare_32 : decode cX11_spare 32 = .ok (.getfield 26, 3) := by decide +kernel
theorem dX11_spare_35 : decode cX11_spare 35 = .ok (.getfield 205, 3) := by decide +kernel
theorem dX11_spare_38 : decode cX11_spare 38 = .ok (.iload_n 1, 1) := by decide +kernel
theorem dX11_spare_39 : decode cX11_spare 39 = .ok (.iaload, 1) := by decide +kernel
theorem dX11_spare_40 : decode cX11_spare 40 = .ok (.invokevirtual 289, 3) := by decide +kernel
theorem dX11_spare_43 : decode cX11_spare 43 = .ok (.istore 4, 2) := by decide +kernel
theorem dX11_spare_45 : decode cX11_spare 45 = .ok (.iload 4, 2) := by decide +kernel
theorem dX11_spare_47 : decode cX11_spare 47 = .ok (.iconst 1, 1) := by decide +kernel
theorem dX11_spare_48 : decode cX11_spare 48 = .ok (.if_icmp .lt 17, 3) := by decide +kernel
theorem dX11_spare_51 : decode cX11_spare 51 = .ok (.iload 4, 2) := by decide +kernel
theorem dX11_spare_53 : decode cX11_spare 53 = .ok (.aload_n 0, 1) := by decide +kernel
theorem dX11_spare_54 : decode cX11_spare 54 = .ok (.getfield 42, 3) := by decide +kernel
theorem dX11_spare_57 : decode cX11_spare 57 = .ok (.iload_n 2, 1) := by decide +kernel
theorem dX11_spare_58 : decode cX11_spare 58 = .ok (.iload_n 3, 1) := by decide +kernel
theorem dX11_spare_59 : decode cX11_spare 59 = .ok (.invokevirtual 277, 3) := by decide +kernel
theorem dX11_spare_62 : decode cX11_spare 62 = .ok (.if_icmp .le 5, 3) := by decide +kernel
theorem dX11_spare_65 : decode cX11_spare 65 = .ok (.iconst 0, 1) := by decide +kernel
theorem dX11_spare_66 : decode cX11_spare 66 = .ok (.ireturn, 1) := by decide +kernel
theorem dX11_spare_67 : decode cX11_spare 67 = .ok (.aload_n 0, 1) := by decide +kernel
theorem dX11_spare_68 : decode cX11_spare 68 = .ok (.getfield 42, 3) := by decide +kernel
theorem dX11_spare_71 : decode cX11_spare 71 = .ok (.iload_n 2, 1) := by decide +kernel
theorem dX11_spare_72 : decode cX11_spare 72 = .ok (.iload_n 3, 1) := by decide +kernel
theorem dX11_spare_73 : decode cX11_spare 73 = .ok (.iload 4, 2) := by decide +kernel
theorem dX11_spare_75 : decode cX11_spare 75 = .ok (.invokevirtual 292, 3) := by decide +kernel
theorem dX11_spare_78 : decode cX11_spare 78 = .ok (.istore 5, 2) := by decide +kernel
theorem dX11_spare_80 : decode cX11_spare 80 = .ok (.iload 5, 2) := by decide +kernel
theorem dX11_spare_82 : decode cX11_spare 82 = .ok (.iconst (-1), 1) := by decide +kernel
theorem dX11_spare_83 : decode cX11_spare 83 = .ok (.if_icmp .ne 5, 3) := by decide +kernel
theorem dX11_spare_86 : decode cX11_spare 86 = .ok (.iconst (-1), 1) := by decide +kernel
theorem dX11_spare_87 : decode cX11_spare 87 = .ok (.ireturn, 1) := by decide +kernel
theorem dX11_spare_88 : decode cX11_spare 88 = .ok (.aload_n 0, 1) := by decide +kernel
theorem dX11_spare_89 : decode cX11_spare 89 = .ok (.iload 5, 2) := by decide +kernel
theorem dX11_spare_91 : decode cX11_spare 91 = .ok (.putfield 110, 3) := by decide +kernel
theorem dX11_spare_94 : decode cX11_spare 94 = .ok (.aload_n 0, 1) := by decide +kernel
theorem dX11_spare_95 : decode cX11_spare 95 = .ok (.getfield 42, 3) := by decide +kernel
theorem dX11_spare_98 : decode cX11_spare 98 = .ok (.iload_n 2, 1) := by decide +kernel
theorem dX11_spare_99 : decode cX11_spare 99 = .ok (.iload_n 3, 1) := by decide +kernel
theorem dX11_spare_100 : decode cX11_spare 100 = .ok (.iload 5, 2) := by decide +kernel
theorem dX11_spare_102 : decode cX11_spare 102 = .ok (.invokevirtual 295, 3) := by decide +kernel
theorem dX11_spare_105 : decode cX11_spare 105 = .ok (.ireturn, 1) := by decide +kernel
theorem dX11_spareAt_0 : decode cX11_spareAt 0 = .ok (.aload_n 0, 1) := by decide +kernel
theorem dX11_spareAt_1 : decode cX11_spareAt 1 = .ok (.getfield 110, 3) := by decide +kernel
theorem dX11_spareAt_4 : decode cX11_spareAt 4 = .ok (.ireturn, 1) := by decide +kernel
theorem dX11_tear_0 : decode cX11_tear 0 = .ok (.aload_n 0, 1) := by decide +kernel
theorem dX11_tear_1 : decode cX11_tear 1 = .ok (.getfield 19, 3) := by decide +kernel
theorem dX11_tear_4 : decode cX11_tear 4 = .ok (.iload_n 1, 1) := by decide +kernel
theorem dX11_tear_5 : decode cX11_tear 5 = .ok (.iload_n 2, 1) := by decide +kernel
theorem dX11_tear_6 : decode cX11_tear 6 = .ok (.invokevirtual 153, 3) := by decide +kernel
theorem dX11_tear_9 : decode cX11_tear 9 = .ok (.ifCond .ne 5, 3) := by decide +kernel
theorem dX11_tear_12 : decode cX11_tear 12 = .ok (.iconst (-1), 1) := by decide +kernel
theorem dX11_tear_13 : decode cX11_tear 13 = .ok (.ireturn, 1) := by decide +kernel
theorem dX11_tear_14 : decode cX11_tear 14 = .ok (.bipush 8, 2) := by decide +kernel
theorem dX11_tear_16 : decode cX11_tear 16 = .ok (.iload_n 2, 1) := by decide +kernel
theorem dX11_tear_17 : decode cX11_tear 17 = .ok (.imul, 1) := by decide +kernel
theorem dX11_tear_18 : decode cX11_tear 18 = .ok (.iload_n 1, 1) := by decide +kernel
theorem dX11_tear_19 : decode cX11_tear 19 = .ok (.iadd, 1) := by decide +kernel
theorem dX11_tear_20 : decode cX11_tear 20 = .ok (.istore_n 3, 1) := by decide +kernel
theorem dX11_tear_21 : decode cX11_tear 21 = .ok (.aload_n 0, 1) := by decide +kernel
theorem dX11_tear_22 : decode cX11_tear 22 = .ok (.getfield 42, 3) := by decide +kernel
theorem dX11_tear_25 : decode cX11_tear 25 = .ok (.iload_n 3, 1) := by decide +kernel
theorem dX11_tear_26 : decode cX11_tear 26 = .ok (.invokevirtual 252, 3) := by decide +kernel
theorem dX11_tear_29 : decode cX11_tear 29 = .ok (.istore 4, 2) := by decide +kernel
theorem dX11_tear_31 : decode cX11_tear 31 = .ok (.iload 4, 2) := by decide +kernel
theorem dX11_tear_33 : decode cX11_tear 33 = .ok (.ifCond .ne 22, 3) := by decide +kernel
theorem dX11_tear_36 : decode cX11_tear 36 = .ok (.aload_n 0, 1) := by decide +kernel
theorem dX11_tear_37 : decode cX11_tear 37 = .ok (.getfield 71, 3) := by decide +kernel
theorem dX11_tear_40 : decode cX11_tear 40 = .ok (.aload_n 0, 1) := by decide +kernel
theorem dX11_tear_41 : decode cX11_tear 41 = .ok (.getfield 26, 3) := by decide +kernel
theorem dX11_tear_44 : decode cX11_tear 44 = .ok (.invokevirtual 238, 3) := by decide +kernel
theorem dX11_tear_47 : decode cX11_tear 47 = .ok (.aload_n 0, 1) := by decide +kernel
theorem dX11_tear_48 : decode cX11_tear 48 = .ok (.getfield 42, 3) := by decide +kernel
theorem dX11_tear_51 : decode cX11_tear 51 = .ok (.iload_n 3, 1) := by decide +kernel
theorem dX11_tear_52 : decode cX11_tear 52 = .ok (.invokevirtual 255, 3) := by decide +kernel
theorem dX11_tear_55 : decode cX11_tear 55 = .ok (.iload 4, 2) := by decide +kernel
theorem dX11_tear_57 : decode cX11_tear 57 = .ok (.ireturn, 1) := by decide +kernel
theorem dX11_told_0 : decode cX11_told 0 = .ok (.aload_n 0, 1) := by decide +kernel
theorem dX11_told_1 : decode cX11_told 1 = .ok (.getfield 61, 3) := by decide +kernel
theorem dX11_told_4 : decode cX11_told 4 = .ok (.getfield 341, 3) := by decide +kernel
theorem dX11_told_7 : decode cX11_told 7 = .ok (.ifCond .ne 5, 3) := by decide +kernel
theorem dX11_told_10 : decode cX11_told 10 = .ok (.iconst (-1), 1) := by decide +kernel
theorem dX11_told_11 : decode cX11_told 11 = .ok (.ireturn, 1) := by decide +kernel
theorem dX11_told_12 : decode cX11_told 12 = .ok (.iload_n 1, 1) := by decide +kernel
theorem dX11_told_13 : decode cX11_told 13 = .ok (.tableswitch 63 0 3 #[31, 39, 47, 55], 31) := by decide +kernel
theorem dX11_told_44 : decode cX11_told 44 = .ok (.aload_n 0, 1) := by decide +kernel
theorem dX11_told_45 : decode cX11_told 45 = .ok (.getfield 61, 3) := by decide +kernel
theorem dX11_told_48 : decode cX11_told 48 = .ok (.getfield 338, 3) := by decide +kernel
theorem dX11_told_51 : decode cX11_told 51 = .ok (.ireturn, 1) := by decide +kernel
theorem dX11_told_52 : decode cX11_told 52 = .ok (.aload_n 0, 1) := by decide +kernel
theorem dX11_told_53 : decode cX11_told 53 = .ok (.getfield 61, 3) := by decide +kernel
theorem dX11_told_56 : decode cX11_told 56 = .ok (.getfield 335, 3) := by decide +kernel
theorem dX11_told_59 : decode cX11_told 59 = .ok (.ireturn, 1) := by decide +kernel
theorem dX11_told_60 : decode cX11_told 60 = .ok (.aload_n 0, 1) := by decide +kernel
theorem dX11_told_61 : decode cX11_told 61 = .ok (.getfield 61, 3) := by decide +kernel
theorem dX11_told_64 : decode cX11_told 64 = .ok (.getfield 345, 3) := by decide +kernel
theorem dX11_told_67 : decode cX11_told 67 = .ok (.ireturn, 1) := by decide +kernel
theorem dX11_told_68 : decode cX11_told 68 = .ok (.aload_n 0, 1) := by decide +kernel
theorem dX11_told_69 : decode cX11_told 69 = .ok (.getfield 61, 3) := by decide +kernel
theorem dX11_told_72 : decode cX11_told 72 = .ok (.getfield 348, 3) := by decide +kernel
theorem dX11_told_75 : decode cX11_told 75 = .ok (.ireturn, 1) := by decide +kernel
theorem dX11_told_76 : decode cX11_told 76 = .ok (.iconst (-1), 1) := by decide +kernel
theorem dX11_told_77 : decode cX11_told 77 = .ok (.ireturn, 1) := by decide +kernel
theorem dX11_undo_0 : decode cX11_undo 0 = .ok (.aload_n 0, 1) := by decide +kernel
theorem dX11_undo_1 : decode cX11_undo 1 = .ok (.getfield 71, 3) := by decide +kernel
theorem dX11_undo_4 : decode cX11_undo 4 = .ok (.aload_n 0, 1) := by decide +kernel
theorem dX11_undo_5 : decode cX11_undo 5 = .ok (.getfield 26, 3) := by decide +kernel
theorem dX11_undo_8 : decode cX11_undo 8 = .ok (.invokevirtual 269, 3) := by decide +kernel
theorem dX11_undo_11 : decode cX11_undo 11 = .ok (.ifCond .ne 5, 3) := by decide +kernel
theorem dX11_undo_14 : decode cX11_undo 14 = .ok (.iconst (-1), 1) := by decide +kernel
theorem dX11_undo_15 : decode cX11_undo 15 = .ok (.ireturn, 1) := by decide +kernel
theorem dX11_undo_16 : decode cX11_undo 16 = .ok (.aload_n 0, 1) := by decide +kernel
theorem dX11_undo_17 : decode cX11_undo 17 = .ok (.getfield 71, 3) := by decide +kernel
theorem dX11_undo_20 : decode cX11_undo 20 = .ok (.getfield 273, 3) := by decide +kernel
theorem dX11_undo_23 : decode cX11_undo 23 = .ok (.ireturn, 1) := by decide +kernel
theorem dX11_when_0 : decode cX11_when 0 = .ok (.aload_n 0, 1) := by decide +kernel
theorem dX11_when_1 : decode cX11_when 1 = .ok (.invokevirtual 304, 3) := by decide +kernel
theorem dX11_when_4 : decode cX11_when 4 = .ok (.istore_n 1, 1) := by decide +kernel
theorem dX11_when_5 : decode cX11_when 5 = .ok (.iload_n 1, 1) := by decide +kernel
theorem dX11_when_6 : decode cX11_when 6 = .ok (.ifCond .le 20, 3) := by decide +kernel
theorem dX11_when_9 : decode cX11_when 9 = .ok (.aload_n 0, 1) := by decide +kernel
theorem dX11_when_10 : decode cX11_when 10 = .ok (.aload_n 0, 1) := by decide +kernel
theorem dX11_when_11 : decode cX11_when 11 = .ok (.aload_n 0, 1) := by decide +kernel
theorem dX11_when_12 : decode cX11_when 12 = .ok (.getfield 10, 3) := by decide +kernel
theorem dX11_when_15 : decode cX11_when 15 = .ok (.iconst 0, 1) := by decide +kernel
theorem dX11_when_16 : decode cX11_when 16 = .ok (.invokevirtual 307, 3) := by decide +kernel
theorem dX11_when_19 : decode cX11_when 19 = .ok (.iload_n 1, 1) := by decide +kernel
theorem dX11_when_20 : decode cX11_when 20 = .ok (.invokevirtual 310, 3) := by decide +kernel
theorem dX11_when_23 : decode cX11_when 23 = .ok (.putfield 113, 3) := by decide +kernel
theorem dX11_when_26 : decode cX11_when 26 = .ok (.aload_n 0, 1) := by decide +kernel
theorem dX11_when_27 : decode cX11_when 27 = .ok (.getfield 10, 3) := by decide +kernel
theorem dX11_when_30 : decode cX11_when 30 = .ok (.iconst 0, 1) := by decide +kernel
theorem dX11_when_31 : decode cX11_when 31 = .ok (.putfield 130, 3) := by decide +kernel
theorem dX11_when_34 : decode cX11_when 34 = .ok (.iload_n 1, 1) := by decide +kernel
theorem dX11_when_35 : decode cX11_when 35 = .ok (.ireturn, 1) := by decide +kernel
theorem dX12_act_0 : decode cX12_act 0 = .ok (.iload 4, 2) := by decide +kernel
theorem dX12_act_2 : decode cX12_act 2 = .ok (.ifCond .ne 5, 3) := by decide +kernel
theorem dX12_act_5 : decode cX12_act 5 = .ok (.iconst (-1), 1) := by decide +kernel
theorem dX12_act_6 : decode cX12_act 6 = .ok (.ireturn, 1) := by decide +kernel
theorem dX12_act_7 : decode cX12_act 7 = .ok (.aload_n 0, 1) := by decide +kernel
theorem dX12_act_8 : decode cX12_act 8 = .ok (.iload_n 1, 1) := by decide +kernel
theorem dX12_act_9 : decode cX12_act 9 = .ok (.iload_n 2, 1) := by decide +kernel
theorem dX12_act_10 : decode cX12_act 10 = .ok (.iload_n 3, 1) := by decide +kernel
theorem dX12_act_11 : decode cX12_act 11 = .ok (.invokevirtual 301, 3) := by decide +kernel
theorem dX12_act_14 : decode cX12_act 14 = .ok (.istore 5, 2) := by decide +kernel
theorem dX12_act_16 : decode cX12_act 16 = .ok (.iload 5, 2) := by decide +kernel
theorem dX12_act_18 : decode cX12_act 18 = .ok (.ifCond .eq 6, 3) := by decide +kernel
theorem dX12_act_21 : decode cX12_act 21 = .ok (.iload 5, 2) := by decide +kernel
theorem dX12_act_23 : decode cX12_act 23 = .ok (.ireturn, 1) := by decide +kernel
theorem dX12_act_24 : decode cX12_act 24 = .ok (.aload_n 0, 1) := by decide +kernel
theorem dX12_act_25 : decode cX12_act 25 = .ok (.invokevirtual 305, 3) := by decide +kernel
theorem dX12_act_28 : decode cX12_act 28 = .ok (.aload_n 0, 1) := by decide +kernel
theorem dX12_act_29 : decode cX12_act 29 = .ok (.iload_n 1, 1) := by decide +kernel
theorem dX12_act_30 : decode cX12_act 30 = .ok (.iload_n 2, 1) := by decide +kernel
theorem dX12_act_31 : decode cX12_act 31 = .ok (.iload_n 3, 1) := by decide +kernel
theorem dX12_act_32 : decode cX12_act 32 = .ok (.invokevirtual 308, 3) := by decide +kernel
theorem dX12_act_35 : decode cX12_act 35 = .ok (.iconst 0, 1) := by decide +kernel
theorem dX12_act_36 : decode cX12_act 36 = .ok (.ireturn, 1) := by decide +kernel
theorem dX12_ask_0 : decode cX12_ask 0 = .ok (.aload_n 0, 1) := by decide +kernel
theorem dX12_ask_1 : decode cX12_ask 1 = .ok (.iconst 0, 1) := by decide +kernel
theorem dX12_ask_2 : decode cX12_ask 2 = .ok (.putfield 1, 3) := by decide +kernel
theorem dX12_ask_5 : decode cX12_ask 5 = .ok (.aload_n 0, 1) := by decide +kernel
theorem dX12_ask_6 : decode cX12_ask 6 = .ok (.getfield 142, 3) := by decide +kernel
theorem dX12_ask_9 : decode cX12_ask 9 = .ok (.ireturn, 1) := by decide +kernel
theorem dX12_bad_0 : decode cX12_bad 0 = .ok (.aload_n 0, 1) := by decide +kernel
theorem dX12_bad_1 : decode cX12_bad 1 = .ok (.aload_n 0, 1) := by decide +kernel
theorem dX12_bad_2 : decode cX12_bad 2 = .ok (.getfield 30, 3) := by decide +kernel
theorem dX12_bad_5 : decode cX12_bad 5 = .ok (.iconst 1, 1) := by decide +kernel
theorem dX12_bad_6 : decode cX12_bad 6 = .ok (.if_icmp .ne 7, 3) := by decide +kernel
theorem dX12_bad_9 : decode cX12_bad 9 = .ok (.iconst 1, 1) := by decide +kernel
theorem dX12_bad_10 : decode cX12_bad 10 = .ok (.goto 4, 3) := by decide +kernel
theorem dX12_bad_13 : decode cX12_bad 13 = .ok (.iload_n 1, 1) := by decide +kernel
theorem dX12_bad_14 : decode cX12_bad 14 = .ok (.putfield 66, 3) := by decide +kernel
theorem dX12_bad_17 : decode cX12_bad 17 = .ok (.aload_n 0, 1) := by decide +kernel
theorem dX12_bad_18 : decode cX12_bad 18 = .ok (.aload_n 0, 1) := by decide +kernel
theorem dX12_bad_19 : decode cX12_bad 19 = .ok (.getfield 24, 3) := by decide +kernel
theorem dX12_bad_22 : decode cX12_bad 22 = .ok (.putfield 69, 3) := by decide +kernel
theorem dX12_bad_25 : decode cX12_bad 25 = .ok (.iconst 0, 1) := by decide +kernel
theorem dX12_bad_26 : decode cX12_bad 26 = .ok (.ireturn, 1) := by decide +kernel
theorem dX12_begin_0 : decode cX12_begin 0 = .ok (.aload_n 0, 1) := by decide +kernel
theorem dX12_begin_1 : decode cX12_begin 1 = .ok (.iconst 0, 1) := by decide +kernel
theorem dX12_begin_2 : decode cX12_begin 2 = .ok (.putfield 1, 3) := by decide +kernel
theorem dX12_begin_5 : decode cX12_begin 5 = .ok (.aload_n 0, 1) := by decide +kernel
theorem dX12_begin_6 : decode cX12_begin 6 = .ok (.aload_n 0, 1) := by decide +kernel
theorem dX12_begin_7 : decode cX12_begin 7 = .ok (.invokevirtual 89, 3) := by decide +kernel
theorem dX12_begin_10 : decode cX12_begin 10 = .ok (.putfield 18, 3) := by decide +kernel
theorem dX12_begin_13 : decode cX12_begin 13 = .ok (.aload_n 0, 1) := by decide +kernel
theorem dX12_begin_14 : decode cX12_begin 14 = .ok (.iload_n 1, 1) := by decide +kernel
theorem dX12_begin_15 : decode cX12_begin 15 = .ok (.putfield 27, 3) := by decide +kernel
theorem dX12_begin_18 : decode cX12_begin 18 = .ok (.aload_n 0, 1) := by decide +kernel
theorem dX12_begin_19 : decode cX12_begin 19 = .ok (.iconst 0, 1) := by decide +kernel
theorem dX12_begin_20 : decode cX12_begin 20 = .ok (.putfield 66, 3) := by decide +kernel
theorem dX12_begin_23 : decode cX12_begin 23 = .ok (.aload_n 0, 1) := by decide +kernel
theorem dX12_begin_24 : decode cX12_begin 24 = .ok (.iconst 0, 1) := by decide +kernel
theorem dX12_begin_25 : decode cX12_begin 25 = .ok (.putfield 21, 3) := by decide +kernel
theorem dX12_begin_28 : decode cX12_begin 28 = .ok (.aload_n 0, 1) := by decide +kernel
theorem dX12_begin_29 : decode cX12_begin 29 = .ok (.invokevirtual 82, 3) := by decide +kernel
theorem dX12_begin_32 : decode cX12_begin 32 = .ok (.return_, 1) := by decide +kernel
theorem dX12_best_0 : decode cX12_best 0 = .ok (.aload_n 0, 1) := by decide +kernel
theorem dX12_best_1 : decode cX12_best 1 = .ok (.iconst 0, 1) := by decide +kernel
theorem dX12_best_2 : decode cX12_best 2 = .ok (.putfield 1, 3) := by decide +kernel
theorem dX12_best_5 : decode cX12_best 5 = .ok (.aload_n 0, 1) := by decide +kernel
theorem dX12_best_6 : decode cX12_best 6 = .ok (.iload_n 1, 1) := by decide +kernel
theorem dX12_best_7 : decode cX12_best 7 = .ok (.invokevirtual 280, 3) := by decide +kernel
theorem dX12_best_10 : decode cX12_best 10 = .ok (.ifCond .eq 11, 3) := by decide +kernel
theorem dX12_best_13 : decode cX12_best 13 = .ok (.aload_n 0, 1) := by decide +kernel
theorem dX12_best_14 : decode cX12_best 14 = .ok (.iload_n 2, 1) := by decide +kernel
theorem dX12_best_15 : decode cX12_best 15 = .ok (.invokevirtual 268, 3) := by decide +kernel
theorem dX12_best_18 : decode cX12_best 18 = .ok (.ifCond .ne 5, 3) := by decide +kernel
theorem dX12_best_21 : decode cX12_best 21 = .ok (.iconst (-1), 1) := by decide +kernel
theorem dX12_best_22 : decode cX12_best 22 = .ok (.ireturn, 1) := by decide +kernel
theorem dX12_best_23 : decode cX12_best 23 = .ok (.iconst (-1), 1) := by decide +kernel
theorem dX12_best_24 : decode cX12_best 24 = .ok (.istore_n 3, 1) := by decide +kernel
theorem dX12_best_25 : decode cX12_best 25 = .ok (.ldc_w 325, 3) := by decide +kernel
theorem dX12_best_28 : decode cX12_best 28 = .ok (.istore 4, 2) := by decide +kernel
theorem dX12_best_30 : decode cX12_best 30 = .ok (.iconst 0, 1) := by decide +kernel
theorem dX12_best_31 : decode cX12_best 31 = .ok (.istore 5, 2) := by decide +kernel
theorem dX12_best_33 : decode cX12_best 33 = .ok (.iload 5, 2) := by decide +kernel
theorem dX12_best_35 : decode cX12_best 35 = .ok (.aload_n 0, 1) := by decide +kernel
theorem dX12_best_36 : decode cX12_best 36 = .ok (.getfield 98, 3) := by decide +kernel
theorem dX12_best_39 : decode cX12_best 39 = .ok (.iconst 4, 1) := by decide +kernel
theorem dX12_best_40 : decode cX12_best 40 = .ok (.iaload, 1) := by decide +kernel
theorem dX12_best_41 : decode cX12_best 41 = .ok (.if_icmp .ge 50, 3) := by decide +kernel
theorem dX12_best_44 : decode cX12_best 44 = .ok (.aload_n 0, 1) := by decide +kernel
theorem dX12_best_45 : decode cX12_best 45 = .ok (.iload_n 2, 1) := by decide +kernel
theorem dX12_best_46 : decode cX12_best 46 = .ok (.iload 5, 2) := by decide +kernel
theorem dX12_best_48 : decode cX12_best 48 = .ok (.invokevirtual 277, 3) := by decide +kernel
theorem dX12_best_51 : decode cX12_best 51 = .ok (.istore 6, 2) := by decide +kernel
theorem dX12_best_53 : decode cX12_best 53 = .ok (.iload 6, 2) := by decide +kernel
theorem dX12_best_55 : decode cX12_best 55 = .ok (.iload_n 1, 1) := by decide +kernel
theorem dX12_best_56 : decode cX12_best 56 = .ok (.invokestatic 235, 3) := by decide +kernel
theorem dX12_best_59 : decode cX12_best 59 = .ok (.ifCond .eq 26, 3) := by decide +kernel
theorem dX12_best_62 : decode cX12_best 62 = .ok (.iload 6, 2) := by decide +kernel
theorem dX12_best_64 : decode cX12_best 64 = .ok (.invokestatic 295, 3) := by decide +kernel
theorem dX12_best_67 : decode cX12_best 67 = .ok (.iload 4, 2) := by decide +kernel
theorem dX12_best_69 : decode cX12_best 69 = .ok (.if_icmp .lt 6, 3) := by decide +kernel
theorem dX12_best_72 : decode cX12_best 72 = .ok (.goto 13, 3) := by decide +kernel
theorem dX12_best_75 : decode cX12_best 75 = .ok (.iload 6, 2) := by decide +kernel
theorem dX12_best_77 : decode cX12_best 77 = .ok (.invokestatic 295, 3) := by decide +kernel
theorem dX12_best_80 : decode cX12_best 80 = .ok (.istore 4, 2) := by decide +kernel
theorem dX12_best_82 : decode cX12_best 82 = .ok (.iload 5, 2) := by decide +kernel
theorem dX12_best_84 : decode cX12_best 84 = .ok (.istore_n 3, 1) := by decide +kernel
theorem dX12_best_85 : decode cX12_best 85 = .ok (.iinc 5 1, 3) := by decide +kernel
theorem dX12_best_88 : decode cX12_best 88 = .ok (.goto (-55), 3) := by decide +kernel
theorem dX12_best_91 : decode cX12_best 91 = .ok (.iload_n 3, 1) := by decide +kernel
theorem dX12_best_92 : decode cX12_best 92 = .ok (.ireturn, 1) := by decide +kernel
theorem dX12_bits_0 : decode cX12_bits 0 = .ok (.iconst 0, 1) := by decide +kernel
theorem dX12_bits_1 : decode cX12_bits 1 = .ok (.istore_n 1, 1) := by decide +kernel
theorem dX12_bits_2 : decode cX12_bits 2 = .ok (.iload_n 0, 1) := by decide +kernel
theorem dX12_bits_3 : decode cX12_bits 3 = .ok (.istore_n 2, 1) := by decide +kernel
theorem dX12_bits_4 : decode cX12_bits 4 = .ok (.iload_n 2, 1) := by decide +kernel
theorem dX12_bits_5 : decode cX12_bits 5 = .ok (.ifCond .eq 15, 3) := by decide +kernel
theorem dX12_bits_8 : decode cX12_bits 8 = .ok (.iinc 1 1, 3) := by decide +kernel
theorem dX12_bits_11 : decode cX12_bits 11 = .ok (.iload_n 2, 1) := by decide +kernel
theorem dX12_bits_12 : decode cX12_bits 12 = .ok (.iload_n 2, 1) := by decide +kernel
theorem dX12_bits_13 : decode cX12_bits 13 = .ok (.iconst 1, 1) := by decide +kernel
theorem dX12_bits_14 : decode cX12_bits 14 = .ok (.isub, 1) := by decide +kernel
theorem dX12_bits_15 : decode cX12_bits 15 = .ok (.iand, 1) := by decide +kernel
theorem dX12_bits_16 : decode cX12_bits 16 = .ok (.istore_n 2, 1) := by decide +kernel
theorem dX12_bits_17 : decode cX12_bits 17 = .ok (.goto (-13), 3) := by decide +kernel
theorem dX12_bits_20 : decode cX12_bits 20 = .ok (.iload_n 1, 1) := by decide +kernel
theorem dX12_bits_21 : decode cX12_bits 21 = .ok (.ireturn, 1) := by decide +kernel
theorem dX12_book_0 : decode cX12_book 0 = .ok (.aload_n 0, 1) := by decide +kernel
theorem dX12_book_1 : decode cX12_book 1 = .ok (.iconst 0, 1) := by decide +kernel
theorem dX12_book_2 : decode cX12_book 2 = .ok (.putfield 1, 3) := by decide +kernel
theorem dX12_book_5 : decode cX12_book 5 = .ok (.iload_n 1, 1) := by decide +kernel
theorem dX12_book_6 : decode cX12_book 6 = .ok (.iconst 0, 1) := by decide +kernel
theorem dX12_book_7 : decode cX12_book 7 = .ok (.iconst 1, 1) := by decide +kernel
theorem dX12_book_8 : decode cX12_book 8 = .ok (.invokestatic 75, 3) := by decide +kernel
theorem dX12_book_11 : decode cX12_book 11 = .ok (.ifCond .ne 7, 3) := by decide +kernel
theorem dX12_book_14 : decode cX12_book 14 = .ok (.sipush (-1000), 3) := by decide +kernel
theorem dX12_book_17 : decode cX12_book 17 = .ok (.ireturn, 1) := by decide +kernel
theorem dX12_book_18 : decode cX12_book 18 = .ok (.aload_n 0, 1) := by decide +kernel
theorem dX12_book_19 : decode cX12_book 19 = .ok (.sipush 400, 3) := by decide +kernel
theorem dX12_book_22 : decode cX12_book 22 = .ok (.invokevirtual 223, 3) := by decide +kernel
theorem dX12_book_25 : decode cX12_book 25 = .ok (.aload_n 0, 1) := by decide +kernel
theorem dX12_book_26 : decode cX12_book 26 = .ok (.iconst 0, 1) := by decide +kernel
theorem dX12_book_27 : decode cX12_book 27 = .ok (.putfield 390, 3) := by decide +kernel
theorem dX12_book_30 : decode cX12_book 30 = .ok (.aload_n 0, 1) := by decide +kernel
theorem dX12_book_31 : decode cX12_book 31 = .ok (.getfield 30, 3) := by decide +kernel
theorem dX12_book_34 : decode cX12_book 34 = .ok (.ifCond .eq 31, 3) := by decide +kernel
theorem dX12_book_37 : decode cX12_book 37 = .ok (.aload_n 0, 1) := by decide +kernel
theorem dX12_book_38 : decode cX12_book 38 = .ok (.invokevirtual 399, 3) := by decide +kernel
theorem dX12_book_41 : decode cX12_book 41 = .ok (.ifCond .ne 11, 3) := by decide +kernel
theorem dX12_book_44 : decode cX12_book 44 = .ok (.bipush (-2), 2) := by decide +kernel
theorem dX12_book_46 : decode cX12_book 46 = .ok (.aload_n 0, 1) := by decide +kernel
theorem dX12_book_47 : decode cX12_book 47 = .ok (.getfield 69, 3) := by decide +kernel
theorem dX12_book_50 : decode cX12_book 50 = .ok (.isub, 1) := by decide +kernel
theorem dX12_book_51 : decode cX12_book 51 = .ok (.ireturn, 1) := by decide +kernel
theorem dX12_book_52 : decode cX12_book 52 = .ok (.aload_n 0, 1) := by decide +kernel
theorem dX12_book_53 : decode cX12_book 53 = .ok (.dup, 1) := by decide +kernel
theorem dX12_book_54 : decode cX12_book 54 = .ok (.getfield 390, 3) := by decide +kernel
theorem dX12_book_57 : decode cX12_book 57 = .ok (.iconst 1, 1) := by decide +kernel
theorem dX12_book_58 : decode cX12_book 58 = .ok (.iadd, 1) := by decide +kernel
theorem dX12_book_59 : decode cX12_book 59 = .ok (.putfield 390, 3) := by decide +kernel
theorem dX12_book_62 : decode cX12_book 62 = .ok (.goto (-32), 3) := by decide +kernel
theorem dX12_book_65 : decode cX12_book 65 = .ok (.aload_n 0, 1) := by decide +kernel
theorem dX12_book_66 : decode cX12_book 66 = .ok (.invokevirtual 381, 3) := by decide +kernel
theorem dX12_book_69 : decode cX12_book 69 = .ok (.iconst 0, 1) := by decide +kernel
theorem dX12_book_70 : decode cX12_book 70 = .ok (.istore_n 2, 1) := by decide +kernel
theorem dX12_book_71 : decode cX12_book 71 = .ok (.iconst 0, 1) := by decide +kernel
theorem dX12_book_72 : decode cX12_book 72 = .ok (.istore_n 3, 1) := by decide +kernel
theorem dX12_book_73 : decode cX12_book 73 = .ok (.iload_n 2, 1) := by decide +kernel
theorem dX12_book_74 : decode cX12_book 74 = .ok (.aload_n 0, 1) := by decide +kernel
theorem dX12_book_75 : decode cX12_book 75 = .ok (.getfield 390, 3) := by decide +kernel
theorem dX12_book_78 : decode cX12_book 78 = .ok (.if_icmp .ge 25, 3) := by decide +kernel
theorem dX12_book_81 : decode cX12_book 81 = .ok (.iload_n 3, 1) := by decide +kernel
theorem dX12_book_82 : decode cX12_book 82 = .ok (.ifCond .ne 21, 3) := by decide +kernel
theorem dX12_book_85 : decode cX12_book 85 = .ok (.aload_n 0, 1) := by decide +kernel
theorem dX12_book_86 : decode cX12_book 86 = .ok (.iconst 3, 1) := by decide +kernel
theorem dX12_book_87 : decode cX12_book 87 = .ok (.iload_n 2, 1) := by decide +kernel
theorem dX12_book_88 : decode cX12_book 88 = .ok (.imul, 1) := by decide +kernel
theorem dX12_book_89 : decode cX12_book 89 = .ok (.invokevirtual 402, 3) := by decide +kernel
theorem dX12_book_92 : decode cX12_book 92 = .ok (.istore_n 3, 1) := by decide +kernel
theorem dX12_book_93 : decode cX12_book 93 = .ok (.iload_n 3, 1) := by decide +kernel
theorem dX12_book_94 : decode cX12_book 94 = .ok (.ifCond .ne (-21), 3) := by decide +kernel
theorem dX12_book_97 : decode cX12_book 97 = .ok (.iinc 2 1, 3) := by decide +kernel
theorem dX12_book_100 : decode cX12_book 100 = .ok (.goto (-27), 3) := by decide +kernel
theorem dX12_book_103 : decode cX12_book 103 = .ok (.aload_n 0, 1) := by decide +kernel
theorem dX12_book_104 : decode cX12_book 104 = .ok (.getfield 157, 3) := by decide +kernel
theorem dX12_book_107 : decode cX12_book 107 = .ok (.iconst 0, 1) := by decide +kernel
theorem dX12_book_108 : decode cX12_book 108 = .ok (.iload_n 3, 1) := by decide +kernel
theorem dX12_book_109 : decode cX12_book 109 = .ok (.iastore, 1) := by decide +kernel
theorem dX12_book_110 : decode cX12_book 110 = .ok (.aload_n 0, 1) := by decide +kernel
theorem dX12_book_111 : decode cX12_book 111 = .ok (.getfield 157, 3) := by decide +kernel
theorem dX12_book_114 : decode cX12_book 114 = .ok (.iconst 1, 1) := by decide +kernel
theorem dX12_book_115 : decode cX12_book 115 = .ok (.iload_n 2, 1) := by decide +kernel
theorem dX12_book_116 : decode cX12_book 116 = .ok (.iastore, 1) := by decide +kernel
theorem dX12_book_117 : decode cX12_book 117 = .ok (.aload_n 0, 1) := by decide +kernel
theorem dX12_book_118 : decode cX12_book 118 = .ok (.getfield 157, 3) := by decide +kernel
theorem dX12_book_121 : decode cX12_book 121 = .ok (.iconst 2, 1) := by decide +kernel
theorem dX12_book_122 : decode cX12_book 122 = .ok (.aload_n 0, 1) := by decide +kernel
theorem dX12_book_123 : decode cX12_book 123 = .ok (.getfield 98, 3) := by decide +kernel
theorem dX12_book_126 : decode cX12_book 126 = .ok (.bipush 106, 2) := by decide +kernel
theorem dX12_book_128 : decode cX12_book 128 = .ok (.iaload, 1) := by decide +kernel
theorem dX12_book_129 : decode cX12_book 129 = .ok (.iastore, 1) := by decide +kernel
theorem dX12_book_130 : decode cX12_book 130 = .ok (.aload_n 0, 1) := by decide +kernel
theorem dX12_book_131 : decode cX12_book 131 = .ok (.getfield 157, 3) := by decide +kernel
theorem dX12_book_134 : decode cX12_book 134 = .ok (.iconst 3, 1) := by decide +kernel
theorem dX12_book_135 : decode cX12_book 135 = .ok (.aload_n 0, 1) := by decide +kernel
theorem dX12_book_136 : decode cX12_book 136 = .ok (.bipush 122, 2) := by decide +kernel
theorem dX12_book_138 : decode cX12_book 138 = .ok (.bipush 6, 2) := by decide +kernel
theorem dX12_book_140 : decode cX12_book 140 = .ok (.invokevirtual 286, 3) := by decide +kernel
theorem dX12_book_143 : decode cX12_book 143 = .ok (.iastore, 1) := by decide +kernel
theorem dX12_book_144 : decode cX12_book 144 = .ok (.aload_n 0, 1) := by decide +kernel
theorem dX12_book_145 : decode cX12_book 145 = .ok (.iconst 1, 1) := by decide +kernel
theorem dX12_book_146 : decode cX12_book 146 = .ok (.putfield 405, 3) := by decide +kernel
theorem dX12_book_149 : decode cX12_book 149 = .ok (.aload_n 0, 1) := by decide +kernel
theorem dX12_book_150 : decode cX12_book 150 = .ok (.iload_n 1, 1) := by decide +kernel
theorem dX12_book_151 : decode cX12_book 151 = .ok (.iconst 1, 1) := by decide +kernel
theorem dX12_book_152 : decode cX12_book 152 = .ok (.if_icmp .ne 11, 3) := by decide +kernel
theorem dX12_book_155 : decode cX12_book 155 = .ok (.iload_n 2, 1) := by decide +kernel
theorem dX12_book_156 : decode cX12_book 156 = .ok (.ifCond .le 7, 3) := by decide +kernel
theorem dX12_book_159 : decode cX12_book 159 = .ok (.iconst 1, 1) := by decide +kernel
theorem dX12_book_160 : decode cX12_book 160 = .ok (.goto 4, 3) := by decide +kernel
theorem dX12_book_163 : decode cX12_book 163 = .ok (.iconst 0, 1) := by decide +kernel
theorem dX12_book_164 : decode cX12_book 164 = .ok (.invokevirtual 408, 3) := by decide +kernel
theorem dX12_book_167 : decode cX12_book 167 = .ok (.iload_n 3, 1) := by decide +kernel
theorem dX12_book_168 : decode cX12_book 168 = .ok (.ifCond .ne 7, 3) := by decide +kernel
theorem dX12_book_171 : decode cX12_book 171 = .ok (.iconst (-1), 1) := by decide +kernel
theorem dX12_book_172 : decode cX12_book 172 = .ok (.goto 4, 3) := by decide +kernel
theorem dX12_book_175 : decode cX12_book 175 = .ok (.iload_n 2, 1) := by decide +kernel
theorem dX12_book_176 : decode cX12_book 176 = .ok (.ireturn, 1) := by decide +kernel
theorem dX12_bury_0 : decode cX12_bury 0 = .ok (.aload_n 0, 1) := by decide +kernel
theorem dX12_bury_1 : decode cX12_bury 1 = .ok (.iconst 0, 1) := by decide +kernel
theorem dX12_bury_2 : decode cX12_bury 2 = .ok (.putfield 1, 3) := by decide +kernel
theorem dX12_bury_5 : decode cX12_bury 5 = .ok (.aload_n 0, 1) := by decide +kernel
theorem dX12_bury_6 : decode cX12_bury 6 = .ok (.iconst 3, 1) := by decide +kernel
theorem dX12_bury_7 : decode cX12_bury 7 = .ok (.iload_n 1, 1) := by decide +kernel
theorem dX12_bury_8 : decode cX12_bury 8 = .ok (.iconst 0, 1) := by decide +kernel
theorem dX12_bury_9 : decode cX12_bury 9 = .ok (.aload_n 0, 1) := by decide +kernel
theorem dX12_bury_10 : decode cX12_bury 10 = .ok (.iload_n 1, 1) := by decide +kernel
theorem dX12_bury_11 : decode cX12_bury 11 = .ok (.invokevirtual 268, 3) := by decide +kernel
theorem dX12_bury_14 : decode cX12_bury 14 = .ok (.invokevirtual 312, 3) := by decide +kernel
theorem dX12_bury_17 : decode cX12_bury 17 = .ok (.ireturn, 1) := by decide +kernel
theorem dX12_byteAt_0 : decode cX12_byteAt 0 = .ok (.aload_n 0, 1) := by decide +kernel
theorem dX12_byteAt_1 : decode cX12_byteAt 1 = .ok (.iconst 0, 1) := by decide +kernel
theorem dX12_byteAt_2 : decode cX12_byteAt 2 = .ok (.putfield 1, 3) := by decide +kernel
theorem dX12_byteAt_5 : decode cX12_byteAt 5 = .ok (.iload_n 1, 1) := by decide +kernel
theorem dX12_byteAt_6 : decode cX12_byteAt 6 = .ok (.iconst 0, 1) := by decide +kernel
theorem dX12_byteAt_7 : decode cX12_byteAt 7 = .ok (.aload_n 0, 1) := by decide +kernel
theorem dX12_byteAt_8 : decode cX12_byteAt 8 = .ok (.getfield 346, 3) := by decide +kernel
theorem dX12_byteAt_11 : decode cX12_byteAt 11 = .ok (.iconst 1, 1) := by decide +kernel
theorem dX12_byteAt_12 : decode cX12_byteAt 12 = .ok (.isub, 1) := by decide +kernel
theorem dX12_byteAt_13 : decode cX12_byteAt 13 = .ok (.invokestatic 75, 3) := by decide +kernel
theorem dX12_byteAt_16 : decode cX12_byteAt 16 = .ok (.ifCond .eq 12, 3) := by decide +kernel
theorem dX12_byteAt_19 : decode cX12_byteAt 19 = .ok (.aload_n 0, 1) := by decide +kernel
theorem dX12_byteAt_20 : decode cX12_byteAt 20 = .ok (.getfield 151, 3) := by decide +kernel
theorem dX12_byteAt_23 : decode cX12_byteAt 23 = .ok (.iload_n 1, 1) := by decide +kernel
theorem dX12_byteAt_24 : decode cX12_byteAt 24 = .ok (.iaload, 1) := by decide +kernel
theorem dX12_byteAt_25 : decode cX12_byteAt 25 = .ok (.goto 4, 3) := by decide +kernel
theorem dX12_byteAt_28 : decode cX12_byteAt 28 = .ok (.iconst (-1), 1) := by decide +kernel
theorem dX12_byteAt_29 : decode cX12_byteAt 29 = .ok (.ireturn, 1) := by decide +kernel
theorem dX12_cell_0 : decode cX12_cell 0 = .ok (.aload_n 0, 1) := by decide +kernel
theorem dX12_cell_1 : decode cX12_cell 1 = .ok (.iconst 0, 1) := by decide +kernel
theorem dX12_cell_2 : decode cX12_cell 2 = .ok (.putfield 1, 3) := by decide +kernel
theorem dX12_cell_5 : decode cX12_cell 5 = .ok (.aload_n 0, 1) := by decide +kernel
theorem dX12_cell_6 : decode cX12_cell 6 = .ok (.iload_n 1, 1) := by decide +kernel
theorem dX12_cell_7 : decode cX12_cell 7 = .ok (.iload_n 2, 1) := by decide +kernel
theorem dX12_cell_8 : decode cX12_cell 8 = .ok (.invokevirtual 244, 3) := by decide +kernel
theorem dX12_cell_11 : decode cX12_cell 11 = .ok (.ifCond .ne 5, 3) := by decide +kernel
theorem dX12_cell_14 : decode cX12_cell 14 = .ok (.iconst (-1), 1) := by decide +kernel
theorem dX12_cell_15 : decode cX12_cell 15 = .ok (.ireturn, 1) := by decide +kernel
theorem dX12_cell_16 : decode cX12_cell 16 = .ok (.bipush 8, 2) := by decide +kernel
theorem dX12_cell_18 : decode cX12_cell 18 = .ok (.iload_n 2, 1) := by decide +kernel
theorem dX12_cell_19 : decode cX12_cell 19 = .ok (.imul, 1) := by decide +kernel
theorem dX12_cell_20 : decode cX12_cell 20 = .ok (.iload_n 1, 1) := by decide +kernel
theorem dX12_cell_21 : decode cX12_cell 21 = .ok (.iadd, 1) := by decide +kernel
theorem dX12_cell_22 : decode cX12_cell 22 = .ok (.istore 4, 2) := by decide +kernel
theorem dX12_cell_24 : decode cX12_cell 24 = .ok (.iload_n 3, 1) := by decide +kernel
theorem dX12_cell_25 : decode cX12_cell 25 = .ok (.tableswitch 59 0 3 #[31, 38, 45, 52], 31) := by decide +kernel
theorem dX12_cell_56 : decode cX12_cell 56 = .ok (.aload_n 0, 1) := by decide +kernel
theorem dX12_cell_57 : decode cX12_cell 57 = .ok (.iload 4, 2) := by decide +kernel
theorem dX12_cell_59 : decode cX12_cell 59 = .ok (.invokevirtual 241, 3) := by decide +kernel
theorem dX12_cell_62 : decode cX12_cell 62 = .ok (.ireturn, 1) := by decide +kernel
theorem dX12_cell_63 : decode cX12_cell 63 = .ok (.aload_n 0, 1) := by decide +kernel
theorem dX12_cell_64 : decode cX12_cell 64 = .ok (.iload 4, 2) := by decide +kernel
theorem dX12_cell_66 : decode cX12_cell 66 = .ok (.invokevirtual 238, 3) := by decide +kernel
theorem dX12_cell_69 : decode cX12_cell 69 = .ok (.ireturn, 1) := by decide +kernel
theorem dX12_cell_70 : decode cX12_cell 70 = .ok (.aload_n 0, 1) := by decide +kernel
theorem dX12_cell_71 : decode cX12_cell 71 = .ok (.iload 4, 2) := by decide +kernel
theorem dX12_cell_73 : decode cX12_cell 73 = .ok (.invokevirtual 262, 3) := by decide +kernel
theorem dX12_cell_76 : decode cX12_cell 76 = .ok (.ireturn, 1) := by decide +kernel
theorem dX12_cell_77 : decode cX12_cell 77 = .ok (.aload_n 0, 1) := by decide +kernel
theorem dX12_cell_78 : decode cX12_cell 78 = .ok (.iload 4, 2) := by decide +kernel
theorem dX12_cell_80 : decode cX12_cell 80 = .ok (.invokevirtual 265, 3) := by decide +kernel
theorem dX12_cell_83 : decode cX12_cell 83 = .ok (.ireturn, 1) := by decide +kernel
theorem dX12_cell_84 : decode cX12_cell 84 = .ok (.iconst (-1), 1) := by decide +kernel
theorem dX12_cell_85 : decode cX12_cell 85 = .ok (.ireturn, 1) := by decide +kernel
theorem dX12_come_0 : decode cX12_come 0 = .ok (.bipush 24, 2) := by decide +kernel
theorem dX12_come_2 : decode cX12_come 2 = .ok (.istore_n 2, 1) := by decide +kernel
theorem dX12_come_3 : decode cX12_come 3 = .ok (.iload_n 2, 1) := by decide +kernel
theorem dX12_come_4 : decode cX12_come 4 = .ok (.ifCond .lt 35, 3) := by decide +kernel
theorem dX12_come_7 : decode cX12_come 7 = .ok (.aload_n 0, 1) := by decide +kernel
theorem dX12_come_8 : decode cX12_come 8 = .ok (.getfield 7, 3) := by decide +kernel
theorem dX12_come_11 : decode cX12_come 11 = .ok (.aload_n 0, 1) := by decide +kernel
theorem dX12_come_12 : decode cX12_come 12 = .ok (.getfield 11, 3) := by decide +kernel
theorem dX12_come_15 : decode cX12_come 15 = .ok (.iload_n 1, 1) := by decide +kernel
theorem dX12_come_16 : decode cX12_come 16 = .ok (.iload_n 2, 1) := by decide +kernel
theorem dX12_come_17 : decode cX12_come 17 = .ok (.iushr, 1) := by decide +kernel
theorem dX12_come_18 : decode cX12_come 18 = .ok (.sipush 255, 3) := by decide +kernel
theorem dX12_come_21 : decode cX12_come 21 = .ok (.iand, 1) := by decide +kernel
theorem dX12_come_22 : decode cX12_come 22 = .ok (.iastore, 1) := by decide +kernel
theorem dX12_come_23 : decode cX12_come 23 = .ok (.aload_n 0, 1) := by decide +kernel
theorem dX12_come_24 : decode cX12_come 24 = .ok (.dup, 1) := by decide +kernel
theorem dX12_come_25 : decode cX12_come 25 = .ok (.getfield 11, 3) := by decide +kernel
theorem dX12_come_28 : decode cX12_come 28 = .ok (.iconst 1, 1) := by decide +kernel
theorem dX12_come_29 : decode cX12_come 29 = .ok (.iadd, 1) := by decide +kernel
theorem dX12_come_30 : decode cX12_come 30 = .ok (.putfield 11, 3) := by decide +kernel
theorem dX12_come_33 : decode cX12_come 33 = .ok (.iinc 2 (-8), 3) := by decide +kernel
theorem dX12_come_36 : decode cX12_come 36 = .ok (.goto (-33), 3) := by decide +kernel
theorem dX12_come_39 : decode cX12_come 39 = .ok (.return_, 1) := by decide +kernel
theorem dX12_count_0 : decode cX12_count 0 = .ok (.aload_n 0, 1) := by decide +kernel
theorem dX12_count_1 : decode cX12_count 1 = .ok (.iconst 0, 1) := by decide +kernel
theorem dX12_count_2 : decode cX12_count 2 = .ok (.putfield 1, 3) := by decide +kernel
theorem dX12_count_5 : decode cX12_count 5 = .ok (.iload_n 1, 1) := by decide +kernel
theorem dX12_count_6 : decode cX12_count 6 = .ok (.tableswitch 78 0 5 #[38, 45, 52, 59, 66, 73], 38) := by decide +kernel
theorem dX12_count_44 : decode cX12_count 44 = .ok (.aload_n 0, 1) := by decide +kernel
theorem dX12_count_45 : decode cX12_count 45 = .ok (.getfield 98, 3) := by decide +kernel
theorem dX12_count_48 : decode cX12_count 48 = .ok (.iconst 0, 1) := by decide +kernel
theorem dX12_count_49 : decode cX12_count 49 = .ok (.iaload, 1) := by decide +kernel
theorem dX12_count_50 : decode cX12_count 50 = .ok (.ireturn, 1) := by decide +kernel
theorem dX12_count_51 : decode cX12_count 51 = .ok (.aload_n 0, 1) := by decide +kernel
theorem dX12_count_52 : decode cX12_count 52 = .ok (.getfield 98, 3) := by decide +kernel
theorem dX12_count_55 : decode cX12_count 55 = .ok (.iconst 1, 1) := by decide +kernel
theorem dX12_count_56 : decode cX12_count 56 = .ok (.iaload, 1) := by decide +kernel
theorem dX12_count_57 : decode cX12_count 57 = .ok (.ireturn, 1) := by decide +kernel
theorem dX12_count_58 : decode cX12_count 58 = .ok (.aload_n 0, 1) := by decide +kernel
theorem dX12_count_59 : decode cX12_count 59 = .ok (.getfield 98, 3) := by decide +kernel
theorem dX12_count_62 : decode cX12_count 62 = .ok (.iconst 2, 1) := by decide +kernel
theorem dX12_count_63 : decode cX12_count 63 = .ok (.iaload, 1) := by decide +kernel
theorem dX12_count_64 : decode cX12_count 64 = .ok (.ireturn, 1) := by decide +kernel
theorem dX12_count_65 : decode cX12_count 65 = .ok (.aload_n 0, 1) := by decide +kernel
theorem dX12_count_66 : decode cX12_count 66 = .ok (.getfield 98, 3) := by decide +kernel
theorem dX12_count_69 : decode cX12_count 69 = .ok (.iconst 3, 1) := by decide +kernel
theorem dX12_count_70 : decode cX12_count 70 = .ok (.iaload, 1) := by decide +kernel
theorem dX12_count_71 : decode cX12_count 71 = .ok (.ireturn, 1) := by decide +kernel
theorem dX12_count_72 : decode cX12_count 72 = .ok (.aload_n 0, 1) := by decide +kernel
theorem dX12_count_73 : decode cX12_count 73 = .ok (.getfield 98, 3) := by decide +kernel
theorem dX12_count_76 : decode cX12_count 76 = .ok (.iconst 4, 1) := by decide +kernel
theorem dX12_count_77 : decode cX12_count 77 = .ok (.iaload, 1) := by decide +kernel
theorem dX12_count_78 : decode cX12_count 78 = .ok (.ireturn, 1) := by decide +kernel
theorem dX12_count_79 : decode cX12_count 79 = .ok (.aload_n 0, 1) := by decide +kernel
theorem dX12_count_80 : decode cX12_count 80 = .ok (.getfield 11, 3) := by decide +kernel
theorem dX12_count_83 : decode cX12_count 83 = .ok (.ireturn, 1) := by decide +kernel
theorem dX12_count_84 : decode cX12_count 84 = .ok (.iconst (-1), 1) := by decide +kernel
theorem dX12_count_85 : decode cX12_count 85 = .ok (.ireturn, 1) := by decide +kernel
theorem dX12_crowd_0 : decode cX12_crowd 0 = .ok (.aload_n 0, 1) := by decide +kernel
theorem dX12_crowd_1 : decode cX12_crowd 1 = .ok (.iconst 0, 1) := by decide +kernel
theorem dX12_crowd_2 : decode cX12_crowd 2 = .ok (.putfield 1, 3) := by decide +kernel
theorem dX12_crowd_5 : decode cX12_crowd 5 = .ok (.aload_n 0, 1) := by decide +kernel
theorem dX12_crowd_6 : decode cX12_crowd 6 = .ok (.iload_n 1, 1) := by decide +kernel
theorem dX12_crowd_7 : decode cX12_crowd 7 = .ok (.invokevirtual 268, 3) := by decide +kernel
theorem dX12_crowd_10 : decode cX12_crowd 10 = .ok (.ifCond .eq 21, 3) := by decide +kernel
theorem dX12_crowd_13 : decode cX12_crowd 13 = .ok (.aload_n 0, 1) := by decide +kernel
theorem dX12_crowd_14 : decode cX12_crowd 14 = .ok (.iload_n 2, 1) := by decide +kernel
theorem dX12_crowd_15 : decode cX12_crowd 15 = .ok (.invokevirtual 322, 3) := by decide +kernel
theorem dX12_crowd_18 : decode cX12_crowd 18 = .ok (.ifCond .eq 13, 3) := by decide +kernel
theorem dX12_crowd_21 : decode cX12_crowd 21 = .ok (.iload_n 3, 1) := by decide +kernel
theorem dX12_crowd_22 : decode cX12_crowd 22 = .ok (.iconst 0, 1) := by decide +kernel
theorem dX12_crowd_23 : decode cX12_crowd 23 = .ok (.bipush 30, 2) := by decide +kernel
theorem dX12_crowd_25 : decode cX12_crowd 25 = .ok (.invokestatic 75, 3) := by decide +kernel
theorem dX12_crowd_28 : decode cX12_crowd 28 = .ok (.ifCond .ne 5, 3) := by decide +kernel
theorem dX12_crowd_31 : decode cX12_crowd 31 = .ok (.iconst (-1), 1) := by decide +kernel
theorem dX12_crowd_32 : decode cX12_crowd 32 = .ok (.ireturn, 1) := by decide +kernel
theorem dX12_crowd_33 : decode cX12_crowd 33 = .ok (.aload_n 0, 1) := by decide +kernel
theorem dX12_crowd_34 : decode cX12_crowd 34 = .ok (.iload_n 1, 1) := by decide +kernel
theorem dX12_crowd_35 : decode cX12_crowd 35 = .ok (.iload_n 2, 1) := by decide +kernel
theorem dX12_crowd_36 : decode cX12_crowd 36 = .ok (.invokevirtual 251, 3) := by decide +kernel
theorem dX12_crowd_39 : decode cX12_crowd 39 = .ok (.lstore 4, 2) := by decide +kernel
theorem dX12_crowd_41 : decode cX12_crowd 41 = .ok (.iconst 0, 1) := by decide +kernel
theorem dX12_crowd_42 : decode cX12_crowd 42 = .ok (.istore 6, 2) := by decide +kernel
theorem dX12_crowd_44 : decode cX12_crowd 44 = .ok (.iload 6, 2) := by decide +kernel
theorem dX12_crowd_46 : decode cX12_crowd 46 = .ok (.bipush 64, 2) := by decide +kernel
theorem dX12_crowd_48 : decode cX12_crowd 48 = .ok (.if_icmp .ge 17, 3) := by decide +kernel
theorem dX12_crowd_51 : decode cX12_crowd 51 = .ok (.aload_n 0, 1) := by decide +kernel
theorem dX12_crowd_52 : decode cX12_crowd 52 = .ok (.getfield 136, 3) := by decide +kernel
theorem dX12_crowd_55 : decode cX12_crowd 55 = .ok (.iload 6, 2) := by decide +kernel
theorem dX12_crowd_57 : decode cX12_crowd 57 = .ok (.iconst (-1), 1) := by decide +kernel
theorem dX12_crowd_58 : decode cX12_crowd 58 = .ok (.iastore, 1) := by decide +kernel
theorem dX12_crowd_59 : decode cX12_crowd 59 = .ok (.iinc 6 1, 3) := by decide +kernel
theorem dX12_crowd_62 : decode cX12_crowd 62 = .ok (.goto (-18), 3) := by decide +kernel
theorem dX12_crowd_65 : decode cX12_crowd 65 = .ok (.iconst 0, 1) := by decide +kernel
theorem dX12_crowd_66 : decode cX12_crowd 66 = .ok (.istore 6, 2) := by decide +kernel
theorem dX12_crowd_68 : decode cX12_crowd 68 = .ok (.iconst 0, 1) := by decide +kernel
theorem dX12_crowd_69 : decode cX12_crowd 69 = .ok (.istore 7, 2) := by decide +kernel
theorem dX12_crowd_71 : decode cX12_crowd 71 = .ok (.iload 7, 2) := by decide +kernel
theorem dX12_crowd_73 : decode cX12_crowd 73 = .ok (.aload_n 0, 1) := by decide +kernel
theorem dX12_crowd_74 : decode cX12_crowd 74 = .ok (.getfield 98, 3) := by decide +kernel
theorem dX12_crowd_77 : decode cX12_crowd 77 = .ok (.iconst 3, 1) := by decide +kernel
theorem dX12_crowd_78 : decode cX12_crowd 78 = .ok (.iaload, 1) := by decide +kernel
theorem dX12_crowd_79 : decode cX12_crowd 79 = .ok (.if_icmp .ge 99, 3) := by decide +kernel
theorem dX12_crowd_82 : decode cX12_crowd 82 = .ok (.aload_n 0, 1) := by decide +kernel
theorem dX12_crowd_83 : decode cX12_crowd 83 = .ok (.aload_n 0, 1) := by decide +kernel
theorem dX12_crowd_84 : decode cX12_crowd 84 = .ok (.getfield 98, 3) := by decide +kernel
theorem dX12_crowd_87 : decode cX12_crowd 87 = .ok (.bipush 116, 2) := by decide +kernel
theorem dX12_crowd_89 : decode cX12_crowd 89 = .ok (.iload 7, 2) := by decide +kernel
theorem dX12_crowd_91 : decode cX12_crowd 91 = .ok (.iadd, 1) := by decide +kernel
theorem dX12_crowd_92 : decode cX12_crowd 92 = .ok (.iaload, 1) := by decide +kernel
theorem dX12_crowd_93 : decode cX12_crowd 93 = .ok (.invokevirtual 326, 3) := by decide +kernel
theorem dX12_crowd_96 : decode cX12_crowd 96 = .ok (.aload_n 0, 1) := by decide +kernel
theorem dX12_crowd_97 : decode cX12_crowd 97 = .ok (.getfield 139, 3) := by decide +kernel
theorem dX12_crowd_100 : decode cX12_crowd 100 = .ok (.iload 7, 2) := by decide +kernel
theorem dX12_crowd_102 : decode cX12_crowd 102 = .ok (.lconst 0, 1) := by decide +kernel
theorem dX12_crowd_103 : decode cX12_crowd 103 = .ok (.lastore, 1) := by decide +kernel
theorem dX12_crowd_104 : decode cX12_crowd 104 = .ok (.iconst 0, 1) := by decide +kernel
theorem dX12_crowd_105 : decode cX12_crowd 105 = .ok (.istore 8, 2) := by decide +kernel
theorem dX12_crowd_107 : decode cX12_crowd 107 = .ok (.iload 8, 2) := by decide +kernel
theorem dX12_crowd_109 : decode cX12_crowd 109 = .ok (.bipush 64, 2) := by decide +kernel
theorem dX12_crowd_111 : decode cX12_crowd 111 = .ok (.if_icmp .ge 44, 3) := by decide +kernel
theorem dX12_crowd_114 : decode cX12_crowd 114 = .ok (.lload 4, 2) := by decide +kernel
theorem dX12_crowd_116 : decode cX12_crowd 116 = .ok (.iload 8, 2) := by decide +kernel
theorem dX12_crowd_118 : decode cX12_crowd 118 = .ok (.invokestatic 255, 3) := by decide +kernel
theorem dX12_crowd_121 : decode cX12_crowd 121 = .ok (.ifCond .eq 28, 3) := by decide +kernel
theorem dX12_crowd_124 : decode cX12_crowd 124 = .ok (.aload_n 0, 1) := by decide +kernel
theorem dX12_crowd_125 : decode cX12_crowd 125 = .ok (.getfield 130, 3) := by decide +kernel
theorem dX12_crowd_128 : decode cX12_crowd 128 = .ok (.iload 8, 2) := by decide +kernel
theorem dX12_crowd_130 : decode cX12_crowd 130 = .ok (.iaload, 1) := by decide +kernel
theorem dX12_crowd_131 : decode cX12_crowd 131 = .ok (.iload_n 3, 1) := by decide +kernel
theorem dX12_crowd_132 : decode cX12_crowd 132 = .ok (.if_icmp .gt 17, 3) := by decide +kernel
theorem dX12_crowd_135 : decode cX12_crowd 135 = .ok (.aload_n 0, 1) := by decide +kernel
theorem dX12_crowd_136 : decode cX12_crowd 136 = .ok (.getfield 139, 3) := by decide +kernel
theorem dX12_crowd_139 : decode cX12_crowd 139 = .ok (.iload 7, 2) := by decide +kernel
theorem dX12_crowd_141 : decode cX12_crowd 141 = .ok (.dup2, 1) := by decide +kernel
theorem dX12_crowd_142 : decode cX12_crowd 142 = .ok (.laload, 1) := by decide +kernel
theorem dX12_crowd_143 : decode cX12_crowd 143 = .ok (.lconst 1, 1) := by decide +kernel
theorem dX12_crowd_144 : decode cX12_crowd 144 = .ok (.iload 8, 2) := by decide +kernel
theorem dX12_crowd_146 : decode cX12_crowd 146 = .ok (.lshl, 1) := by decide +kernel
theorem dX12_crowd_147 : decode cX12_crowd 147 = .ok (.lor, 1) := by decide +kernel
theorem dX12_crowd_148 : decode cX12_crowd 148 = .ok (.lastore, 1) := by decide +kernel
theorem dX12_crowd_149 : decode cX12_crowd 149 = .ok (.iinc 8 1, 3) := by decide +kernel
theorem dX12_crowd_152 : decode cX12_crowd 152 = .ok (.goto (-45), 3) := by decide +kernel
theorem dX12_crowd_155 : decode cX12_crowd 155 = .ok (.aload_n 0, 1) := by decide +kernel
theorem dX12_crowd_156 : decode cX12_crowd 156 = .ok (.lconst 0, 1) := by decide +kernel
theorem dX12_crowd_157 : decode cX12_crowd 157 = .ok (.putfield 329, 3) := by decide +kernel
theorem dX12_crowd_160 : decode cX12_crowd 160 = .ok (.aload_n 0, 1) := by decide +kernel
theorem dX12_crowd_161 : decode cX12_crowd 161 = .ok (.iload 7, 2) := by decide +kernel
theorem dX12_crowd_163 : decode cX12_crowd 163 = .ok (.invokevirtual 334, 3) := by decide +kernel
theorem dX12_crowd_166 : decode cX12_crowd 166 = .ok (.ifCond .eq 6, 3) := by decide +kernel
theorem dX12_crowd_169 : decode cX12_crowd 169 = .ok (.iinc 6 1, 3) := by decide +kernel
theorem dX12_crowd_172 : decode cX12_crowd 172 = .ok (.iinc 7 1, 3) := by decide +kernel
theorem dX12_crowd_175 : decode cX12_crowd 175 = .ok (.goto (-104), 3) := by decide +kernel
theorem dX12_crowd_178 : decode cX12_crowd 178 = .ok (.iload 6, 2) := by decide +kernel
theorem dX12_crowd_180 : decode cX12_crowd 180 = .ok (.ireturn, 1) := by decide +kernel
theorem dX12_doBury_0 : decode cX12_doBury 0 = .ok (.aload_n 0, 1) := by decide +kernel
theorem dX12_doBury_1 : decode cX12_doBury 1 = .ok (.iload_n 1, 1) := by decide +kernel
theorem dX12_doBury_2 : decode cX12_doBury 2 = .ok (.aload_n 0, 1) := by decide +kernel
theorem dX12_doBury_3 : decode cX12_doBury 3 = .ok (.invokevirtual 259, 3) := by decide +kernel
theorem dX12_doBury_6 : decode cX12_doBury 6 = .ok (.invokevirtual 277, 3) := by decide +kernel
theorem dX12_doBury_9 : decode cX12_doBury 9 = .ok (.istore_n 2, 1) := by decide +kernel
theorem dX12_doBury_10 : decode cX12_doBury 10 = .ok (.iload_n 2, 1) := by decide +kernel
theorem dX12_doBury_11 : decode cX12_doBury 11 = .ok (.ifCond .ne 7, 3) := by decide +kernel
theorem dX12_doBury_14 : decode cX12_doBury 14 = .ok (.iconst 0, 1) := by decide +kernel
theorem dX12_doBury_15 : decode cX12_doBury 15 = .ok (.goto 17, 3) := by decide +kernel
theorem dX12_doBury_18 : decode cX12_doBury 18 = .ok (.aload_n 0, 1) := by decide +kernel
theorem dX12_doBury_19 : decode cX12_doBury 19 = .ok (.getfield 98, 3) := by decide +kernel
theorem dX12_doBury_22 : decode cX12_doBury 22 = .ok (.bipush 111, 2) := by decide +kernel
theorem dX12_doBury_24 : decode cX12_doBury 24 = .ok (.iload_n 1, 1) := by decide +kernel
theorem dX12_doBury_25 : decode cX12_doBury 25 = .ok (.iadd, 1) := by decide +kernel
theorem dX12_doBury_26 : decode cX12_doBury 26 = .ok (.iaload, 1) := by decide +kernel
theorem dX12_doBury_27 : decode cX12_doBury 27 = .ok (.iload_n 2, 1) := by decide +kernel
theorem dX12_doBury_28 : decode cX12_doBury 28 = .ok (.invokestatic 295, 3) := by decide +kernel
theorem dX12_doBury_31 : decode cX12_doBury 31 = .ok (.idiv, 1) := by decide +kernel
theorem dX12_doBury_32 : decode cX12_doBury 32 = .ok (.istore_n 3, 1) := by decide +kernel
theorem dX12_doBury_33 : decode cX12_doBury 33 = .ok (.iconst 0, 1) := by decide +kernel
theorem dX12_doBury_34 : decode cX12_doBury 34 = .ok (.istore 4, 2) := by decide +kernel
theorem dX12_doBury_36 : decode cX12_doBury 36 = .ok (.iload 4, 2) := by decide +kernel
theorem dX12_doBury_38 : decode cX12_doBury 38 = .ok (.bipush 6, 2) := by decide +kernel
theorem dX12_doBury_40 : decode cX12_doBury 40 = .ok (.if_icmp .ge 32, 3) := by decide +kernel
theorem dX12_doBury_43 : decode cX12_doBury 43 = .ok (.iload_n 2, 1) := by decide +kernel
theorem dX12_doBury_44 : decode cX12_doBury 44 = .ok (.iload 4, 2) := by decide +kernel
theorem dX12_doBury_46 : decode cX12_doBury 46 = .ok (.invokestatic 235, 3) := by decide +kernel
theorem dX12_doBury_49 : decode cX12_doBury 49 = .ok (.ifCond .eq 17, 3) := by decide +kernel
theorem dX12_doBury_52 : decode cX12_doBury 52 = .ok (.aload_n 0, 1) := by decide +kernel
theorem dX12_doBury_53 : decode cX12_doBury 53 = .ok (.getfield 98, 3) := by decide +kernel
theorem dX12_doBury_56 : decode cX12_doBury 56 = .ok (.bipush 122, 2) := by decide +kernel
theorem dX12_doBury_58 : decode cX12_doBury 58 = .ok (.iload 4, 2) := by decide +kernel
theorem dX12_doBury_60 : decode cX12_doBury 60 = .ok (.iadd, 1) := by decide +kernel
theorem dX12_doBury_61 : decode cX12_doBury 61 = .ok (.dup2, 1) := by decide +kernel
theorem dX12_doBury_62 : decode cX12_doBury 62 = .ok (.iaload, 1) := by decide +kernel
theorem dX12_doBury_63 : decode cX12_doBury 63 = .ok (.iload_n 3, 1) := by decide +kernel
theorem dX12_doBury_64 : decode cX12_doBury 64 = .ok (.iadd, 1) := by decide +kernel
theorem dX12_doBury_65 : decode cX12_doBury 65 = .ok (.iastore, 1) := by decide +kernel
theorem dX12_doBury_66 : decode cX12_doBury 66 = .ok (.iinc 4 1, 3) := by decide +kernel
theorem dX12_doBury_69 : decode cX12_doBury 69 = .ok (.goto (-33), 3) := by decide +kernel
theorem dX12_doBury_72 : decode cX12_doBury 72 = .ok (.aload_n 0, 1) := by decide +kernel
theorem dX12_doBury_73 : decode cX12_doBury 73 = .ok (.getfield 98, 3) := by decide +kernel
theorem dX12_doBury_76 : decode cX12_doBury 76 = .ok (.bipush 108, 2) := by decide +kernel
theorem dX12_doBury_78 : decode cX12_doBury 78 = .ok (.dup2, 1) := by decide +kernel
theorem dX12_doBury_79 : decode cX12_doBury 79 = .ok (.iaload, 1) := by decide +kernel
theorem dX12_doBury_80 : decode cX12_doBury 80 = .ok (.aload_n 0, 1) := by decide +kernel
theorem dX12_doBury_81 : decode cX12_doBury 81 = .ok (.getfield 98, 3) := by decide +kernel
theorem dX12_doBury_84 : decode cX12_doBury 84 = .ok (.bipush 111, 2) := by decide +kernel
theorem dX12_doBury_86 : decode cX12_doBury 86 = .ok (.iload_n 1, 1) := by decide +kernel
theorem dX12_doBury_87 : decode cX12_doBury 87 = .ok (.iadd, 1) := by decide +kernel
theorem dX12_doBury_88 : decode cX12_doBury 88 = .ok (.iaload, 1) := by decide +kernel
theorem dX12_doBury_89 : decode cX12_doBury 89 = .ok (.iload_n 3, 1) := by decide +kernel
theorem dX12_doBury_90 : decode cX12_doBury 90 = .ok (.iload_n 2, 1) := by decide +kernel
theorem dX12_doBury_91 : decode cX12_doBury 91 = .ok (.invokestatic 295, 3) := by decide +kernel
theorem dX12_doBury_94 : decode cX12_doBury 94 = .ok (.imul, 1) := by decide +kernel
theorem dX12_doBury_95 : decode cX12_doBury 95 = .ok (.isub, 1) := by decide +kernel
theorem dX12_doBury_96 : decode cX12_doBury 96 = .ok (.iadd, 1) := by decide +kernel
theorem dX12_doBury_97 : decode cX12_doBury 97 = .ok (.iastore, 1) := by decide +kernel
theorem dX12_doBury_98 : decode cX12_doBury 98 = .ok (.aload_n 0, 1) := by decide +kernel
theorem dX12_doBury_99 : decode cX12_doBury 99 = .ok (.getfield 98, 3) := by decide +kernel
theorem dX12_doBury_102 : decode cX12_doBury 102 = .ok (.bipush 111, 2) := by decide +kernel
theorem dX12_doBury_104 : decode cX12_doBury 104 = .ok (.iload_n 1, 1) := by decide +kernel
theorem dX12_doBury_105 : decode cX12_doBury 105 = .ok (.iadd, 1) := by decide +kernel
theorem dX12_doBury_106 : decode cX12_doBury 106 = .ok (.iconst 0, 1) := by decide +kernel
theorem dX12_doBury_107 : decode cX12_doBury 107 = .ok (.iastore, 1) := by decide +kernel
theorem dX12_doBury_108 : decode cX12_doBury 108 = .ok (.aload_n 0, 1) := by decide +kernel
theorem dX12_doBury_109 : decode cX12_doBury 109 = .ok (.getfield 98, 3) := by decide +kernel
theorem dX12_doBury_112 : decode cX12_doBury 112 = .ok (.bipush 107, 2) := by decide +kernel
theorem dX12_doBury_114 : decode cX12_doBury 114 = .ok (.dup2, 1) := by decide +kernel
theorem dX12_doBury_115 : decode cX12_doBury 115 = .ok (.iaload, 1) := by decide +kernel
theorem dX12_doBury_116 : decode cX12_doBury 116 = .ok (.iconst 1, 1) := by decide +kernel
theorem dX12_doBury_117 : decode cX12_doBury 117 = .ok (.iload_n 1, 1) := by decide +kernel
theorem dX12_doBury_118 : decode cX12_doBury 118 = .ok (.ishl, 1) := by decide +kernel
theorem dX12_doBury_119 : decode cX12_doBury 119 = .ok (.ior, 1) := by decide +kernel
theorem dX12_doBury_120 : decode cX12_doBury 120 = .ok (.iastore, 1) := by decide +kernel
theorem dX12_doBury_121 : decode cX12_doBury 121 = .ok (.return_, 1) := by decide +kernel
theorem dX12_doIf_0 : decode cX12_doIf 0 = .ok (.aload_n 0, 1) := by decide +kernel
theorem dX12_doIf_1 : decode cX12_doIf 1 = .ok (.iload_n 1, 1) := by decide +kernel
theorem dX12_doIf_2 : decode cX12_doIf 2 = .ok (.iload_n 2, 1) := by decide +kernel
theorem dX12_doIf_3 : decode cX12_doIf 3 = .ok (.iload_n 3, 1) := by decide +kernel
theorem dX12_doIf_4 : decode cX12_doIf 4 = .ok (.invokevirtual 301, 3) := by decide +kernel
theorem dX12_doIf_7 : decode cX12_doIf 7 = .ok (.ifCond .ne 10, 3) := by decide +kernel
theorem dX12_doIf_10 : decode cX12_doIf 10 = .ok (.aload_n 0, 1) := by decide +kernel
theorem dX12_doIf_11 : decode cX12_doIf 11 = .ok (.iload_n 1, 1) := by decide +kernel
theorem dX12_doIf_12 : decode cX12_doIf 12 = .ok (.iload_n 2, 1) := by decide +kernel
theorem dX12_doIf_13 : decode cX12_doIf 13 = .ok (.iload_n 3, 1) := by decide +kernel
theorem dX12_doIf_14 : decode cX12_doIf 14 = .ok (.invokevirtual 308, 3) := by decide +kernel
theorem dX12_doIf_17 : decode cX12_doIf 17 = .ok (.return_, 1) := by decide +kernel
theorem dX12_draw_0 : decode cX12_draw 0 = .ok (.aload_n 0, 1) := by decide +kernel
theorem dX12_draw_1 : decode cX12_draw 1 = .ok (.aload_n 0, 1) := by decide +kernel
theorem dX12_draw_2 : decode cX12_draw 2 = .ok (.getfield 365, 3) := by decide +kernel
theorem dX12_draw_5 : decode cX12_draw 5 = .ok (.ldc_w 368, 3) := by decide +kernel
theorem dX12_draw_8 : decode cX12_draw 8 = .ok (.imul, 1) := by decide +kernel
theorem dX12_draw_9 : decode cX12_draw 9 = .ok (.sipush 12345, 3) := by decide +kernel
theorem dX12_draw_12 : decode cX12_draw 12 = .ok (.iadd, 1) := by decide +kernel
theorem dX12_draw_13 : decode cX12_draw 13 = .ok (.putfield 365, 3) := by decide +kernel
theorem dX12_draw_16 : decode cX12_draw 16 = .ok (.aload_n 0, 1) := by decide +kernel
theorem dX12_draw_17 : decode cX12_draw 17 = .ok (.getfield 365, 3) := by decide +kernel
theorem dX12_draw_20 : decode cX12_draw 20 = .ok (.bipush 8, 2) := by decide +kernel
theorem dX12_draw_22 : decode cX12_draw 22 = .ok (.iushr, 1) := by decide +kernel
theorem dX12_draw_23 : decode cX12_draw 23 = .ok (.iload_n 1, 1) := by decide +kernel
theorem dX12_draw_24 : decode cX12_draw 24 = .ok (.irem, 1) := by decide +kernel
theorem dX12_draw_25 : decode cX12_draw 25 = .ok (.ireturn, 1) := by decide +kernel
theorem dX12_drawHours_0 : decode cX12_drawHours 0 = .ok (.aload_n 0, 1) := by decide +kernel
theorem dX12_drawHours_1 : decode cX12_drawHours 1 = .ok (.iload_n 2, 1) := by decide +kernel
theorem dX12_drawHours_2 : decode cX12_drawHours 2 = .ok (.putfield 365, 3) := by decide +kernel
theorem dX12_drawHours_5 : decode cX12_drawHours 5 = .ok (.iload_n 1, 1) := by decide +kernel
theorem dX12_drawHours_6 : decode cX12_drawHours 6 = .ok (.sipush 400, 3) := by decide +kernel
theorem dX12_drawHours_9 : decode cX12_drawHours 9 = .ok (.aload_n 0, 1) := by decide +kernel
theorem dX12_drawHours_10 : decode cX12_drawHours 10 = .ok (.getfield 98, 3) := by decide +kernel
theorem dX12_drawHours_13 : decode cX12_drawHours 13 = .ok (.bipush 106, 2) := by decide +kernel
theorem dX12_drawHours_15 : decode cX12_drawHours 15 = .ok (.iaload, 1) := by decide +kernel
theorem dX12_drawHours_16 : decode cX12_drawHours 16 = .ok (.isub, 1) := by decide +kernel
theorem dX12_drawHours_17 : decode cX12_drawHours 17 = .ok (.invokestatic 316, 3) := by decide +kernel
theorem dX12_drawHours_20 : decode cX12_drawHours 20 = .ok (.istore_n 3, 1) := by decide +kernel
theorem dX12_drawHours_21 : decode cX12_drawHours 21 = .ok (.iconst 0, 1) := by decide +kernel
theorem dX12_drawHours_22 : decode cX12_drawHours 22 = .ok (.istore 4, 2) := by decide +kernel
theorem dX12_drawHours_24 : decode cX12_drawHours 24 = .ok (.iload 4, 2) := by decide +kernel
theorem dX12_drawHours_26 : decode cX12_drawHours 26 = .ok (.iload_n 3, 1) := by decide +kernel
theorem dX12_drawHours_27 : decode cX12_drawHours 27 = .ok (.if_icmp .ge 80, 3) := by decide +kernel
theorem dX12_drawHours_30 : decode cX12_drawHours 30 = .ok (.iconst 0, 1) := by decide +kernel
theorem dX12_drawHours_31 : decode cX12_drawHours 31 = .ok (.istore 5, 2) := by decide +kernel
theorem dX12_drawHours_33 : decode cX12_drawHours 33 = .ok (.iload 5, 2) := by decide +kernel
theorem dX12_drawHours_35 : decode cX12_drawHours 35 = .ok (.aload_n 0, 1) := by decide +kernel
theorem dX12_drawHours_36 : decode cX12_drawHours 36 = .ok (.getfield 98, 3) := by decide +kernel
theorem dX12_drawHours_39 : decode cX12_drawHours 39 = .ok (.iconst 3, 1) := by decide +kernel
theorem dX12_drawHours_40 : decode cX12_drawHours 40 = .ok (.iaload, 1) := by decide +kernel
theorem dX12_drawHours_41 : decode cX12_drawHours 41 = .ok (.if_icmp .ge 15, 3) := by decide +kernel
theorem dX12_drawHours_44 : decode cX12_drawHours 44 = .ok (.aload_n 0, 1) := by decide +kernel
theorem dX12_drawHours_45 : decode cX12_drawHours 45 = .ok (.iload 5, 2) := by decide +kernel
theorem dX12_drawHours_47 : decode cX12_drawHours 47 = .ok (.invokevirtual 375, 3) := by decide +kernel
theorem dX12_drawHours_50 : decode cX12_drawHours 50 = .ok (.iinc 5 1, 3) := by decide +kernel
theorem dX12_drawHours_53 : decode cX12_drawHours 53 = .ok (.goto (-20), 3) := by decide +kernel
theorem dX12_drawHours_56 : decode cX12_drawHours 56 = .ok (.aload_n 0, 1) := by decide +kernel
theorem dX12_drawHours_57 : decode cX12_drawHours 57 = .ok (.bipush 10, 2) := by decide +kernel
theorem dX12_drawHours_59 : decode cX12_drawHours 59 = .ok (.invokevirtual 369, 3) := by decide +kernel
theorem dX12_drawHours_62 : decode cX12_drawHours 62 = .ok (.ifCond .ne 28, 3) := by decide +kernel
theorem dX12_drawHours_65 : decode cX12_drawHours 65 = .ok (.aload_n 0, 1) := by decide +kernel
theorem dX12_drawHours_66 : decode cX12_drawHours 66 = .ok (.getfield 98, 3) := by decide +kernel
theorem dX12_drawHours_69 : decode cX12_drawHours 69 = .ok (.iconst 2, 1) := by decide +kernel
theorem dX12_drawHours_70 : decode cX12_drawHours 70 = .ok (.iaload, 1) := by decide +kernel
theorem dX12_drawHours_71 : decode cX12_drawHours 71 = .ok (.ifCond .le 19, 3) := by decide +kernel
theorem dX12_drawHours_74 : decode cX12_drawHours 74 = .ok (.aload_n 0, 1) := by decide +kernel
theorem dX12_drawHours_75 : decode cX12_drawHours 75 = .ok (.iconst 3, 1) := by decide +kernel
theorem dX12_drawHours_76 : decode cX12_drawHours 76 = .ok (.aload_n 0, 1) := by decide +kernel
theorem dX12_drawHours_77 : decode cX12_drawHours 77 = .ok (.aload_n 0, 1) := by decide +kernel
theorem dX12_drawHours_78 : decode cX12_drawHours 78 = .ok (.getfield 98, 3) := by decide +kernel
theorem dX12_drawHours_81 : decode cX12_drawHours 81 = .ok (.iconst 2, 1) := by decide +kernel
theorem dX12_drawHours_82 : decode cX12_drawHours 82 = .ok (.iaload, 1) := by decide +kernel
theorem dX12_drawHours_83 : decode cX12_drawHours 83 = .ok (.invokevirtual 369, 3) := by decide +kernel
theorem dX12_drawHours_86 : decode cX12_drawHours 86 = .ok (.iconst 0, 1) := by decide +kernel
theorem dX12_drawHours_87 : decode cX12_drawHours 87 = .ok (.invokevirtual 372, 3) := by decide +kernel
theorem dX12_drawHours_90 : decode cX12_drawHours 90 = .ok (.aload_n 0, 1) := by decide +kernel
theorem dX12_drawHours_91 : decode cX12_drawHours 91 = .ok (.getfield 98, 3) := by decide +kernel
theorem dX12_drawHours_94 : decode cX12_drawHours 94 = .ok (.bipush 106, 2) := by decide +kernel
theorem dX12_drawHours_96 : decode cX12_drawHours 96 = .ok (.dup2, 1) := by decide +kernel
theorem dX12_drawHours_97 : decode cX12_drawHours 97 = .ok (.iaload, 1) := by decide +kernel
theorem dX12_drawHours_98 : decode cX12_drawHours 98 = .ok (.iconst 1, 1) := by decide +kernel
theorem dX12_drawHours_99 : decode cX12_drawHours 99 = .ok (.iadd, 1) := by decide +kernel
theorem dX12_drawHours_100 : decode cX12_drawHours 100 = .ok (.iastore, 1) := by decide +kernel
theorem dX12_drawHours_101 : decode cX12_drawHours 101 = .ok (.iinc 4 1, 3) := by decide +kernel
theorem dX12_drawHours_104 : decode cX12_drawHours 104 = .ok (.goto (-80), 3) := by decide +kernel
theorem dX12_drawHours_107 : decode cX12_drawHours 107 = .ok (.iload_n 3, 1) := by decide +kernel
theorem dX12_drawHours_108 : decode cX12_drawHours 108 = .ok (.ireturn, 1) := by decide +kernel
theorem dX12_drawn_0 : decode cX12_drawn 0 = .ok (.aload_n 0, 1) := by decide +kernel
theorem dX12_drawn_1 : decode cX12_drawn 1 = .ok (.iconst 0, 1) := by decide +kernel
theorem dX12_drawn_2 : decode cX12_drawn 2 = .ok (.putfield 1, 3) := by decide +kernel
theorem dX12_drawn_5 : decode cX12_drawn 5 = .ok (.iload_n 1, 1) := by decide +kernel
theorem dX12_drawn_6 : decode cX12_drawn 6 = .ok (.iconst 1, 1) := by decide +kernel
