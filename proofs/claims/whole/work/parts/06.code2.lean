theorem dX12_readSaid_70 : decode cX12_readSaid 70 = .ok (.aload_n 0, 1) := by decide +kernel
theorem dX12_readSaid_71 : decode cX12_readSaid 71 = .ok (.dup, 1) := by decide +kernel
theorem dX12_readSaid_72 : decode cX12_readSaid 72 = .ok (.getfield 428, 3) := by decide +kernel
theorem dX12_readSaid_75 : decode cX12_readSaid 75 = .ok (.iconst 1, 1) := by decide +kernel
theorem dX12_readSaid_76 : decode cX12_readSaid 76 = .ok (.iadd, 1) := by decide +kernel
theorem dX12_readSaid_77 : decode cX12_readSaid 77 = .ok (.putfield 428, 3) := by decide +kernel
theorem dX12_readSaid_80 : decode cX12_readSaid 80 = .ok (.aload_n 0, 1) := by decide +kernel
theorem dX12_readSaid_81 : decode cX12_readSaid 81 = .ok (.dup, 1) := by decide +kernel
theorem dX12_readSaid_82 : decode cX12_readSaid 82 = .ok (.getfield 431, 3) := by decide +kernel
theorem dX12_readSaid_85 : decode cX12_readSaid 85 = .ok (.iconst 1, 1) := by decide +kernel
theorem dX12_readSaid_86 : decode cX12_readSaid 86 = .ok (.iadd, 1) := by decide +kernel
theorem dX12_readSaid_87 : decode cX12_readSaid 87 = .ok (.putfield 431, 3) := by decide +kernel
theorem dX12_readSaid_90 : decode cX12_readSaid 90 = .ok (.aload_n 0, 1) := by decide +kernel
theorem dX12_readSaid_91 : decode cX12_readSaid 91 = .ok (.invokevirtual 82, 3) := by decide +kernel
theorem dX12_readSaid_94 : decode cX12_readSaid 94 = .ok (.iconst 1, 1) := by decide +kernel
theorem dX12_readSaid_95 : decode cX12_readSaid 95 = .ok (.istore_n 3, 1) := by decide +kernel
theorem dX12_readSaid_96 : decode cX12_readSaid 96 = .ok (.iload_n 1, 1) := by decide +kernel
theorem dX12_readSaid_97 : decode cX12_readSaid 97 = .ok (.ifCond .eq 11, 3) := by decide +kernel
theorem dX12_readSaid_100 : decode cX12_readSaid 100 = .ok (.aload_n 0, 1) := by decide +kernel
theorem dX12_readSaid_101 : decode cX12_readSaid 101 = .ok (.invokevirtual 434, 3) := by decide +kernel
theorem dX12_readSaid_104 : decode cX12_readSaid 104 = .ok (.istore_n 3, 1) := by decide +kernel
theorem dX12_readSaid_105 : decode cX12_readSaid 105 = .ok (.goto 61, 3) := by decide +kernel
theorem dX12_readSaid_108 : decode cX12_readSaid 108 = .ok (.iload_n 2, 1) := by decide +kernel
theorem dX12_readSaid_109 : decode cX12_readSaid 109 = .ok (.bipush 15, 2) := by decide +kernel
theorem dX12_readSaid_111 : decode cX12_readSaid 111 = .ok (.if_icmp .ne 11, 3) := by decide +kernel
theorem dX12_readSaid_114 : decode cX12_readSaid 114 = .ok (.aload_n 0, 1) := by decide +kernel
theorem dX12_readSaid_115 : decode cX12_readSaid 115 = .ok (.invokevirtual 437, 3) := by decide +kernel
theorem dX12_readSaid_118 : decode cX12_readSaid 118 = .ok (.istore_n 3, 1) := by decide +kernel
theorem dX12_readSaid_119 : decode cX12_readSaid 119 = .ok (.goto 47, 3) := by decide +kernel
theorem dX12_readSaid_122 : decode cX12_readSaid 122 = .ok (.iload_n 2, 1) := by decide +kernel
theorem dX12_readSaid_123 : decode cX12_readSaid 123 = .ok (.bipush 19, 2) := by decide +kernel
theorem dX12_readSaid_125 : decode cX12_readSaid 125 = .ok (.if_icmp .ge 21, 3) := by decide +kernel
theorem dX12_readSaid_128 : decode cX12_readSaid 128 = .ok (.aload_n 0, 1) := by decide +kernel
theorem dX12_readSaid_129 : decode cX12_readSaid 129 = .ok (.aload_n 0, 1) := by decide +kernel
theorem dX12_readSaid_130 : decode cX12_readSaid 130 = .ok (.bipush 50, 2) := by decide +kernel
theorem dX12_readSaid_132 : decode cX12_readSaid 132 = .ok (.iload_n 2, 1) := by decide +kernel
theorem dX12_readSaid_133 : decode cX12_readSaid 133 = .ok (.iadd, 1) := by decide +kernel
theorem dX12_readSaid_134 : decode cX12_readSaid 134 = .ok (.iconst 0, 1) := by decide +kernel
theorem dX12_readSaid_135 : decode cX12_readSaid 135 = .ok (.iconst 0, 1) := by decide +kernel
theorem dX12_readSaid_136 : decode cX12_readSaid 136 = .ok (.iconst 0, 1) := by decide +kernel
theorem dX12_readSaid_137 : decode cX12_readSaid 137 = .ok (.invokevirtual 421, 3) := by decide +kernel
theorem dX12_readSaid_140 : decode cX12_readSaid 140 = .ok (.putfield 418, 3) := by decide +kernel
theorem dX12_readSaid_143 : decode cX12_readSaid 143 = .ok (.goto 23, 3) := by decide +kernel
theorem dX12_readSaid_146 : decode cX12_readSaid 146 = .ok (.iload_n 2, 1) := by decide +kernel
theorem dX12_readSaid_147 : decode cX12_readSaid 147 = .ok (.bipush 20, 2) := by decide +kernel
theorem dX12_readSaid_149 : decode cX12_readSaid 149 = .ok (.if_icmp .ge 11, 3) := by decide +kernel
theorem dX12_readSaid_152 : decode cX12_readSaid 152 = .ok (.aload_n 0, 1) := by decide +kernel
theorem dX12_readSaid_153 : decode cX12_readSaid 153 = .ok (.iload_n 2, 1) := by decide +kernel
theorem dX12_readSaid_154 : decode cX12_readSaid 154 = .ok (.invokevirtual 440, 3) := by decide +kernel
theorem dX12_readSaid_157 : decode cX12_readSaid 157 = .ok (.goto 8, 3) := by decide +kernel
theorem dX12_readSaid_160 : decode cX12_readSaid 160 = .ok (.aload_n 0, 1) := by decide +kernel
theorem dX12_readSaid_161 : decode cX12_readSaid 161 = .ok (.iload_n 2, 1) := by decide +kernel
theorem dX12_readSaid_162 : decode cX12_readSaid 162 = .ok (.invokevirtual 443, 3) := by decide +kernel
theorem dX12_readSaid_165 : decode cX12_readSaid 165 = .ok (.istore_n 3, 1) := by decide +kernel
theorem dX12_readSaid_166 : decode cX12_readSaid 166 = .ok (.aload_n 0, 1) := by decide +kernel
theorem dX12_readSaid_167 : decode cX12_readSaid 167 = .ok (.dup, 1) := by decide +kernel
theorem dX12_readSaid_168 : decode cX12_readSaid 168 = .ok (.getfield 431, 3) := by decide +kernel
theorem dX12_readSaid_171 : decode cX12_readSaid 171 = .ok (.iconst 1, 1) := by decide +kernel
theorem dX12_readSaid_172 : decode cX12_readSaid 172 = .ok (.isub, 1) := by decide +kernel
theorem dX12_readSaid_173 : decode cX12_readSaid 173 = .ok (.putfield 431, 3) := by decide +kernel
theorem dX12_readSaid_176 : decode cX12_readSaid 176 = .ok (.iload_n 3, 1) := by decide +kernel
theorem dX12_readSaid_177 : decode cX12_readSaid 177 = .ok (.ireturn, 1) := by decide +kernel
theorem dX12_readSide_0 : decode cX12_readSide 0 = .ok (.iconst 5, 1) := by decide +kernel
theorem dX12_readSide_1 : decode cX12_readSide 1 = .ok (.istore_n 1, 1) := by decide +kernel
theorem dX12_readSide_2 : decode cX12_readSide 2 = .ok (.iload_n 1, 1) := by decide +kernel
theorem dX12_readSide_3 : decode cX12_readSide 3 = .ok (.bipush 8, 2) := by decide +kernel
theorem dX12_readSide_5 : decode cX12_readSide 5 = .ok (.if_icmp .gt 17, 3) := by decide +kernel
theorem dX12_readSide_8 : decode cX12_readSide 8 = .ok (.aload_n 0, 1) := by decide +kernel
theorem dX12_readSide_9 : decode cX12_readSide 9 = .ok (.iload_n 1, 1) := by decide +kernel
theorem dX12_readSide_10 : decode cX12_readSide 10 = .ok (.invokevirtual 174, 3) := by decide +kernel
theorem dX12_readSide_13 : decode cX12_readSide 13 = .ok (.ifCond .ne 9, 3) := by decide +kernel
theorem dX12_readSide_16 : decode cX12_readSide 16 = .ok (.iinc 1 1, 3) := by decide +kernel
theorem dX12_readSide_19 : decode cX12_readSide 19 = .ok (.goto (-17), 3) := by decide +kernel
theorem dX12_readSide_22 : decode cX12_readSide 22 = .ok (.iload_n 1, 1) := by decide +kernel
theorem dX12_readSide_23 : decode cX12_readSide 23 = .ok (.bipush 8, 2) := by decide +kernel
theorem dX12_readSide_25 : decode cX12_readSide 25 = .ok (.if_icmp .le 9, 3) := by decide +kernel
theorem dX12_readSide_28 : decode cX12_readSide 28 = .ok (.aload_n 0, 1) := by decide +kernel
theorem dX12_readSide_29 : decode cX12_readSide 29 = .ok (.iconst 1, 1) := by decide +kernel
theorem dX12_readSide_30 : decode cX12_readSide 30 = .ok (.invokevirtual 72, 3) := by decide +kernel
theorem dX12_readSide_33 : decode cX12_readSide 33 = .ok (.ireturn, 1) := by decide +kernel
theorem dX12_readSide_34 : decode cX12_readSide 34 = .ok (.aload_n 0, 1) := by decide +kernel
theorem dX12_readSide_35 : decode cX12_readSide 35 = .ok (.iload_n 1, 1) := by decide +kernel
theorem dX12_readSide_36 : decode cX12_readSide 36 = .ok (.iconst 5, 1) := by decide +kernel
theorem dX12_readSide_37 : decode cX12_readSide 37 = .ok (.isub, 1) := by decide +kernel
theorem dX12_readSide_38 : decode cX12_readSide 38 = .ok (.putfield 79, 3) := by decide +kernel
theorem dX12_readSide_41 : decode cX12_readSide 41 = .ok (.aload_n 0, 1) := by decide +kernel
theorem dX12_readSide_42 : decode cX12_readSide 42 = .ok (.invokevirtual 82, 3) := by decide +kernel
theorem dX12_readSide_45 : decode cX12_readSide 45 = .ok (.iconst 1, 1) := by decide +kernel
theorem dX12_readSide_46 : decode cX12_readSide 46 = .ok (.ireturn, 1) := by decide +kernel
theorem dX12_readStones_0 : decode cX12_readStones 0 = .ok (.aload_n 0, 1) := by decide +kernel
theorem dX12_readStones_1 : decode cX12_readStones 1 = .ok (.invokevirtual 82, 3) := by decide +kernel
theorem dX12_readStones_4 : decode cX12_readStones 4 = .ok (.aload_n 0, 1) := by decide +kernel
theorem dX12_readStones_5 : decode cX12_readStones 5 = .ok (.iconst 0, 1) := by decide +kernel
theorem dX12_readStones_6 : decode cX12_readStones 6 = .ok (.invokevirtual 195, 3) := by decide +kernel
theorem dX12_readStones_9 : decode cX12_readStones 9 = .ok (.ifCond .ne 5, 3) := by decide +kernel
theorem dX12_readStones_12 : decode cX12_readStones 12 = .ok (.iconst 0, 1) := by decide +kernel
theorem dX12_readStones_13 : decode cX12_readStones 13 = .ok (.ireturn, 1) := by decide +kernel
theorem dX12_readStones_14 : decode cX12_readStones 14 = .ok (.aload_n 0, 1) := by decide +kernel
theorem dX12_readStones_15 : decode cX12_readStones 15 = .ok (.getfield 79, 3) := by decide +kernel
theorem dX12_readStones_18 : decode cX12_readStones 18 = .ok (.istore_n 1, 1) := by decide +kernel
theorem dX12_readStones_19 : decode cX12_readStones 19 = .ok (.aload_n 0, 1) := by decide +kernel
theorem dX12_readStones_20 : decode cX12_readStones 20 = .ok (.bipush 42, 2) := by decide +kernel
theorem dX12_readStones_22 : decode cX12_readStones 22 = .ok (.iload_n 1, 1) := by decide +kernel
theorem dX12_readStones_23 : decode cX12_readStones 23 = .ok (.iadd, 1) := by decide +kernel
theorem dX12_readStones_24 : decode cX12_readStones 24 = .ok (.aload_n 0, 1) := by decide +kernel
theorem dX12_readStones_25 : decode cX12_readStones 25 = .ok (.iconst 1, 1) := by decide +kernel
theorem dX12_readStones_26 : decode cX12_readStones 26 = .ok (.bipush 9, 2) := by decide +kernel
theorem dX12_readStones_28 : decode cX12_readStones 28 = .ok (.invokevirtual 184, 3) := by decide +kernel
theorem dX12_readStones_31 : decode cX12_readStones 31 = .ok (.invokevirtual 188, 3) := by decide +kernel
theorem dX12_readStones_34 : decode cX12_readStones 34 = .ok (.ireturn, 1) := by decide +kernel
theorem dX12_readSun_0 : decode cX12_readSun 0 = .ok (.aload_n 0, 1) := by decide +kernel
theorem dX12_readSun_1 : decode cX12_readSun 1 = .ok (.iconst 4, 1) := by decide +kernel
theorem dX12_readSun_2 : decode cX12_readSun 2 = .ok (.bipush 8, 2) := by decide +kernel
theorem dX12_readSun_4 : decode cX12_readSun 4 = .ok (.invokevirtual 199, 3) := by decide +kernel
theorem dX12_readSun_7 : decode cX12_readSun 7 = .ok (.ifCond .ne 5, 3) := by decide +kernel
theorem dX12_readSun_10 : decode cX12_readSun 10 = .ok (.iconst 0, 1) := by decide +kernel
theorem dX12_readSun_11 : decode cX12_readSun 11 = .ok (.ireturn, 1) := by decide +kernel
theorem dX12_readSun_12 : decode cX12_readSun 12 = .ok (.aload_n 0, 1) := by decide +kernel
theorem dX12_readSun_13 : decode cX12_readSun 13 = .ok (.getfield 101, 3) := by decide +kernel
theorem dX12_readSun_16 : decode cX12_readSun 16 = .ok (.iconst 4, 1) := by decide +kernel
theorem dX12_readSun_17 : decode cX12_readSun 17 = .ok (.iaload, 1) := by decide +kernel
theorem dX12_readSun_18 : decode cX12_readSun 18 = .ok (.istore_n 1, 1) := by decide +kernel
theorem dX12_readSun_19 : decode cX12_readSun 19 = .ok (.aload_n 0, 1) := by decide +kernel
theorem dX12_readSun_20 : decode cX12_readSun 20 = .ok (.bipush 26, 2) := by decide +kernel
theorem dX12_readSun_22 : decode cX12_readSun 22 = .ok (.iload_n 1, 1) := by decide +kernel
theorem dX12_readSun_23 : decode cX12_readSun 23 = .ok (.iadd, 1) := by decide +kernel
theorem dX12_readSun_24 : decode cX12_readSun 24 = .ok (.aload_n 0, 1) := by decide +kernel
theorem dX12_readSun_25 : decode cX12_readSun 25 = .ok (.invokevirtual 205, 3) := by decide +kernel
theorem dX12_readSun_28 : decode cX12_readSun 28 = .ok (.invokevirtual 188, 3) := by decide +kernel
theorem dX12_readSun_31 : decode cX12_readSun 31 = .ok (.ifCond .eq 21, 3) := by decide +kernel
theorem dX12_readSun_34 : decode cX12_readSun 34 = .ok (.aload_n 0, 1) := by decide +kernel
theorem dX12_readSun_35 : decode cX12_readSun 35 = .ok (.bipush 34, 2) := by decide +kernel
theorem dX12_readSun_37 : decode cX12_readSun 37 = .ok (.iload_n 1, 1) := by decide +kernel
theorem dX12_readSun_38 : decode cX12_readSun 38 = .ok (.iadd, 1) := by decide +kernel
theorem dX12_readSun_39 : decode cX12_readSun 39 = .ok (.aload_n 0, 1) := by decide +kernel
theorem dX12_readSun_40 : decode cX12_readSun 40 = .ok (.iconst 1, 1) := by decide +kernel
theorem dX12_readSun_41 : decode cX12_readSun 41 = .ok (.bipush 9, 2) := by decide +kernel
theorem dX12_readSun_43 : decode cX12_readSun 43 = .ok (.invokevirtual 184, 3) := by decide +kernel
theorem dX12_readSun_46 : decode cX12_readSun 46 = .ok (.invokevirtual 188, 3) := by decide +kernel
theorem dX12_readSun_49 : decode cX12_readSun 49 = .ok (.ifCond .ne 5, 3) := by decide +kernel
theorem dX12_readSun_52 : decode cX12_readSun 52 = .ok (.iconst 0, 1) := by decide +kernel
theorem dX12_readSun_53 : decode cX12_readSun 53 = .ok (.ireturn, 1) := by decide +kernel
theorem dX12_readSun_54 : decode cX12_readSun 54 = .ok (.aload_n 0, 1) := by decide +kernel
theorem dX12_readSun_55 : decode cX12_readSun 55 = .ok (.getfield 101, 3) := by decide +kernel
theorem dX12_readSun_58 : decode cX12_readSun 58 = .ok (.iconst 4, 1) := by decide +kernel
theorem dX12_readSun_59 : decode cX12_readSun 59 = .ok (.dup2, 1) := by decide +kernel
theorem dX12_readSun_60 : decode cX12_readSun 60 = .ok (.iaload, 1) := by decide +kernel
theorem dX12_readSun_61 : decode cX12_readSun 61 = .ok (.iconst 1, 1) := by decide +kernel
theorem dX12_readSun_62 : decode cX12_readSun 62 = .ok (.iadd, 1) := by decide +kernel
theorem dX12_readSun_63 : decode cX12_readSun 63 = .ok (.iastore, 1) := by decide +kernel
theorem dX12_readSun_64 : decode cX12_readSun 64 = .ok (.iconst 1, 1) := by decide +kernel
theorem dX12_readSun_65 : decode cX12_readSun 65 = .ok (.ireturn, 1) := by decide +kernel
theorem dX12_refuse_0 : decode cX12_refuse 0 = .ok (.aload_n 0, 1) := by decide +kernel
theorem dX12_refuse_1 : decode cX12_refuse 1 = .ok (.iconst 1, 1) := by decide +kernel
theorem dX12_refuse_2 : decode cX12_refuse 2 = .ok (.putfield 1, 3) := by decide +kernel
theorem dX12_refuse_5 : decode cX12_refuse 5 = .ok (.iconst 0, 1) := by decide +kernel
theorem dX12_refuse_6 : decode cX12_refuse 6 = .ok (.ireturn, 1) := by decide +kernel
theorem dX12_restore_0 : decode cX12_restore 0 = .ok (.aload_n 0, 1) := by decide +kernel
theorem dX12_restore_1 : decode cX12_restore 1 = .ok (.iconst 0, 1) := by decide +kernel
theorem dX12_restore_2 : decode cX12_restore 2 = .ok (.putfield 1, 3) := by decide +kernel
theorem dX12_restore_5 : decode cX12_restore 5 = .ok (.iload_n 1, 1) := by decide +kernel
theorem dX12_restore_6 : decode cX12_restore 6 = .ok (.iconst 0, 1) := by decide +kernel
theorem dX12_restore_7 : decode cX12_restore 7 = .ok (.iconst 1, 1) := by decide +kernel
theorem dX12_restore_8 : decode cX12_restore 8 = .ok (.invokestatic 75, 3) := by decide +kernel
theorem dX12_restore_11 : decode cX12_restore 11 = .ok (.ifCond .eq 12, 3) := by decide +kernel
theorem dX12_restore_14 : decode cX12_restore 14 = .ok (.aload_n 0, 1) := by decide +kernel
theorem dX12_restore_15 : decode cX12_restore 15 = .ok (.getfield 123, 3) := by decide +kernel
theorem dX12_restore_18 : decode cX12_restore 18 = .ok (.iload_n 1, 1) := by decide +kernel
theorem dX12_restore_19 : decode cX12_restore 19 = .ok (.baload, 1) := by decide +kernel
theorem dX12_restore_20 : decode cX12_restore 20 = .ok (.ifCond .ne 5, 3) := by decide +kernel
theorem dX12_restore_23 : decode cX12_restore 23 = .ok (.iconst 0, 1) := by decide +kernel
theorem dX12_restore_24 : decode cX12_restore 24 = .ok (.ireturn, 1) := by decide +kernel
theorem dX12_restore_25 : decode cX12_restore 25 = .ok (.iconst 0, 1) := by decide +kernel
theorem dX12_restore_26 : decode cX12_restore 26 = .ok (.istore_n 2, 1) := by decide +kernel
theorem dX12_restore_27 : decode cX12_restore 27 = .ok (.iload_n 2, 1) := by decide +kernel
theorem dX12_restore_28 : decode cX12_restore 28 = .ok (.sipush 434, 3) := by decide +kernel
theorem dX12_restore_31 : decode cX12_restore 31 = .ok (.if_icmp .ge 27, 3) := by decide +kernel
theorem dX12_restore_34 : decode cX12_restore 34 = .ok (.aload_n 0, 1) := by decide +kernel
theorem dX12_restore_35 : decode cX12_restore 35 = .ok (.getfield 98, 3) := by decide +kernel
theorem dX12_restore_38 : decode cX12_restore 38 = .ok (.iload_n 2, 1) := by decide +kernel
theorem dX12_restore_39 : decode cX12_restore 39 = .ok (.aload_n 0, 1) := by decide +kernel
theorem dX12_restore_40 : decode cX12_restore 40 = .ok (.getfield 104, 3) := by decide +kernel
theorem dX12_restore_43 : decode cX12_restore 43 = .ok (.sipush 434, 3) := by decide +kernel
theorem dX12_restore_46 : decode cX12_restore 46 = .ok (.iload_n 1, 1) := by decide +kernel
theorem dX12_restore_47 : decode cX12_restore 47 = .ok (.imul, 1) := by decide +kernel
theorem dX12_restore_48 : decode cX12_restore 48 = .ok (.iload_n 2, 1) := by decide +kernel
theorem dX12_restore_49 : decode cX12_restore 49 = .ok (.iadd, 1) := by decide +kernel
theorem dX12_restore_50 : decode cX12_restore 50 = .ok (.iaload, 1) := by decide +kernel
theorem dX12_restore_51 : decode cX12_restore 51 = .ok (.iastore, 1) := by decide +kernel
theorem dX12_restore_52 : decode cX12_restore 52 = .ok (.iinc 2 1, 3) := by decide +kernel
theorem dX12_restore_55 : decode cX12_restore 55 = .ok (.goto (-28), 3) := by decide +kernel
theorem dX12_restore_58 : decode cX12_restore 58 = .ok (.iconst 0, 1) := by decide +kernel
theorem dX12_restore_59 : decode cX12_restore 59 = .ok (.istore_n 2, 1) := by decide +kernel
theorem dX12_restore_60 : decode cX12_restore 60 = .ok (.iload_n 2, 1) := by decide +kernel
theorem dX12_restore_61 : decode cX12_restore 61 = .ok (.bipush 11, 2) := by decide +kernel
theorem dX12_restore_63 : decode cX12_restore 63 = .ok (.if_icmp .ge 26, 3) := by decide +kernel
theorem dX12_restore_66 : decode cX12_restore 66 = .ok (.aload_n 0, 1) := by decide +kernel
theorem dX12_restore_67 : decode cX12_restore 67 = .ok (.getfield 113, 3) := by decide +kernel
theorem dX12_restore_70 : decode cX12_restore 70 = .ok (.iload_n 2, 1) := by decide +kernel
theorem dX12_restore_71 : decode cX12_restore 71 = .ok (.aload_n 0, 1) := by decide +kernel
theorem dX12_restore_72 : decode cX12_restore 72 = .ok (.getfield 120, 3) := by decide +kernel
theorem dX12_restore_75 : decode cX12_restore 75 = .ok (.bipush 11, 2) := by decide +kernel
theorem dX12_restore_77 : decode cX12_restore 77 = .ok (.iload_n 1, 1) := by decide +kernel
theorem dX12_restore_78 : decode cX12_restore 78 = .ok (.imul, 1) := by decide +kernel
theorem dX12_restore_79 : decode cX12_restore 79 = .ok (.iload_n 2, 1) := by decide +kernel
theorem dX12_restore_80 : decode cX12_restore 80 = .ok (.iadd, 1) := by decide +kernel
theorem dX12_restore_81 : decode cX12_restore 81 = .ok (.laload, 1) := by decide +kernel
theorem dX12_restore_82 : decode cX12_restore 82 = .ok (.lastore, 1) := by decide +kernel
theorem dX12_restore_83 : decode cX12_restore 83 = .ok (.iinc 2 1, 3) := by decide +kernel
theorem dX12_restore_86 : decode cX12_restore 86 = .ok (.goto (-26), 3) := by decide +kernel
theorem dX12_restore_89 : decode cX12_restore 89 = .ok (.aload_n 0, 1) := by decide +kernel
theorem dX12_restore_90 : decode cX12_restore 90 = .ok (.iconst 0, 1) := by decide +kernel
theorem dX12_restore_91 : decode cX12_restore 91 = .ok (.putfield 232, 3) := by decide +kernel
theorem dX12_restore_94 : decode cX12_restore 94 = .ok (.iconst 1, 1) := by decide +kernel
theorem dX12_restore_95 : decode cX12_restore 95 = .ok (.ireturn, 1) := by decide +kernel
theorem dX12_said_0 : decode cX12_said 0 = .ok (.aload_n 0, 1) := by decide +kernel
theorem dX12_said_1 : decode cX12_said 1 = .ok (.iconst 0, 1) := by decide +kernel
theorem dX12_said_2 : decode cX12_said 2 = .ok (.putfield 1, 3) := by decide +kernel
theorem dX12_said_5 : decode cX12_said 5 = .ok (.aload_n 0, 1) := by decide +kernel
theorem dX12_said_6 : decode cX12_said 6 = .ok (.getfield 98, 3) := by decide +kernel
theorem dX12_said_9 : decode cX12_said 9 = .ok (.sipush 192, 3) := by decide +kernel
theorem dX12_said_12 : decode cX12_said 12 = .ok (.iaload, 1) := by decide +kernel
theorem dX12_said_13 : decode cX12_said 13 = .ok (.ifCond .ne 5, 3) := by decide +kernel
theorem dX12_said_16 : decode cX12_said 16 = .ok (.iconst (-1), 1) := by decide +kernel
theorem dX12_said_17 : decode cX12_said 17 = .ok (.ireturn, 1) := by decide +kernel
theorem dX12_said_18 : decode cX12_said 18 = .ok (.iconst 0, 1) := by decide +kernel
theorem dX12_said_19 : decode cX12_said 19 = .ok (.istore_n 2, 1) := by decide +kernel
theorem dX12_said_20 : decode cX12_said 20 = .ok (.iconst 0, 1) := by decide +kernel
theorem dX12_said_21 : decode cX12_said 21 = .ok (.istore_n 3, 1) := by decide +kernel
theorem dX12_said_22 : decode cX12_said 22 = .ok (.iload_n 3, 1) := by decide +kernel
theorem dX12_said_23 : decode cX12_said 23 = .ok (.aload_n 0, 1) := by decide +kernel
theorem dX12_said_24 : decode cX12_said 24 = .ok (.getfield 98, 3) := by decide +kernel
theorem dX12_said_27 : decode cX12_said 27 = .ok (.iconst 3, 1) := by decide +kernel
theorem dX12_said_28 : decode cX12_said 28 = .ok (.iaload, 1) := by decide +kernel
theorem dX12_said_29 : decode cX12_said 29 = .ok (.if_icmp .ge 38, 3) := by decide +kernel
theorem dX12_said_32 : decode cX12_said 32 = .ok (.aload_n 0, 1) := by decide +kernel
theorem dX12_said_33 : decode cX12_said 33 = .ok (.aload_n 0, 1) := by decide +kernel
theorem dX12_said_34 : decode cX12_said 34 = .ok (.getfield 98, 3) := by decide +kernel
theorem dX12_said_37 : decode cX12_said 37 = .ok (.sipush 193, 3) := by decide +kernel
theorem dX12_said_40 : decode cX12_said 40 = .ok (.iaload, 1) := by decide +kernel
theorem dX12_said_41 : decode cX12_said 41 = .ok (.iload_n 3, 1) := by decide +kernel
theorem dX12_said_42 : decode cX12_said 42 = .ok (.invokevirtual 452, 3) := by decide +kernel
theorem dX12_said_45 : decode cX12_said 45 = .ok (.ifCond .ne 6, 3) := by decide +kernel
theorem dX12_said_48 : decode cX12_said 48 = .ok (.goto 13, 3) := by decide +kernel
theorem dX12_said_51 : decode cX12_said 51 = .ok (.iload_n 2, 1) := by decide +kernel
theorem dX12_said_52 : decode cX12_said 52 = .ok (.iload_n 1, 1) := by decide +kernel
theorem dX12_said_53 : decode cX12_said 53 = .ok (.if_icmp .ne 5, 3) := by decide +kernel
theorem dX12_said_56 : decode cX12_said 56 = .ok (.iload_n 3, 1) := by decide +kernel
theorem dX12_said_57 : decode cX12_said 57 = .ok (.ireturn, 1) := by decide +kernel
theorem dX12_said_58 : decode cX12_said 58 = .ok (.iinc 2 1, 3) := by decide +kernel
theorem dX12_said_61 : decode cX12_said 61 = .ok (.iinc 3 1, 3) := by decide +kernel
theorem dX12_said_64 : decode cX12_said 64 = .ok (.goto (-42), 3) := by decide +kernel
theorem dX12_said_67 : decode cX12_said 67 = .ok (.iload_n 1, 1) := by decide +kernel
theorem dX12_said_68 : decode cX12_said 68 = .ok (.iconst (-1), 1) := by decide +kernel
theorem dX12_said_69 : decode cX12_said 69 = .ok (.if_icmp .ne 7, 3) := by decide +kernel
theorem dX12_said_72 : decode cX12_said 72 = .ok (.iload_n 2, 1) := by decide +kernel
theorem dX12_said_73 : decode cX12_said 73 = .ok (.goto 4, 3) := by decide +kernel
theorem dX12_said_76 : decode cX12_said 76 = .ok (.iconst (-1), 1) := by decide +kernel
theorem dX12_said_77 : decode cX12_said 77 = .ok (.ireturn, 1) := by decide +kernel
theorem dX12_saysOne_0 : decode cX12_saysOne 0 = .ok (.iconst 4, 1) := by decide +kernel
theorem dX12_saysOne_1 : decode cX12_saysOne 1 = .ok (.aload_n 0, 1) := by decide +kernel
theorem dX12_saysOne_2 : decode cX12_saysOne 2 = .ok (.getfield 412, 3) := by decide +kernel
theorem dX12_saysOne_5 : decode cX12_saysOne 5 = .ok (.imul, 1) := by decide +kernel
theorem dX12_saysOne_6 : decode cX12_saysOne 6 = .ok (.istore 5, 2) := by decide +kernel
theorem dX12_saysOne_8 : decode cX12_saysOne 8 = .ok (.aload_n 0, 1) := by decide +kernel
theorem dX12_saysOne_9 : decode cX12_saysOne 9 = .ok (.getfield 160, 3) := by decide +kernel
theorem dX12_saysOne_12 : decode cX12_saysOne 12 = .ok (.iload 5, 2) := by decide +kernel
theorem dX12_saysOne_14 : decode cX12_saysOne 14 = .ok (.iload_n 1, 1) := by decide +kernel
theorem dX12_saysOne_15 : decode cX12_saysOne 15 = .ok (.iastore, 1) := by decide +kernel
theorem dX12_saysOne_16 : decode cX12_saysOne 16 = .ok (.aload_n 0, 1) := by decide +kernel
theorem dX12_saysOne_17 : decode cX12_saysOne 17 = .ok (.getfield 160, 3) := by decide +kernel
theorem dX12_saysOne_20 : decode cX12_saysOne 20 = .ok (.iload 5, 2) := by decide +kernel
theorem dX12_saysOne_22 : decode cX12_saysOne 22 = .ok (.iconst 1, 1) := by decide +kernel
theorem dX12_saysOne_23 : decode cX12_saysOne 23 = .ok (.iadd, 1) := by decide +kernel
theorem dX12_saysOne_24 : decode cX12_saysOne 24 = .ok (.iload_n 2, 1) := by decide +kernel
theorem dX12_saysOne_25 : decode cX12_saysOne 25 = .ok (.iastore, 1) := by decide +kernel
theorem dX12_saysOne_26 : decode cX12_saysOne 26 = .ok (.aload_n 0, 1) := by decide +kernel
theorem dX12_saysOne_27 : decode cX12_saysOne 27 = .ok (.getfield 160, 3) := by decide +kernel
theorem dX12_saysOne_30 : decode cX12_saysOne 30 = .ok (.iload 5, 2) := by decide +kernel
theorem dX12_saysOne_32 : decode cX12_saysOne 32 = .ok (.iconst 2, 1) := by decide +kernel
theorem dX12_saysOne_33 : decode cX12_saysOne 33 = .ok (.iadd, 1) := by decide +kernel
theorem dX12_saysOne_34 : decode cX12_saysOne 34 = .ok (.iload_n 3, 1) := by decide +kernel
theorem dX12_saysOne_35 : decode cX12_saysOne 35 = .ok (.iastore, 1) := by decide +kernel
theorem dX12_saysOne_36 : decode cX12_saysOne 36 = .ok (.aload_n 0, 1) := by decide +kernel
theorem dX12_saysOne_37 : decode cX12_saysOne 37 = .ok (.getfield 160, 3) := by decide +kernel
theorem dX12_saysOne_40 : decode cX12_saysOne 40 = .ok (.iload 5, 2) := by decide +kernel
theorem dX12_saysOne_42 : decode cX12_saysOne 42 = .ok (.iconst 3, 1) := by decide +kernel
theorem dX12_saysOne_43 : decode cX12_saysOne 43 = .ok (.iadd, 1) := by decide +kernel
theorem dX12_saysOne_44 : decode cX12_saysOne 44 = .ok (.iload 4, 2) := by decide +kernel
theorem dX12_saysOne_46 : decode cX12_saysOne 46 = .ok (.iastore, 1) := by decide +kernel
theorem dX12_saysOne_47 : decode cX12_saysOne 47 = .ok (.aload_n 0, 1) := by decide +kernel
theorem dX12_saysOne_48 : decode cX12_saysOne 48 = .ok (.dup, 1) := by decide +kernel
theorem dX12_saysOne_49 : decode cX12_saysOne 49 = .ok (.getfield 412, 3) := by decide +kernel
theorem dX12_saysOne_52 : decode cX12_saysOne 52 = .ok (.iconst 1, 1) := by decide +kernel
theorem dX12_saysOne_53 : decode cX12_saysOne 53 = .ok (.iadd, 1) := by decide +kernel
theorem dX12_saysOne_54 : decode cX12_saysOne 54 = .ok (.putfield 412, 3) := by decide +kernel
theorem dX12_saysOne_57 : decode cX12_saysOne 57 = .ok (.aload_n 0, 1) := by decide +kernel
theorem dX12_saysOne_58 : decode cX12_saysOne 58 = .ok (.getfield 412, 3) := by decide +kernel
theorem dX12_saysOne_61 : decode cX12_saysOne 61 = .ok (.iconst 1, 1) := by decide +kernel
theorem dX12_saysOne_62 : decode cX12_saysOne 62 = .ok (.isub, 1) := by decide +kernel
theorem dX12_saysOne_63 : decode cX12_saysOne 63 = .ok (.ireturn, 1) := by decide +kernel
theorem dX12_sentence_0 : decode cX12_sentence 0 = .ok (.aload_n 0, 1) := by decide +kernel
theorem dX12_sentence_1 : decode cX12_sentence 1 = .ok (.sipush 200, 3) := by decide +kernel
theorem dX12_sentence_4 : decode cX12_sentence 4 = .ok (.invokevirtual 223, 3) := by decide +kernel
theorem dX12_sentence_7 : decode cX12_sentence 7 = .ok (.aload_n 0, 1) := by decide +kernel
theorem dX12_sentence_8 : decode cX12_sentence 8 = .ok (.iconst 0, 1) := by decide +kernel
theorem dX12_sentence_9 : decode cX12_sentence 9 = .ok (.putfield 412, 3) := by decide +kernel
theorem dX12_sentence_12 : decode cX12_sentence 12 = .ok (.aload_n 0, 1) := by decide +kernel
theorem dX12_sentence_13 : decode cX12_sentence 13 = .ok (.iconst 0, 1) := by decide +kernel
theorem dX12_sentence_14 : decode cX12_sentence 14 = .ok (.putfield 428, 3) := by decide +kernel
theorem dX12_sentence_17 : decode cX12_sentence 17 = .ok (.aload_n 0, 1) := by decide +kernel
theorem dX12_sentence_18 : decode cX12_sentence 18 = .ok (.iconst 0, 1) := by decide +kernel
theorem dX12_sentence_19 : decode cX12_sentence 19 = .ok (.putfield 431, 3) := by decide +kernel
theorem dX12_sentence_22 : decode cX12_sentence 22 = .ok (.aload_n 0, 1) := by decide +kernel
theorem dX12_sentence_23 : decode cX12_sentence 23 = .ok (.invokevirtual 446, 3) := by decide +kernel
theorem dX12_sentence_26 : decode cX12_sentence 26 = .ok (.ifCond .ne 10, 3) := by decide +kernel
theorem dX12_sentence_29 : decode cX12_sentence 29 = .ok (.iconst (-1), 1) := by decide +kernel
theorem dX12_sentence_30 : decode cX12_sentence 30 = .ok (.aload_n 0, 1) := by decide +kernel
theorem dX12_sentence_31 : decode cX12_sentence 31 = .ok (.getfield 69, 3) := by decide +kernel
theorem dX12_sentence_34 : decode cX12_sentence 34 = .ok (.isub, 1) := by decide +kernel
theorem dX12_sentence_35 : decode cX12_sentence 35 = .ok (.ireturn, 1) := by decide +kernel
theorem dX12_sentence_36 : decode cX12_sentence 36 = .ok (.aload_n 0, 1) := by decide +kernel
theorem dX12_sentence_37 : decode cX12_sentence 37 = .ok (.getfield 30, 3) := by decide +kernel
theorem dX12_sentence_40 : decode cX12_sentence 40 = .ok (.ifCond .eq 16, 3) := by decide +kernel
theorem dX12_sentence_43 : decode cX12_sentence 43 = .ok (.aload_n 0, 1) := by decide +kernel
theorem dX12_sentence_44 : decode cX12_sentence 44 = .ok (.iconst 1, 1) := by decide +kernel
theorem dX12_sentence_45 : decode cX12_sentence 45 = .ok (.invokevirtual 72, 3) := by decide +kernel
theorem dX12_sentence_48 : decode cX12_sentence 48 = .ok (.pop, 1) := by decide +kernel
theorem dX12_sentence_49 : decode cX12_sentence 49 = .ok (.iconst (-1), 1) := by decide +kernel
theorem dX12_sentence_50 : decode cX12_sentence 50 = .ok (.aload_n 0, 1) := by decide +kernel
theorem dX12_sentence_51 : decode cX12_sentence 51 = .ok (.getfield 69, 3) := by decide +kernel
theorem dX12_sentence_54 : decode cX12_sentence 54 = .ok (.isub, 1) := by decide +kernel
theorem dX12_sentence_55 : decode cX12_sentence 55 = .ok (.ireturn, 1) := by decide +kernel
theorem dX12_sentence_56 : decode cX12_sentence 56 = .ok (.aload_n 0, 1) := by decide +kernel
theorem dX12_sentence_57 : decode cX12_sentence 57 = .ok (.getfield 98, 3) := by decide +kernel
theorem dX12_sentence_60 : decode cX12_sentence 60 = .ok (.sipush 192, 3) := by decide +kernel
theorem dX12_sentence_63 : decode cX12_sentence 63 = .ok (.iconst 1, 1) := by decide +kernel
theorem dX12_sentence_64 : decode cX12_sentence 64 = .ok (.iastore, 1) := by decide +kernel
theorem dX12_sentence_65 : decode cX12_sentence 65 = .ok (.aload_n 0, 1) := by decide +kernel
theorem dX12_sentence_66 : decode cX12_sentence 66 = .ok (.getfield 98, 3) := by decide +kernel
theorem dX12_sentence_69 : decode cX12_sentence 69 = .ok (.sipush 193, 3) := by decide +kernel
theorem dX12_sentence_72 : decode cX12_sentence 72 = .ok (.aload_n 0, 1) := by decide +kernel
theorem dX12_sentence_73 : decode cX12_sentence 73 = .ok (.getfield 418, 3) := by decide +kernel
theorem dX12_sentence_76 : decode cX12_sentence 76 = .ok (.iastore, 1) := by decide +kernel
theorem dX12_sentence_77 : decode cX12_sentence 77 = .ok (.iconst 0, 1) := by decide +kernel
theorem dX12_sentence_78 : decode cX12_sentence 78 = .ok (.istore_n 1, 1) := by decide +kernel
theorem dX12_sentence_79 : decode cX12_sentence 79 = .ok (.iload_n 1, 1) := by decide +kernel
theorem dX12_sentence_80 : decode cX12_sentence 80 = .ok (.sipush 240, 3) := by decide +kernel
theorem dX12_sentence_83 : decode cX12_sentence 83 = .ok (.if_icmp .ge 25, 3) := by decide +kernel
theorem dX12_sentence_86 : decode cX12_sentence 86 = .ok (.aload_n 0, 1) := by decide +kernel
theorem dX12_sentence_87 : decode cX12_sentence 87 = .ok (.getfield 98, 3) := by decide +kernel
theorem dX12_sentence_90 : decode cX12_sentence 90 = .ok (.sipush 194, 3) := by decide +kernel
theorem dX12_sentence_93 : decode cX12_sentence 93 = .ok (.iload_n 1, 1) := by decide +kernel
theorem dX12_sentence_94 : decode cX12_sentence 94 = .ok (.iadd, 1) := by decide +kernel
theorem dX12_sentence_95 : decode cX12_sentence 95 = .ok (.aload_n 0, 1) := by decide +kernel
theorem dX12_sentence_96 : decode cX12_sentence 96 = .ok (.getfield 160, 3) := by decide +kernel
theorem dX12_sentence_99 : decode cX12_sentence 99 = .ok (.iload_n 1, 1) := by decide +kernel
theorem dX12_sentence_100 : decode cX12_sentence 100 = .ok (.iaload, 1) := by decide +kernel
theorem dX12_sentence_101 : decode cX12_sentence 101 = .ok (.iastore, 1) := by decide +kernel
theorem dX12_sentence_102 : decode cX12_sentence 102 = .ok (.iinc 1 1, 3) := by decide +kernel
theorem dX12_sentence_105 : decode cX12_sentence 105 = .ok (.goto (-26), 3) := by decide +kernel
theorem dX12_sentence_108 : decode cX12_sentence 108 = .ok (.aload_n 0, 1) := by decide +kernel
theorem dX12_sentence_109 : decode cX12_sentence 109 = .ok (.getfield 428, 3) := by decide +kernel
theorem dX12_sentence_112 : decode cX12_sentence 112 = .ok (.ireturn, 1) := by decide +kernel
theorem dX12_shadow_0 : decode cX12_shadow 0 = .ok (.aload_n 0, 1) := by decide +kernel
theorem dX12_shadow_1 : decode cX12_shadow 1 = .ok (.iconst 0, 1) := by decide +kernel
theorem dX12_shadow_2 : decode cX12_shadow 2 = .ok (.putfield 1, 3) := by decide +kernel
theorem dX12_shadow_5 : decode cX12_shadow 5 = .ok (.aload_n 0, 1) := by decide +kernel
theorem dX12_shadow_6 : decode cX12_shadow 6 = .ok (.iload_n 1, 1) := by decide +kernel
theorem dX12_shadow_7 : decode cX12_shadow 7 = .ok (.invokevirtual 268, 3) := by decide +kernel
theorem dX12_shadow_10 : decode cX12_shadow 10 = .ok (.ifCond .eq 11, 3) := by decide +kernel
theorem dX12_shadow_13 : decode cX12_shadow 13 = .ok (.aload_n 0, 1) := by decide +kernel
theorem dX12_shadow_14 : decode cX12_shadow 14 = .ok (.iload_n 2, 1) := by decide +kernel
theorem dX12_shadow_15 : decode cX12_shadow 15 = .ok (.invokevirtual 322, 3) := by decide +kernel
theorem dX12_shadow_18 : decode cX12_shadow 18 = .ok (.ifCond .ne 5, 3) := by decide +kernel
theorem dX12_shadow_21 : decode cX12_shadow 21 = .ok (.iconst (-1), 1) := by decide +kernel
theorem dX12_shadow_22 : decode cX12_shadow 22 = .ok (.ireturn, 1) := by decide +kernel
theorem dX12_shadow_23 : decode cX12_shadow 23 = .ok (.aload_n 0, 1) := by decide +kernel
theorem dX12_shadow_24 : decode cX12_shadow 24 = .ok (.iload_n 1, 1) := by decide +kernel
theorem dX12_shadow_25 : decode cX12_shadow 25 = .ok (.iload_n 2, 1) := by decide +kernel
theorem dX12_shadow_26 : decode cX12_shadow 26 = .ok (.invokevirtual 251, 3) := by decide +kernel
theorem dX12_shadow_29 : decode cX12_shadow 29 = .ok (.lstore_n 3, 1) := by decide +kernel
theorem dX12_shadow_30 : decode cX12_shadow 30 = .ok (.iconst 0, 1) := by decide +kernel
theorem dX12_shadow_31 : decode cX12_shadow 31 = .ok (.istore 5, 2) := by decide +kernel
theorem dX12_shadow_33 : decode cX12_shadow 33 = .ok (.iconst 0, 1) := by decide +kernel
theorem dX12_shadow_34 : decode cX12_shadow 34 = .ok (.istore 6, 2) := by decide +kernel
theorem dX12_shadow_36 : decode cX12_shadow 36 = .ok (.iload 6, 2) := by decide +kernel
theorem dX12_shadow_38 : decode cX12_shadow 38 = .ok (.bipush 64, 2) := by decide +kernel
theorem dX12_shadow_40 : decode cX12_shadow 40 = .ok (.if_icmp .ge 21, 3) := by decide +kernel
theorem dX12_shadow_43 : decode cX12_shadow 43 = .ok (.lload_n 3, 1) := by decide +kernel
theorem dX12_shadow_44 : decode cX12_shadow 44 = .ok (.iload 6, 2) := by decide +kernel
theorem dX12_shadow_46 : decode cX12_shadow 46 = .ok (.invokestatic 255, 3) := by decide +kernel
theorem dX12_shadow_49 : decode cX12_shadow 49 = .ok (.ifCond .eq 6, 3) := by decide +kernel
theorem dX12_shadow_52 : decode cX12_shadow 52 = .ok (.iinc 5 1, 3) := by decide +kernel
theorem dX12_shadow_55 : decode cX12_shadow 55 = .ok (.iinc 6 1, 3) := by decide +kernel
theorem dX12_shadow_58 : decode cX12_shadow 58 = .ok (.goto (-22), 3) := by decide +kernel
theorem dX12_shadow_61 : decode cX12_shadow 61 = .ok (.iload 5, 2) := by decide +kernel
theorem dX12_shadow_63 : decode cX12_shadow 63 = .ok (.ireturn, 1) := by decide +kernel
theorem dX12_shadowOf_0 : decode cX12_shadowOf 0 = .ok (.lconst 0, 1) := by decide +kernel
theorem dX12_shadowOf_1 : decode cX12_shadowOf 1 = .ok (.lstore_n 3, 1) := by decide +kernel
theorem dX12_shadowOf_2 : decode cX12_shadowOf 2 = .ok (.aload_n 0, 1) := by decide +kernel
theorem dX12_shadowOf_3 : decode cX12_shadowOf 3 = .ok (.getfield 98, 3) := by decide +kernel
theorem dX12_shadowOf_6 : decode cX12_shadowOf 6 = .ok (.iconst 5, 1) := by decide +kernel
theorem dX12_shadowOf_7 : decode cX12_shadowOf 7 = .ok (.iload_n 1, 1) := by decide +kernel
theorem dX12_shadowOf_8 : decode cX12_shadowOf 8 = .ok (.iadd, 1) := by decide +kernel
theorem dX12_shadowOf_9 : decode cX12_shadowOf 9 = .ok (.iaload, 1) := by decide +kernel
theorem dX12_shadowOf_10 : decode cX12_shadowOf 10 = .ok (.istore 5, 2) := by decide +kernel
theorem dX12_shadowOf_12 : decode cX12_shadowOf 12 = .ok (.aload_n 0, 1) := by decide +kernel
theorem dX12_shadowOf_13 : decode cX12_shadowOf 13 = .ok (.getfield 98, 3) := by decide +kernel
theorem dX12_shadowOf_16 : decode cX12_shadowOf 16 = .ok (.bipush 10, 2) := by decide +kernel
theorem dX12_shadowOf_18 : decode cX12_shadowOf 18 = .ok (.iload_n 1, 1) := by decide +kernel
theorem dX12_shadowOf_19 : decode cX12_shadowOf 19 = .ok (.iadd, 1) := by decide +kernel
theorem dX12_shadowOf_20 : decode cX12_shadowOf 20 = .ok (.iaload, 1) := by decide +kernel
theorem dX12_shadowOf_21 : decode cX12_shadowOf 21 = .ok (.istore 6, 2) := by decide +kernel
theorem dX12_shadowOf_23 : decode cX12_shadowOf 23 = .ok (.aload_n 0, 1) := by decide +kernel
theorem dX12_shadowOf_24 : decode cX12_shadowOf 24 = .ok (.iload 5, 2) := by decide +kernel
theorem dX12_shadowOf_26 : decode cX12_shadowOf 26 = .ok (.aload_n 0, 1) := by decide +kernel
theorem dX12_shadowOf_27 : decode cX12_shadowOf 27 = .ok (.getfield 98, 3) := by decide +kernel
theorem dX12_shadowOf_30 : decode cX12_shadowOf 30 = .ok (.bipush 26, 2) := by decide +kernel
theorem dX12_shadowOf_32 : decode cX12_shadowOf 32 = .ok (.iload_n 2, 1) := by decide +kernel
theorem dX12_shadowOf_33 : decode cX12_shadowOf 33 = .ok (.iadd, 1) := by decide +kernel
theorem dX12_shadowOf_34 : decode cX12_shadowOf 34 = .ok (.iaload, 1) := by decide +kernel
theorem dX12_shadowOf_35 : decode cX12_shadowOf 35 = .ok (.invokevirtual 247, 3) := by decide +kernel
theorem dX12_shadowOf_38 : decode cX12_shadowOf 38 = .ok (.istore 5, 2) := by decide +kernel
theorem dX12_shadowOf_40 : decode cX12_shadowOf 40 = .ok (.iload 6, 2) := by decide +kernel
theorem dX12_shadowOf_42 : decode cX12_shadowOf 42 = .ok (.aload_n 0, 1) := by decide +kernel
theorem dX12_shadowOf_43 : decode cX12_shadowOf 43 = .ok (.getfield 98, 3) := by decide +kernel
theorem dX12_shadowOf_46 : decode cX12_shadowOf 46 = .ok (.bipush 34, 2) := by decide +kernel
theorem dX12_shadowOf_48 : decode cX12_shadowOf 48 = .ok (.iload_n 2, 1) := by decide +kernel
theorem dX12_shadowOf_49 : decode cX12_shadowOf 49 = .ok (.iadd, 1) := by decide +kernel
theorem dX12_shadowOf_50 : decode cX12_shadowOf 50 = .ok (.iaload, 1) := by decide +kernel
theorem dX12_shadowOf_51 : decode cX12_shadowOf 51 = .ok (.isub, 1) := by decide +kernel
theorem dX12_shadowOf_52 : decode cX12_shadowOf 52 = .ok (.istore 6, 2) := by decide +kernel
theorem dX12_shadowOf_54 : decode cX12_shadowOf 54 = .ok (.iload 5, 2) := by decide +kernel
theorem dX12_shadowOf_56 : decode cX12_shadowOf 56 = .ok (.iconst (-1), 1) := by decide +kernel
theorem dX12_shadowOf_57 : decode cX12_shadowOf 57 = .ok (.if_icmp .eq 14, 3) := by decide +kernel
theorem dX12_shadowOf_60 : decode cX12_shadowOf 60 = .ok (.iload 6, 2) := by decide +kernel
theorem dX12_shadowOf_62 : decode cX12_shadowOf 62 = .ok (.aload_n 0, 1) := by decide +kernel
theorem dX12_shadowOf_63 : decode cX12_shadowOf 63 = .ok (.iload 5, 2) := by decide +kernel
theorem dX12_shadowOf_65 : decode cX12_shadowOf 65 = .ok (.invokevirtual 241, 3) := by decide +kernel
theorem dX12_shadowOf_68 : decode cX12_shadowOf 68 = .ok (.if_icmp .gt 5, 3) := by decide +kernel
theorem dX12_shadowOf_71 : decode cX12_shadowOf 71 = .ok (.lload_n 3, 1) := by decide +kernel
theorem dX12_shadowOf_72 : decode cX12_shadowOf 72 = .ok (.lreturn, 1) := by decide +kernel
theorem dX12_shadowOf_73 : decode cX12_shadowOf 73 = .ok (.lload_n 3, 1) := by decide +kernel
theorem dX12_shadowOf_74 : decode cX12_shadowOf 74 = .ok (.lconst 1, 1) := by decide +kernel
theorem dX12_shadowOf_75 : decode cX12_shadowOf 75 = .ok (.iload 5, 2) := by decide +kernel
theorem dX12_shadowOf_77 : decode cX12_shadowOf 77 = .ok (.lshl, 1) := by decide +kernel
theorem dX12_shadowOf_78 : decode cX12_shadowOf 78 = .ok (.lor, 1) := by decide +kernel
theorem dX12_shadowOf_79 : decode cX12_shadowOf 79 = .ok (.lstore_n 3, 1) := by decide +kernel
theorem dX12_shadowOf_80 : decode cX12_shadowOf 80 = .ok (.goto (-57), 3) := by decide +kernel
theorem dX12_shadowsOn_0 : decode cX12_shadowsOn 0 = .ok (.iconst 0, 1) := by decide +kernel
theorem dX12_shadowsOn_1 : decode cX12_shadowsOn 1 = .ok (.istore_n 2, 1) := by decide +kernel
theorem dX12_shadowsOn_2 : decode cX12_shadowsOn 2 = .ok (.iconst 0, 1) := by decide +kernel
theorem dX12_shadowsOn_3 : decode cX12_shadowsOn 3 = .ok (.istore_n 3, 1) := by decide +kernel
theorem dX12_shadowsOn_4 : decode cX12_shadowsOn 4 = .ok (.iload_n 3, 1) := by decide +kernel
theorem dX12_shadowsOn_5 : decode cX12_shadowsOn 5 = .ok (.aload_n 0, 1) := by decide +kernel
theorem dX12_shadowsOn_6 : decode cX12_shadowsOn 6 = .ok (.getfield 98, 3) := by decide +kernel
theorem dX12_shadowsOn_9 : decode cX12_shadowsOn 9 = .ok (.iconst 2, 1) := by decide +kernel
theorem dX12_shadowsOn_10 : decode cX12_shadowsOn 10 = .ok (.iaload, 1) := by decide +kernel
theorem dX12_shadowsOn_11 : decode cX12_shadowsOn 11 = .ok (.if_icmp .ge 39, 3) := by decide +kernel
theorem dX12_shadowsOn_14 : decode cX12_shadowsOn 14 = .ok (.aload_n 0, 1) := by decide +kernel
theorem dX12_shadowsOn_15 : decode cX12_shadowsOn 15 = .ok (.invokevirtual 259, 3) := by decide +kernel
theorem dX12_shadowsOn_18 : decode cX12_shadowsOn 18 = .ok (.iconst (-1), 1) := by decide +kernel
theorem dX12_shadowsOn_19 : decode cX12_shadowsOn 19 = .ok (.if_icmp .eq 25, 3) := by decide +kernel
theorem dX12_shadowsOn_22 : decode cX12_shadowsOn 22 = .ok (.aload_n 0, 1) := by decide +kernel
theorem dX12_shadowsOn_23 : decode cX12_shadowsOn 23 = .ok (.iload_n 3, 1) := by decide +kernel
theorem dX12_shadowsOn_24 : decode cX12_shadowsOn 24 = .ok (.aload_n 0, 1) := by decide +kernel
theorem dX12_shadowsOn_25 : decode cX12_shadowsOn 25 = .ok (.invokevirtual 259, 3) := by decide +kernel
theorem dX12_shadowsOn_28 : decode cX12_shadowsOn 28 = .ok (.invokevirtual 251, 3) := by decide +kernel
theorem dX12_shadowsOn_31 : decode cX12_shadowsOn 31 = .ok (.iload_n 1, 1) := by decide +kernel
theorem dX12_shadowsOn_32 : decode cX12_shadowsOn 32 = .ok (.invokestatic 255, 3) := by decide +kernel
theorem dX12_shadowsOn_35 : decode cX12_shadowsOn 35 = .ok (.ifCond .eq 9, 3) := by decide +kernel
theorem dX12_shadowsOn_38 : decode cX12_shadowsOn 38 = .ok (.iload_n 2, 1) := by decide +kernel
theorem dX12_shadowsOn_39 : decode cX12_shadowsOn 39 = .ok (.iconst 1, 1) := by decide +kernel
theorem dX12_shadowsOn_40 : decode cX12_shadowsOn 40 = .ok (.iload_n 3, 1) := by decide +kernel
theorem dX12_shadowsOn_41 : decode cX12_shadowsOn 41 = .ok (.ishl, 1) := by decide +kernel
theorem dX12_shadowsOn_42 : decode cX12_shadowsOn 42 = .ok (.ior, 1) := by decide +kernel
theorem dX12_shadowsOn_43 : decode cX12_shadowsOn 43 = .ok (.istore_n 2, 1) := by decide +kernel
theorem dX12_shadowsOn_44 : decode cX12_shadowsOn 44 = .ok (.iinc 3 1, 3) := by decide +kernel
theorem dX12_shadowsOn_47 : decode cX12_shadowsOn 47 = .ok (.goto (-43), 3) := by decide +kernel
theorem dX12_shadowsOn_50 : decode cX12_shadowsOn 50 = .ok (.iload_n 2, 1) := by decide +kernel
theorem dX12_shadowsOn_51 : decode cX12_shadowsOn 51 = .ok (.ireturn, 1) := by decide +kernel
theorem dX12_share_0 : decode cX12_share 0 = .ok (.aload_n 0, 1) := by decide +kernel
theorem dX12_share_1 : decode cX12_share 1 = .ok (.iconst 0, 1) := by decide +kernel
theorem dX12_share_2 : decode cX12_share 2 = .ok (.putfield 1, 3) := by decide +kernel
theorem dX12_share_5 : decode cX12_share 5 = .ok (.aload_n 0, 1) := by decide +kernel
theorem dX12_share_6 : decode cX12_share 6 = .ok (.iload_n 1, 1) := by decide +kernel
theorem dX12_share_7 : decode cX12_share 7 = .ok (.invokevirtual 280, 3) := by decide +kernel
theorem dX12_share_10 : decode cX12_share 10 = .ok (.ifCond .eq 29, 3) := by decide +kernel
theorem dX12_share_13 : decode cX12_share 13 = .ok (.aload_n 0, 1) := by decide +kernel
theorem dX12_share_14 : decode cX12_share 14 = .ok (.iload_n 2, 1) := by decide +kernel
theorem dX12_share_15 : decode cX12_share 15 = .ok (.invokevirtual 268, 3) := by decide +kernel
theorem dX12_share_18 : decode cX12_share 18 = .ok (.ifCond .eq 21, 3) := by decide +kernel
theorem dX12_share_21 : decode cX12_share 21 = .ok (.aload_n 0, 1) := by decide +kernel
theorem dX12_share_22 : decode cX12_share 22 = .ok (.iload_n 3, 1) := by decide +kernel
theorem dX12_share_23 : decode cX12_share 23 = .ok (.invokevirtual 322, 3) := by decide +kernel
theorem dX12_share_26 : decode cX12_share 26 = .ok (.ifCond .eq 13, 3) := by decide +kernel
theorem dX12_share_29 : decode cX12_share 29 = .ok (.iload 4, 2) := by decide +kernel
theorem dX12_share_31 : decode cX12_share 31 = .ok (.iconst 0, 1) := by decide +kernel
theorem dX12_share_32 : decode cX12_share 32 = .ok (.iconst 1, 1) := by decide +kernel
theorem dX12_share_33 : decode cX12_share 33 = .ok (.invokestatic 75, 3) := by decide +kernel
theorem dX12_share_36 : decode cX12_share 36 = .ok (.ifCond .ne 8, 3) := by decide +kernel
theorem dX12_share_39 : decode cX12_share 39 = .ok (.aload_n 0, 1) := by decide +kernel
theorem dX12_share_40 : decode cX12_share 40 = .ok (.invokevirtual 271, 3) := by decide +kernel
theorem dX12_share_43 : decode cX12_share 43 = .ok (.ireturn, 1) := by decide +kernel
theorem dX12_share_44 : decode cX12_share 44 = .ok (.aload_n 0, 1) := by decide +kernel
theorem dX12_share_45 : decode cX12_share 45 = .ok (.iload_n 2, 1) := by decide +kernel
theorem dX12_share_46 : decode cX12_share 46 = .ok (.iload_n 3, 1) := by decide +kernel
theorem dX12_share_47 : decode cX12_share 47 = .ok (.invokevirtual 277, 3) := by decide +kernel
theorem dX12_share_50 : decode cX12_share 50 = .ok (.iload_n 1, 1) := by decide +kernel
theorem dX12_share_51 : decode cX12_share 51 = .ok (.invokestatic 235, 3) := by decide +kernel
theorem dX12_share_54 : decode cX12_share 54 = .ok (.istore 5, 2) := by decide +kernel
theorem dX12_share_56 : decode cX12_share 56 = .ok (.iload 4, 2) := by decide +kernel
theorem dX12_share_58 : decode cX12_share 58 = .ok (.ifCond .ne 14, 3) := by decide +kernel
theorem dX12_share_61 : decode cX12_share 61 = .ok (.iload 5, 2) := by decide +kernel
theorem dX12_share_63 : decode cX12_share 63 = .ok (.ifCond .eq 7, 3) := by decide +kernel
theorem dX12_share_66 : decode cX12_share 66 = .ok (.iconst 1, 1) := by decide +kernel
theorem dX12_share_67 : decode cX12_share 67 = .ok (.goto 4, 3) := by decide +kernel
theorem dX12_share_70 : decode cX12_share 70 = .ok (.iconst 0, 1) := by decide +kernel
theorem dX12_share_71 : decode cX12_share 71 = .ok (.ireturn, 1) := by decide +kernel
theorem dX12_share_72 : decode cX12_share 72 = .ok (.iload 5, 2) := by decide +kernel
theorem dX12_share_74 : decode cX12_share 74 = .ok (.ifCond .eq 15, 3) := by decide +kernel
theorem dX12_share_77 : decode cX12_share 77 = .ok (.aload_n 0, 1) := by decide +kernel
theorem dX12_share_78 : decode cX12_share 78 = .ok (.iload_n 2, 1) := by decide +kernel
theorem dX12_share_79 : decode cX12_share 79 = .ok (.iload_n 3, 1) := by decide +kernel
theorem dX12_share_80 : decode cX12_share 80 = .ok (.invokevirtual 277, 3) := by decide +kernel
theorem dX12_share_83 : decode cX12_share 83 = .ok (.invokestatic 295, 3) := by decide +kernel
theorem dX12_share_86 : decode cX12_share 86 = .ok (.goto 4, 3) := by decide +kernel
theorem dX12_share_89 : decode cX12_share 89 = .ok (.iconst 1, 1) := by decide +kernel
theorem dX12_share_90 : decode cX12_share 90 = .ok (.ireturn, 1) := by decide +kernel
theorem dX12_slip_0 : decode cX12_slip 0 = .ok (.aload_n 0, 1) := by decide +kernel
theorem dX12_slip_1 : decode cX12_slip 1 = .ok (.iconst 0, 1) := by decide +kernel
theorem dX12_slip_2 : decode cX12_slip 2 = .ok (.putfield 1, 3) := by decide +kernel
theorem dX12_slip_5 : decode cX12_slip 5 = .ok (.aload_n 0, 1) := by decide +kernel
theorem dX12_slip_6 : decode cX12_slip 6 = .ok (.iload_n 1, 1) := by decide +kernel
theorem dX12_slip_7 : decode cX12_slip 7 = .ok (.invokevirtual 280, 3) := by decide +kernel
theorem dX12_slip_10 : decode cX12_slip 10 = .ok (.ifCond .ne 5, 3) := by decide +kernel
theorem dX12_slip_13 : decode cX12_slip 13 = .ok (.iconst (-1), 1) := by decide +kernel
theorem dX12_slip_14 : decode cX12_slip 14 = .ok (.ireturn, 1) := by decide +kernel
theorem dX12_slip_15 : decode cX12_slip 15 = .ok (.aload_n 0, 1) := by decide +kernel
theorem dX12_slip_16 : decode cX12_slip 16 = .ok (.iconst 0, 1) := by decide +kernel
theorem dX12_slip_17 : decode cX12_slip 17 = .ok (.putfield 346, 3) := by decide +kernel
theorem dX12_slip_20 : decode cX12_slip 20 = .ok (.aload_n 0, 1) := by decide +kernel
theorem dX12_slip_21 : decode cX12_slip 21 = .ok (.aload_n 0, 1) := by decide +kernel
theorem dX12_slip_22 : decode cX12_slip 22 = .ok (.getfield 113, 3) := by decide +kernel
theorem dX12_slip_25 : decode cX12_slip 25 = .ok (.iconst 5, 1) := by decide +kernel
theorem dX12_slip_26 : decode cX12_slip 26 = .ok (.iload_n 1, 1) := by decide +kernel
theorem dX12_slip_27 : decode cX12_slip 27 = .ok (.iadd, 1) := by decide +kernel
theorem dX12_slip_28 : decode cX12_slip 28 = .ok (.laload, 1) := by decide +kernel
theorem dX12_slip_29 : decode cX12_slip 29 = .ok (.invokevirtual 349, 3) := by decide +kernel
theorem dX12_slip_32 : decode cX12_slip 32 = .ok (.aload_n 0, 1) := by decide +kernel
theorem dX12_slip_33 : decode cX12_slip 33 = .ok (.bipush 97, 2) := by decide +kernel
theorem dX12_slip_35 : decode cX12_slip 35 = .ok (.bipush 116, 2) := by decide +kernel
theorem dX12_slip_37 : decode cX12_slip 37 = .ok (.iconst 0, 1) := by decide +kernel
theorem dX12_slip_38 : decode cX12_slip 38 = .ok (.iconst 0, 1) := by decide +kernel
theorem dX12_slip_39 : decode cX12_slip 39 = .ok (.iconst 0, 1) := by decide +kernel
theorem dX12_slip_40 : decode cX12_slip 40 = .ok (.iconst 0, 1) := by decide +kernel
theorem dX12_slip_41 : decode cX12_slip 41 = .ok (.invokestatic 58, 3) := by decide +kernel
theorem dX12_slip_44 : decode cX12_slip 44 = .ok (.invokevirtual 359, 3) := by decide +kernel
theorem dX12_slip_47 : decode cX12_slip 47 = .ok (.aload_n 0, 1) := by decide +kernel
theorem dX12_slip_48 : decode cX12_slip 48 = .ok (.aload_n 0, 1) := by decide +kernel
theorem dX12_slip_49 : decode cX12_slip 49 = .ok (.getfield 98, 3) := by decide +kernel
theorem dX12_slip_52 : decode cX12_slip 52 = .ok (.bipush 116, 2) := by decide +kernel
theorem dX12_slip_54 : decode cX12_slip 54 = .ok (.iload_n 1, 1) := by decide +kernel
theorem dX12_slip_55 : decode cX12_slip 55 = .ok (.iadd, 1) := by decide +kernel
theorem dX12_slip_56 : decode cX12_slip 56 = .ok (.iaload, 1) := by decide +kernel
theorem dX12_slip_57 : decode cX12_slip 57 = .ok (.bipush 8, 2) := by decide +kernel
theorem dX12_slip_59 : decode cX12_slip 59 = .ok (.irem, 1) := by decide +kernel
theorem dX12_slip_60 : decode cX12_slip 60 = .ok (.invokevirtual 362, 3) := by decide +kernel
theorem dX12_slip_63 : decode cX12_slip 63 = .ok (.aload_n 0, 1) := by decide +kernel
theorem dX12_slip_64 : decode cX12_slip 64 = .ok (.aload_n 0, 1) := by decide +kernel
theorem dX12_slip_65 : decode cX12_slip 65 = .ok (.getfield 98, 3) := by decide +kernel
theorem dX12_slip_68 : decode cX12_slip 68 = .ok (.bipush 116, 2) := by decide +kernel
theorem dX12_slip_70 : decode cX12_slip 70 = .ok (.iload_n 1, 1) := by decide +kernel
theorem dX12_slip_71 : decode cX12_slip 71 = .ok (.iadd, 1) := by decide +kernel
theorem dX12_slip_72 : decode cX12_slip 72 = .ok (.iaload, 1) := by decide +kernel
theorem dX12_slip_73 : decode cX12_slip 73 = .ok (.bipush 8, 2) := by decide +kernel
theorem dX12_slip_75 : decode cX12_slip 75 = .ok (.idiv, 1) := by decide +kernel
theorem dX12_slip_76 : decode cX12_slip 76 = .ok (.invokevirtual 362, 3) := by decide +kernel
theorem dX12_slip_79 : decode cX12_slip 79 = .ok (.aload_n 0, 1) := by decide +kernel
theorem dX12_slip_80 : decode cX12_slip 80 = .ok (.bipush 104, 2) := by decide +kernel
theorem dX12_slip_82 : decode cX12_slip 82 = .ok (.bipush 97, 2) := by decide +kernel
theorem dX12_slip_84 : decode cX12_slip 84 = .ok (.bipush 115, 2) := by decide +kernel
theorem dX12_slip_86 : decode cX12_slip 86 = .ok (.iconst 0, 1) := by decide +kernel
theorem dX12_slip_87 : decode cX12_slip 87 = .ok (.iconst 0, 1) := by decide +kernel
theorem dX12_slip_88 : decode cX12_slip 88 = .ok (.iconst 0, 1) := by decide +kernel
theorem dX12_slip_89 : decode cX12_slip 89 = .ok (.invokestatic 58, 3) := by decide +kernel
theorem dX12_slip_92 : decode cX12_slip 92 = .ok (.invokevirtual 359, 3) := by decide +kernel
theorem dX12_slip_95 : decode cX12_slip 95 = .ok (.aload_n 0, 1) := by decide +kernel
theorem dX12_slip_96 : decode cX12_slip 96 = .ok (.aload_n 0, 1) := by decide +kernel
theorem dX12_slip_97 : decode cX12_slip 97 = .ok (.getfield 98, 3) := by decide +kernel
theorem dX12_slip_100 : decode cX12_slip 100 = .ok (.bipush 122, 2) := by decide +kernel
theorem dX12_slip_102 : decode cX12_slip 102 = .ok (.iload_n 1, 1) := by decide +kernel
theorem dX12_slip_103 : decode cX12_slip 103 = .ok (.iadd, 1) := by decide +kernel
theorem dX12_slip_104 : decode cX12_slip 104 = .ok (.iaload, 1) := by decide +kernel
theorem dX12_slip_105 : decode cX12_slip 105 = .ok (.invokevirtual 362, 3) := by decide +kernel
theorem dX12_slip_108 : decode cX12_slip 108 = .ok (.aload_n 0, 1) := by decide +kernel
theorem dX12_slip_109 : decode cX12_slip 109 = .ok (.aload_n 0, 1) := by decide +kernel
theorem dX12_slip_110 : decode cX12_slip 110 = .ok (.getfield 98, 3) := by decide +kernel
theorem dX12_slip_113 : decode cX12_slip 113 = .ok (.bipush 116, 2) := by decide +kernel
theorem dX12_slip_115 : decode cX12_slip 115 = .ok (.iload_n 1, 1) := by decide +kernel
theorem dX12_slip_116 : decode cX12_slip 116 = .ok (.iadd, 1) := by decide +kernel
theorem dX12_slip_117 : decode cX12_slip 117 = .ok (.iaload, 1) := by decide +kernel
theorem dX12_slip_118 : decode cX12_slip 118 = .ok (.invokevirtual 265, 3) := by decide +kernel
theorem dX12_slip_121 : decode cX12_slip 121 = .ok (.aload_n 0, 1) := by decide +kernel
theorem dX12_slip_122 : decode cX12_slip 122 = .ok (.getfield 98, 3) := by decide +kernel
theorem dX12_slip_125 : decode cX12_slip 125 = .ok (.bipush 107, 2) := by decide +kernel
theorem dX12_slip_127 : decode cX12_slip 127 = .ok (.iaload, 1) := by decide +kernel
theorem dX12_slip_128 : decode cX12_slip 128 = .ok (.iconst (-1), 1) := by decide +kernel
theorem dX12_slip_129 : decode cX12_slip 129 = .ok (.ixor, 1) := by decide +kernel
theorem dX12_slip_130 : decode cX12_slip 130 = .ok (.iand, 1) := by decide +kernel
theorem dX12_slip_131 : decode cX12_slip 131 = .ok (.istore_n 2, 1) := by decide +kernel
theorem dX12_slip_132 : decode cX12_slip 132 = .ok (.iconst 0, 1) := by decide +kernel
theorem dX12_slip_133 : decode cX12_slip 133 = .ok (.istore_n 3, 1) := by decide +kernel
theorem dX12_slip_134 : decode cX12_slip 134 = .ok (.iload_n 3, 1) := by decide +kernel
theorem dX12_slip_135 : decode cX12_slip 135 = .ok (.iconst 5, 1) := by decide +kernel
theorem dX12_slip_136 : decode cX12_slip 136 = .ok (.if_icmp .ge 17, 3) := by decide +kernel
theorem dX12_slip_139 : decode cX12_slip 139 = .ok (.iload_n 2, 1) := by decide +kernel
theorem dX12_slip_140 : decode cX12_slip 140 = .ok (.iload_n 3, 1) := by decide +kernel
theorem dX12_slip_141 : decode cX12_slip 141 = .ok (.invokestatic 235, 3) := by decide +kernel
theorem dX12_slip_144 : decode cX12_slip 144 = .ok (.ifCond .ne 9, 3) := by decide +kernel
theorem dX12_slip_147 : decode cX12_slip 147 = .ok (.iinc 3 1, 3) := by decide +kernel
theorem dX12_slip_150 : decode cX12_slip 150 = .ok (.goto (-16), 3) := by decide +kernel
theorem dX12_slip_153 : decode cX12_slip 153 = .ok (.iload_n 3, 1) := by decide +kernel
theorem dX12_slip_154 : decode cX12_slip 154 = .ok (.iconst 5, 1) := by decide +kernel
theorem dX12_slip_155 : decode cX12_slip 155 = .ok (.if_icmp .ne 8, 3) := by decide +kernel
theorem dX12_slip_158 : decode cX12_slip 158 = .ok (.aload_n 0, 1) := by decide +kernel
theorem dX12_slip_159 : decode cX12_slip 159 = .ok (.getfield 346, 3) := by decide +kernel
theorem dX12_slip_162 : decode cX12_slip 162 = .ok (.ireturn, 1) := by decide +kernel
theorem dX12_slip_163 : decode cX12_slip 163 = .ok (.aload_n 0, 1) := by decide +kernel
theorem dX12_slip_164 : decode cX12_slip 164 = .ok (.bipush 19, 2) := by decide +kernel
theorem dX12_slip_166 : decode cX12_slip 166 = .ok (.invokestatic 62, 3) := by decide +kernel
theorem dX12_slip_169 : decode cX12_slip 169 = .ok (.invokevirtual 359, 3) := by decide +kernel
theorem dX12_slip_172 : decode cX12_slip 172 = .ok (.aload_n 0, 1) := by decide +kernel
theorem dX12_slip_173 : decode cX12_slip 173 = .ok (.aload_n 0, 1) := by decide +kernel
theorem dX12_slip_174 : decode cX12_slip 174 = .ok (.getfield 113, 3) := by decide +kernel
theorem dX12_slip_177 : decode cX12_slip 177 = .ok (.iload_n 3, 1) := by decide +kernel
theorem dX12_slip_178 : decode cX12_slip 178 = .ok (.laload, 1) := by decide +kernel
theorem dX12_slip_179 : decode cX12_slip 179 = .ok (.invokevirtual 359, 3) := by decide +kernel
theorem dX12_slip_182 : decode cX12_slip 182 = .ok (.aload_n 0, 1) := by decide +kernel
theorem dX12_slip_183 : decode cX12_slip 183 = .ok (.getfield 346, 3) := by decide +kernel
theorem dX12_slip_186 : decode cX12_slip 186 = .ok (.ireturn, 1) := by decide +kernel
theorem dX12_snap_0 : decode cX12_snap 0 = .ok (.aload_n 0, 1) := by decide +kernel
theorem dX12_snap_1 : decode cX12_snap 1 = .ok (.getfield 232, 3) := by decide +kernel
theorem dX12_snap_4 : decode cX12_snap 4 = .ok (.bipush 8, 2) := by decide +kernel
theorem dX12_snap_6 : decode cX12_snap 6 = .ok (.if_icmp .ne 43, 3) := by decide +kernel
theorem dX12_snap_9 : decode cX12_snap 9 = .ok (.iconst 0, 1) := by decide +kernel
theorem dX12_snap_10 : decode cX12_snap 10 = .ok (.istore_n 1, 1) := by decide +kernel
theorem dX12_snap_11 : decode cX12_snap 11 = .ok (.iload_n 1, 1) := by decide +kernel
theorem dX12_snap_12 : decode cX12_snap 12 = .ok (.sipush 602, 3) := by decide +kernel
theorem dX12_snap_15 : decode cX12_snap 15 = .ok (.if_icmp .ge 24, 3) := by decide +kernel
theorem dX12_snap_18 : decode cX12_snap 18 = .ok (.aload_n 0, 1) := by decide +kernel
theorem dX12_snap_19 : decode cX12_snap 19 = .ok (.getfield 107, 3) := by decide +kernel
theorem dX12_snap_22 : decode cX12_snap 22 = .ok (.iload_n 1, 1) := by decide +kernel
theorem dX12_snap_23 : decode cX12_snap 23 = .ok (.aload_n 0, 1) := by decide +kernel
theorem dX12_snap_24 : decode cX12_snap 24 = .ok (.getfield 107, 3) := by decide +kernel
theorem dX12_snap_27 : decode cX12_snap 27 = .ok (.iload_n 1, 1) := by decide +kernel
theorem dX12_snap_28 : decode cX12_snap 28 = .ok (.bipush 86, 2) := by decide +kernel
theorem dX12_snap_30 : decode cX12_snap 30 = .ok (.iadd, 1) := by decide +kernel
theorem dX12_snap_31 : decode cX12_snap 31 = .ok (.iaload, 1) := by decide +kernel
theorem dX12_snap_32 : decode cX12_snap 32 = .ok (.iastore, 1) := by decide +kernel
theorem dX12_snap_33 : decode cX12_snap 33 = .ok (.iinc 1 1, 3) := by decide +kernel
theorem dX12_snap_36 : decode cX12_snap 36 = .ok (.goto (-25), 3) := by decide +kernel
theorem dX12_snap_39 : decode cX12_snap 39 = .ok (.aload_n 0, 1) := by decide +kernel
theorem dX12_snap_40 : decode cX12_snap 40 = .ok (.dup, 1) := by decide +kernel
theorem dX12_snap_41 : decode cX12_snap 41 = .ok (.getfield 232, 3) := by decide +kernel
theorem dX12_snap_44 : decode cX12_snap 44 = .ok (.iconst 1, 1) := by decide +kernel
theorem dX12_snap_45 : decode cX12_snap 45 = .ok (.isub, 1) := by decide +kernel
theorem dX12_snap_46 : decode cX12_snap 46 = .ok (.putfield 232, 3) := by decide +kernel
theorem dX12_snap_49 : decode cX12_snap 49 = .ok (.iconst 0, 1) := by decide +kernel
theorem dX12_snap_50 : decode cX12_snap 50 = .ok (.istore_n 1, 1) := by decide +kernel
theorem dX12_snap_51 : decode cX12_snap 51 = .ok (.iload_n 1, 1) := by decide +kernel
theorem dX12_snap_52 : decode cX12_snap 52 = .ok (.bipush 86, 2) := by decide +kernel
theorem dX12_snap_54 : decode cX12_snap 54 = .ok (.if_icmp .ge 32, 3) := by decide +kernel
theorem dX12_snap_57 : decode cX12_snap 57 = .ok (.aload_n 0, 1) := by decide +kernel
theorem dX12_snap_58 : decode cX12_snap 58 = .ok (.getfield 107, 3) := by decide +kernel
theorem dX12_snap_61 : decode cX12_snap 61 = .ok (.bipush 86, 2) := by decide +kernel
theorem dX12_snap_63 : decode cX12_snap 63 = .ok (.aload_n 0, 1) := by decide +kernel
theorem dX12_snap_64 : decode cX12_snap 64 = .ok (.getfield 232, 3) := by decide +kernel
theorem dX12_snap_67 : decode cX12_snap 67 = .ok (.imul, 1) := by decide +kernel
theorem dX12_snap_68 : decode cX12_snap 68 = .ok (.iload_n 1, 1) := by decide +kernel
theorem dX12_snap_69 : decode cX12_snap 69 = .ok (.iadd, 1) := by decide +kernel
theorem dX12_snap_70 : decode cX12_snap 70 = .ok (.aload_n 0, 1) := by decide +kernel
theorem dX12_snap_71 : decode cX12_snap 71 = .ok (.getfield 98, 3) := by decide +kernel
theorem dX12_snap_74 : decode cX12_snap 74 = .ok (.bipush 106, 2) := by decide +kernel
theorem dX12_snap_76 : decode cX12_snap 76 = .ok (.iload_n 1, 1) := by decide +kernel
theorem dX12_snap_77 : decode cX12_snap 77 = .ok (.iadd, 1) := by decide +kernel
theorem dX12_snap_78 : decode cX12_snap 78 = .ok (.iaload, 1) := by decide +kernel
theorem dX12_snap_79 : decode cX12_snap 79 = .ok (.iastore, 1) := by decide +kernel
theorem dX12_snap_80 : decode cX12_snap 80 = .ok (.iinc 1 1, 3) := by decide +kernel
theorem dX12_snap_83 : decode cX12_snap 83 = .ok (.goto (-32), 3) := by decide +kernel
theorem dX12_snap_86 : decode cX12_snap 86 = .ok (.aload_n 0, 1) := by decide +kernel
theorem dX12_snap_87 : decode cX12_snap 87 = .ok (.dup, 1) := by decide +kernel
theorem dX12_snap_88 : decode cX12_snap 88 = .ok (.getfield 232, 3) := by decide +kernel
theorem dX12_snap_91 : decode cX12_snap 91 = .ok (.iconst 1, 1) := by decide +kernel
theorem dX12_snap_92 : decode cX12_snap 92 = .ok (.iadd, 1) := by decide +kernel
theorem dX12_snap_93 : decode cX12_snap 93 = .ok (.putfield 232, 3) := by decide +kernel
theorem dX12_snap_96 : decode cX12_snap 96 = .ok (.return_, 1) := by decide +kernel
theorem dX12_spare_0 : decode cX12_spare 0 = .ok (.aload_n 0, 1) := by decide +kernel
theorem dX12_spare_1 : decode cX12_spare 1 = .ok (.iconst 0, 1) := by decide +kernel
theorem dX12_spare_2 : decode cX12_spare 2 = .ok (.putfield 1, 3) := by decide +kernel
theorem dX12_spare_5 : decode cX12_spare 5 = .ok (.aload_n 0, 1) := by decide +kernel
theorem dX12_spare_6 : decode cX12_spare 6 = .ok (.iload_n 1, 1) := by decide +kernel
theorem dX12_spare_7 : decode cX12_spare 7 = .ok (.invokevirtual 280, 3) := by decide +kernel
theorem dX12_spare_10 : decode cX12_spare 10 = .ok (.ifCond .eq 19, 3) := by decide +kernel
theorem dX12_spare_13 : decode cX12_spare 13 = .ok (.aload_n 0, 1) := by decide +kernel
theorem dX12_spare_14 : decode cX12_spare 14 = .ok (.iload_n 2, 1) := by decide +kernel
theorem dX12_spare_15 : decode cX12_spare 15 = .ok (.invokevirtual 268, 3) := by decide +kernel
theorem dX12_spare_18 : decode cX12_spare 18 = .ok (.ifCond .eq 11, 3) := by decide +kernel
theorem dX12_spare_21 : decode cX12_spare 21 = .ok (.aload_n 0, 1) := by decide +kernel
theorem dX12_spare_22 : decode cX12_spare 22 = .ok (.iload_n 3, 1) := by decide +kernel
theorem dX12_spare_23 : decode cX12_spare 23 = .ok (.invokevirtual 322, 3) := by decide +kernel
theorem dX12_spare_26 : decode cX12_spare 26 = .ok (.ifCond .ne 5, 3) := by decide +kernel
theorem dX12_spare_29 : decode cX12_spare 29 = .ok (.iconst (-1), 1) := by decide +kernel
theorem dX12_spare_30 : decode cX12_spare 30 = .ok (.ireturn, 1) := by decide +kernel
theorem dX12_spare_31 : decode cX12_spare 31 = .ok (.aload_n 0, 1) := by decide +kernel
theorem dX12_spare_32 : decode cX12_spare 32 = .ok (.iload_n 2, 1) := by decide +kernel
theorem dX12_spare_33 : decode cX12_spare 33 = .ok (.iload_n 3, 1) := by decide +kernel
theorem dX12_spare_34 : decode cX12_spare 34 = .ok (.invokevirtual 277, 3) := by decide +kernel
theorem dX12_spare_37 : decode cX12_spare 37 = .ok (.iload_n 1, 1) := by decide +kernel
theorem dX12_spare_38 : decode cX12_spare 38 = .ok (.invokestatic 235, 3) := by decide +kernel
theorem dX12_spare_41 : decode cX12_spare 41 = .ok (.ifCond .ne 5, 3) := by decide +kernel
theorem dX12_spare_44 : decode cX12_spare 44 = .ok (.iconst 0, 1) := by decide +kernel
theorem dX12_spare_45 : decode cX12_spare 45 = .ok (.ireturn, 1) := by decide +kernel
theorem dX12_spare_46 : decode cX12_spare 46 = .ok (.iconst (-1), 1) := by decide +kernel
theorem dX12_spare_47 : decode cX12_spare 47 = .ok (.istore 4, 2) := by decide +kernel
theorem dX12_spare_49 : decode cX12_spare 49 = .ok (.aload_n 0, 1) := by decide +kernel
theorem dX12_spare_50 : decode cX12_spare 50 = .ok (.getfield 98, 3) := by decide +kernel
theorem dX12_spare_53 : decode cX12_spare 53 = .ok (.iconst 5, 1) := by decide +kernel
theorem dX12_spare_54 : decode cX12_spare 54 = .ok (.iload_n 2, 1) := by decide +kernel
theorem dX12_spare_55 : decode cX12_spare 55 = .ok (.iadd, 1) := by decide +kernel
theorem dX12_spare_56 : decode cX12_spare 56 = .ok (.iaload, 1) := by decide +kernel
theorem dX12_spare_57 : decode cX12_spare 57 = .ok (.istore 5, 2) := by decide +kernel
theorem dX12_spare_59 : decode cX12_spare 59 = .ok (.aload_n 0, 1) := by decide +kernel
theorem dX12_spare_60 : decode cX12_spare 60 = .ok (.getfield 98, 3) := by decide +kernel
theorem dX12_spare_63 : decode cX12_spare 63 = .ok (.bipush 10, 2) := by decide +kernel
theorem dX12_spare_65 : decode cX12_spare 65 = .ok (.iload_n 2, 1) := by decide +kernel
theorem dX12_spare_66 : decode cX12_spare 66 = .ok (.iadd, 1) := by decide +kernel
theorem dX12_spare_67 : decode cX12_spare 67 = .ok (.iaload, 1) := by decide +kernel
theorem dX12_spare_68 : decode cX12_spare 68 = .ok (.istore 6, 2) := by decide +kernel
theorem dX12_spare_70 : decode cX12_spare 70 = .ok (.aload_n 0, 1) := by decide +kernel
theorem dX12_spare_71 : decode cX12_spare 71 = .ok (.iload 5, 2) := by decide +kernel
theorem dX12_spare_73 : decode cX12_spare 73 = .ok (.aload_n 0, 1) := by decide +kernel
theorem dX12_spare_74 : decode cX12_spare 74 = .ok (.getfield 98, 3) := by decide +kernel
theorem dX12_spare_77 : decode cX12_spare 77 = .ok (.bipush 26, 2) := by decide +kernel
theorem dX12_spare_79 : decode cX12_spare 79 = .ok (.iload_n 3, 1) := by decide +kernel
theorem dX12_spare_80 : decode cX12_spare 80 = .ok (.iadd, 1) := by decide +kernel
theorem dX12_spare_81 : decode cX12_spare 81 = .ok (.iaload, 1) := by decide +kernel
theorem dX12_spare_82 : decode cX12_spare 82 = .ok (.invokevirtual 247, 3) := by decide +kernel
theorem dX12_spare_85 : decode cX12_spare 85 = .ok (.istore 5, 2) := by decide +kernel
theorem dX12_spare_87 : decode cX12_spare 87 = .ok (.iload 6, 2) := by decide +kernel
theorem dX12_spare_89 : decode cX12_spare 89 = .ok (.aload_n 0, 1) := by decide +kernel
theorem dX12_spare_90 : decode cX12_spare 90 = .ok (.getfield 98, 3) := by decide +kernel
theorem dX12_spare_93 : decode cX12_spare 93 = .ok (.bipush 34, 2) := by decide +kernel
theorem dX12_spare_95 : decode cX12_spare 95 = .ok (.iload_n 3, 1) := by decide +kernel
theorem dX12_spare_96 : decode cX12_spare 96 = .ok (.iadd, 1) := by decide +kernel
theorem dX12_spare_97 : decode cX12_spare 97 = .ok (.iaload, 1) := by decide +kernel
theorem dX12_spare_98 : decode cX12_spare 98 = .ok (.isub, 1) := by decide +kernel
theorem dX12_spare_99 : decode cX12_spare 99 = .ok (.istore 6, 2) := by decide +kernel
theorem dX12_spare_101 : decode cX12_spare 101 = .ok (.iload 5, 2) := by decide +kernel
theorem dX12_spare_103 : decode cX12_spare 103 = .ok (.aload_n 0, 1) := by decide +kernel
theorem dX12_spare_104 : decode cX12_spare 104 = .ok (.getfield 98, 3) := by decide +kernel
theorem dX12_spare_107 : decode cX12_spare 107 = .ok (.bipush 116, 2) := by decide +kernel
theorem dX12_spare_109 : decode cX12_spare 109 = .ok (.iload_n 1, 1) := by decide +kernel
theorem dX12_spare_110 : decode cX12_spare 110 = .ok (.iadd, 1) := by decide +kernel
theorem dX12_spare_111 : decode cX12_spare 111 = .ok (.iaload, 1) := by decide +kernel
theorem dX12_spare_112 : decode cX12_spare 112 = .ok (.if_icmp .ne 6, 3) := by decide +kernel
theorem dX12_spare_115 : decode cX12_spare 115 = .ok (.iload 4, 2) := by decide +kernel
theorem dX12_spare_117 : decode cX12_spare 117 = .ok (.ireturn, 1) := by decide +kernel
theorem dX12_spare_118 : decode cX12_spare 118 = .ok (.iload 6, 2) := by decide +kernel
theorem dX12_spare_120 : decode cX12_spare 120 = .ok (.aload_n 0, 1) := by decide +kernel
theorem dX12_spare_121 : decode cX12_spare 121 = .ok (.getfield 98, 3) := by decide +kernel
theorem dX12_spare_124 : decode cX12_spare 124 = .ok (.sipush 128, 3) := by decide +kernel
theorem dX12_spare_127 : decode cX12_spare 127 = .ok (.iload 5, 2) := by decide +kernel
theorem dX12_spare_129 : decode cX12_spare 129 = .ok (.iadd, 1) := by decide +kernel
theorem dX12_spare_130 : decode cX12_spare 130 = .ok (.iaload, 1) := by decide +kernel
theorem dX12_spare_131 : decode cX12_spare 131 = .ok (.isub, 1) := by decide +kernel
theorem dX12_spare_132 : decode cX12_spare 132 = .ok (.istore 7, 2) := by decide +kernel
theorem dX12_spare_134 : decode cX12_spare 134 = .ok (.aload_n 0, 1) := by decide +kernel
theorem dX12_spare_135 : decode cX12_spare 135 = .ok (.iload 5, 2) := by decide +kernel
theorem dX12_spare_137 : decode cX12_spare 137 = .ok (.invokevirtual 238, 3) := by decide +kernel
theorem dX12_spare_140 : decode cX12_spare 140 = .ok (.iconst (-1), 1) := by decide +kernel
theorem dX12_spare_141 : decode cX12_spare 141 = .ok (.if_icmp .ne (-71), 3) := by decide +kernel
theorem dX12_spare_144 : decode cX12_spare 144 = .ok (.aload_n 0, 1) := by decide +kernel
theorem dX12_spare_145 : decode cX12_spare 145 = .ok (.iload 5, 2) := by decide +kernel
theorem dX12_spare_147 : decode cX12_spare 147 = .ok (.invokevirtual 262, 3) := by decide +kernel
theorem dX12_spare_150 : decode cX12_spare 150 = .ok (.ifCond .ne (-80), 3) := by decide +kernel
theorem dX12_spare_153 : decode cX12_spare 153 = .ok (.iload 6, 2) := by decide +kernel
theorem dX12_spare_155 : decode cX12_spare 155 = .ok (.bipush 9, 2) := by decide +kernel
theorem dX12_spare_157 : decode cX12_spare 157 = .ok (.if_icmp .gt (-87), 3) := by decide +kernel
theorem dX12_spare_160 : decode cX12_spare 160 = .ok (.iload 4, 2) := by decide +kernel
theorem dX12_spare_162 : decode cX12_spare 162 = .ok (.iconst (-1), 1) := by decide +kernel
theorem dX12_spare_163 : decode cX12_spare 163 = .ok (.if_icmp .eq 13, 3) := by decide +kernel
theorem dX12_spare_166 : decode cX12_spare 166 = .ok (.iload 7, 2) := by decide +kernel
theorem dX12_spare_168 : decode cX12_spare 168 = .ok (.iload 4, 2) := by decide +kernel
theorem dX12_spare_170 : decode cX12_spare 170 = .ok (.if_icmp .lt 6, 3) := by decide +kernel
theorem dX12_spare_173 : decode cX12_spare 173 = .ok (.goto (-103), 3) := by decide +kernel
theorem dX12_spare_176 : decode cX12_spare 176 = .ok (.iload 7, 2) := by decide +kernel
theorem dX12_spare_178 : decode cX12_spare 178 = .ok (.istore 4, 2) := by decide +kernel
theorem dX12_spare_180 : decode cX12_spare 180 = .ok (.aload_n 0, 1) := by decide +kernel
theorem dX12_spare_181 : decode cX12_spare 181 = .ok (.iload 5, 2) := by decide +kernel
theorem dX12_spare_183 : decode cX12_spare 183 = .ok (.putfield 127, 3) := by decide +kernel
theorem dX12_spare_186 : decode cX12_spare 186 = .ok (.goto (-116), 3) := by decide +kernel
theorem dX12_spareAt_0 : decode cX12_spareAt 0 = .ok (.aload_n 0, 1) := by decide +kernel
theorem dX12_spareAt_1 : decode cX12_spareAt 1 = .ok (.iconst 0, 1) := by decide +kernel
theorem dX12_spareAt_2 : decode cX12_spareAt 2 = .ok (.putfield 1, 3) := by decide +kernel
theorem dX12_spareAt_5 : decode cX12_spareAt 5 = .ok (.aload_n 0, 1) := by decide +kernel
theorem dX12_spareAt_6 : decode cX12_spareAt 6 = .ok (.getfield 127, 3) := by decide +kernel
theorem dX12_spareAt_9 : decode cX12_spareAt 9 = .ok (.ireturn, 1) := by decide +kernel
theorem dX12_spelt_0 : decode cX12_spelt 0 = .ok (.iload_n 0, 1) := by decide +kernel
theorem dX12_spelt_1 : decode cX12_spelt 1 = .ok (.i2l, 1) := by decide +kernel
theorem dX12_spelt_2 : decode cX12_spelt 2 = .ok (.ldc2_w 56, 3) := by decide +kernel
theorem dX12_spelt_5 : decode cX12_spelt 5 = .ok (.lsub, 1) := by decide +kernel
theorem dX12_spelt_6 : decode cX12_spelt 6 = .ok (.lstore 6, 2) := by decide +kernel
theorem dX12_spelt_8 : decode cX12_spelt 8 = .ok (.iload_n 1, 1) := by decide +kernel
theorem dX12_spelt_9 : decode cX12_spelt 9 = .ok (.ifCond .le 18, 3) := by decide +kernel
theorem dX12_spelt_12 : decode cX12_spelt 12 = .ok (.ldc2_w 54, 3) := by decide +kernel
theorem dX12_spelt_15 : decode cX12_spelt 15 = .ok (.lload 6, 2) := by decide +kernel
theorem dX12_spelt_17 : decode cX12_spelt 17 = .ok (.lmul, 1) := by decide +kernel
theorem dX12_spelt_18 : decode cX12_spelt 18 = .ok (.iload_n 1, 1) := by decide +kernel
theorem dX12_spelt_19 : decode cX12_spelt 19 = .ok (.i2l, 1) := by decide +kernel
theorem dX12_spelt_20 : decode cX12_spelt 20 = .ok (.ladd, 1) := by decide +kernel
theorem dX12_spelt_21 : decode cX12_spelt 21 = .ok (.ldc2_w 56, 3) := by decide +kernel
theorem dX12_spelt_24 : decode cX12_spelt 24 = .ok (.lsub, 1) := by decide +kernel
theorem dX12_spelt_25 : decode cX12_spelt 25 = .ok (.lstore 6, 2) := by decide +kernel
theorem dX12_spelt_27 : decode cX12_spelt 27 = .ok (.iload_n 2, 1) := by decide +kernel
theorem dX12_spelt_28 : decode cX12_spelt 28 = .ok (.ifCond .le 18, 3) := by decide +kernel
theorem dX12_spelt_31 : decode cX12_spelt 31 = .ok (.ldc2_w 54, 3) := by decide +kernel
theorem dX12_spelt_34 : decode cX12_spelt 34 = .ok (.lload 6, 2) := by decide +kernel
theorem dX12_spelt_36 : decode cX12_spelt 36 = .ok (.lmul, 1) := by decide +kernel
theorem dX12_spelt_37 : decode cX12_spelt 37 = .ok (.iload_n 2, 1) := by decide +kernel
theorem dX12_spelt_38 : decode cX12_spelt 38 = .ok (.i2l, 1) := by decide +kernel
theorem dX12_spelt_39 : decode cX12_spelt 39 = .ok (.ladd, 1) := by decide +kernel
theorem dX12_spelt_40 : decode cX12_spelt 40 = .ok (.ldc2_w 56, 3) := by decide +kernel
theorem dX12_spelt_43 : decode cX12_spelt 43 = .ok (.lsub, 1) := by decide +kernel
theorem dX12_spelt_44 : decode cX12_spelt 44 = .ok (.lstore 6, 2) := by decide +kernel
theorem dX12_spelt_46 : decode cX12_spelt 46 = .ok (.iload_n 3, 1) := by decide +kernel
theorem dX12_spelt_47 : decode cX12_spelt 47 = .ok (.ifCond .le 18, 3) := by decide +kernel
theorem dX12_spelt_50 : decode cX12_spelt 50 = .ok (.ldc2_w 54, 3) := by decide +kernel
theorem dX12_spelt_53 : decode cX12_spelt 53 = .ok (.lload 6, 2) := by decide +kernel
theorem dX12_spelt_55 : decode cX12_spelt 55 = .ok (.lmul, 1) := by decide +kernel
theorem dX12_spelt_56 : decode cX12_spelt 56 = .ok (.iload_n 3, 1) := by decide +kernel
theorem dX12_spelt_57 : decode cX12_spelt 57 = .ok (.i2l, 1) := by decide +kernel
theorem dX12_spelt_58 : decode cX12_spelt 58 = .ok (.ladd, 1) := by decide +kernel
theorem dX12_spelt_59 : decode cX12_spelt 59 = .ok (.ldc2_w 56, 3) := by decide +kernel
theorem dX12_spelt_62 : decode cX12_spelt 62 = .ok (.lsub, 1) := by decide +kernel
theorem dX12_spelt_63 : decode cX12_spelt 63 = .ok (.lstore 6, 2) := by decide +kernel
theorem dX12_spelt_65 : decode cX12_spelt 65 = .ok (.iload 4, 2) := by decide +kernel
theorem dX12_spelt_67 : decode cX12_spelt 67 = .ok (.ifCond .le 19, 3) := by decide +kernel
theorem dX12_spelt_70 : decode cX12_spelt 70 = .ok (.ldc2_w 54, 3) := by decide +kernel
theorem dX12_spelt_73 : decode cX12_spelt 73 = .ok (.lload 6, 2) := by decide +kernel
theorem dX12_spelt_75 : decode cX12_spelt 75 = .ok (.lmul, 1) := by decide +kernel
theorem dX12_spelt_76 : decode cX12_spelt 76 = .ok (.iload 4, 2) := by decide +kernel
theorem dX12_spelt_78 : decode cX12_spelt 78 = .ok (.i2l, 1) := by decide +kernel
theorem dX12_spelt_79 : decode cX12_spelt 79 = .ok (.ladd, 1) := by decide +kernel
theorem dX12_spelt_80 : decode cX12_spelt 80 = .ok (.ldc2_w 56, 3) := by decide +kernel
theorem dX12_spelt_83 : decode cX12_spelt 83 = .ok (.lsub, 1) := by decide +kernel
theorem dX12_spelt_84 : decode cX12_spelt 84 = .ok (.lstore 6, 2) := by decide +kernel
theorem dX12_spelt_86 : decode cX12_spelt 86 = .ok (.iload 5, 2) := by decide +kernel
theorem dX12_spelt_88 : decode cX12_spelt 88 = .ok (.ifCond .le 19, 3) := by decide +kernel
theorem dX12_spelt_91 : decode cX12_spelt 91 = .ok (.ldc2_w 54, 3) := by decide +kernel
theorem dX12_spelt_94 : decode cX12_spelt 94 = .ok (.lload 6, 2) := by decide +kernel
theorem dX12_spelt_96 : decode cX12_spelt 96 = .ok (.lmul, 1) := by decide +kernel
theorem dX12_spelt_97 : decode cX12_spelt 97 = .ok (.iload 5, 2) := by decide +kernel
theorem dX12_spelt_99 : decode cX12_spelt 99 = .ok (.i2l, 1) := by decide +kernel
theorem dX12_spelt_100 : decode cX12_spelt 100 = .ok (.ladd, 1) := by decide +kernel
theorem dX12_spelt_101 : decode cX12_spelt 101 = .ok (.ldc2_w 56, 3) := by decide +kernel
theorem dX12_spelt_104 : decode cX12_spelt 104 = .ok (.lsub, 1) := by decide +kernel
theorem dX12_spelt_105 : decode cX12_spelt 105 = .ok (.lstore 6, 2) := by decide +kernel
theorem dX12_spelt_107 : decode cX12_spelt 107 = .ok (.lload 6, 2) := by decide +kernel
theorem dX12_spelt_109 : decode cX12_spelt 109 = .ok (.lreturn, 1) := by decide +kernel
theorem dX12_startSo_0 : decode cX12_startSo 0 = .ok (.bipush 106, 2) := by decide +kernel
theorem dX12_startSo_2 : decode cX12_startSo 2 = .ok (.istore_n 1, 1) := by decide +kernel
theorem dX12_startSo_3 : decode cX12_startSo 3 = .ok (.iload_n 1, 1) := by decide +kernel
theorem dX12_startSo_4 : decode cX12_startSo 4 = .ok (.sipush 434, 3) := by decide +kernel
theorem dX12_startSo_7 : decode cX12_startSo 7 = .ok (.if_icmp .ge 16, 3) := by decide +kernel
theorem dX12_startSo_10 : decode cX12_startSo 10 = .ok (.aload_n 0, 1) := by decide +kernel
theorem dX12_startSo_11 : decode cX12_startSo 11 = .ok (.getfield 98, 3) := by decide +kernel
theorem dX12_startSo_14 : decode cX12_startSo 14 = .ok (.iload_n 1, 1) := by decide +kernel
theorem dX12_startSo_15 : decode cX12_startSo 15 = .ok (.iconst 0, 1) := by decide +kernel
theorem dX12_startSo_16 : decode cX12_startSo 16 = .ok (.iastore, 1) := by decide +kernel
theorem dX12_startSo_17 : decode cX12_startSo 17 = .ok (.iinc 1 1, 3) := by decide +kernel
theorem dX12_startSo_20 : decode cX12_startSo 20 = .ok (.goto (-17), 3) := by decide +kernel
theorem dX12_startSo_23 : decode cX12_startSo 23 = .ok (.iconst 0, 1) := by decide +kernel
theorem dX12_startSo_24 : decode cX12_startSo 24 = .ok (.istore_n 1, 1) := by decide +kernel
theorem dX12_startSo_25 : decode cX12_startSo 25 = .ok (.iload_n 1, 1) := by decide +kernel
theorem dX12_startSo_26 : decode cX12_startSo 26 = .ok (.iconst 5, 1) := by decide +kernel
theorem dX12_startSo_27 : decode cX12_startSo 27 = .ok (.if_icmp .ge 27, 3) := by decide +kernel
theorem dX12_startSo_30 : decode cX12_startSo 30 = .ok (.aload_n 0, 1) := by decide +kernel
theorem dX12_startSo_31 : decode cX12_startSo 31 = .ok (.getfield 98, 3) := by decide +kernel
theorem dX12_startSo_34 : decode cX12_startSo 34 = .ok (.bipush 111, 2) := by decide +kernel
theorem dX12_startSo_36 : decode cX12_startSo 36 = .ok (.iload_n 1, 1) := by decide +kernel
theorem dX12_startSo_37 : decode cX12_startSo 37 = .ok (.iadd, 1) := by decide +kernel
theorem dX12_startSo_38 : decode cX12_startSo 38 = .ok (.aload_n 0, 1) := by decide +kernel
theorem dX12_startSo_39 : decode cX12_startSo 39 = .ok (.getfield 98, 3) := by decide +kernel
theorem dX12_startSo_42 : decode cX12_startSo 42 = .ok (.bipush 15, 2) := by decide +kernel
theorem dX12_startSo_44 : decode cX12_startSo 44 = .ok (.iload_n 1, 1) := by decide +kernel
theorem dX12_startSo_45 : decode cX12_startSo 45 = .ok (.iadd, 1) := by decide +kernel
theorem dX12_startSo_46 : decode cX12_startSo 46 = .ok (.iaload, 1) := by decide +kernel
theorem dX12_startSo_47 : decode cX12_startSo 47 = .ok (.iastore, 1) := by decide +kernel
theorem dX12_startSo_48 : decode cX12_startSo 48 = .ok (.iinc 1 1, 3) := by decide +kernel
theorem dX12_startSo_51 : decode cX12_startSo 51 = .ok (.goto (-26), 3) := by decide +kernel
theorem dX12_startSo_54 : decode cX12_startSo 54 = .ok (.iconst 0, 1) := by decide +kernel
theorem dX12_startSo_55 : decode cX12_startSo 55 = .ok (.istore_n 1, 1) := by decide +kernel
theorem dX12_startSo_56 : decode cX12_startSo 56 = .ok (.iload_n 1, 1) := by decide +kernel
theorem dX12_startSo_57 : decode cX12_startSo 57 = .ok (.bipush 6, 2) := by decide +kernel
theorem dX12_startSo_59 : decode cX12_startSo 59 = .ok (.if_icmp .ge 27, 3) := by decide +kernel
theorem dX12_startSo_62 : decode cX12_startSo 62 = .ok (.aload_n 0, 1) := by decide +kernel
theorem dX12_startSo_63 : decode cX12_startSo 63 = .ok (.getfield 98, 3) := by decide +kernel
theorem dX12_startSo_66 : decode cX12_startSo 66 = .ok (.bipush 116, 2) := by decide +kernel
theorem dX12_startSo_68 : decode cX12_startSo 68 = .ok (.iload_n 1, 1) := by decide +kernel
theorem dX12_startSo_69 : decode cX12_startSo 69 = .ok (.iadd, 1) := by decide +kernel
theorem dX12_startSo_70 : decode cX12_startSo 70 = .ok (.aload_n 0, 1) := by decide +kernel
theorem dX12_startSo_71 : decode cX12_startSo 71 = .ok (.getfield 98, 3) := by decide +kernel
theorem dX12_startSo_74 : decode cX12_startSo 74 = .ok (.bipush 20, 2) := by decide +kernel
theorem dX12_startSo_76 : decode cX12_startSo 76 = .ok (.iload_n 1, 1) := by decide +kernel
theorem dX12_startSo_77 : decode cX12_startSo 77 = .ok (.iadd, 1) := by decide +kernel
theorem dX12_startSo_78 : decode cX12_startSo 78 = .ok (.iaload, 1) := by decide +kernel
theorem dX12_startSo_79 : decode cX12_startSo 79 = .ok (.iastore, 1) := by decide +kernel
theorem dX12_startSo_80 : decode cX12_startSo 80 = .ok (.iinc 1 1, 3) := by decide +kernel
theorem dX12_startSo_83 : decode cX12_startSo 83 = .ok (.goto (-27), 3) := by decide +kernel
theorem dX12_startSo_86 : decode cX12_startSo 86 = .ok (.iconst 0, 1) := by decide +kernel
theorem dX12_startSo_87 : decode cX12_startSo 87 = .ok (.istore_n 1, 1) := by decide +kernel
theorem dX12_startSo_88 : decode cX12_startSo 88 = .ok (.iload_n 1, 1) := by decide +kernel
theorem dX12_startSo_89 : decode cX12_startSo 89 = .ok (.bipush 64, 2) := by decide +kernel
theorem dX12_startSo_91 : decode cX12_startSo 91 = .ok (.if_icmp .ge 28, 3) := by decide +kernel
theorem dX12_startSo_94 : decode cX12_startSo 94 = .ok (.aload_n 0, 1) := by decide +kernel
theorem dX12_startSo_95 : decode cX12_startSo 95 = .ok (.getfield 98, 3) := by decide +kernel
theorem dX12_startSo_98 : decode cX12_startSo 98 = .ok (.sipush 128, 3) := by decide +kernel
theorem dX12_startSo_101 : decode cX12_startSo 101 = .ok (.iload_n 1, 1) := by decide +kernel
theorem dX12_startSo_102 : decode cX12_startSo 102 = .ok (.iadd, 1) := by decide +kernel
theorem dX12_startSo_103 : decode cX12_startSo 103 = .ok (.aload_n 0, 1) := by decide +kernel
theorem dX12_startSo_104 : decode cX12_startSo 104 = .ok (.getfield 98, 3) := by decide +kernel
theorem dX12_startSo_107 : decode cX12_startSo 107 = .ok (.bipush 42, 2) := by decide +kernel
theorem dX12_startSo_109 : decode cX12_startSo 109 = .ok (.iload_n 1, 1) := by decide +kernel
theorem dX12_startSo_110 : decode cX12_startSo 110 = .ok (.iadd, 1) := by decide +kernel
theorem dX12_startSo_111 : decode cX12_startSo 111 = .ok (.iaload, 1) := by decide +kernel
theorem dX12_startSo_112 : decode cX12_startSo 112 = .ok (.iastore, 1) := by decide +kernel
theorem dX12_startSo_113 : decode cX12_startSo 113 = .ok (.iinc 1 1, 3) := by decide +kernel
theorem dX12_startSo_116 : decode cX12_startSo 116 = .ok (.goto (-28), 3) := by decide +kernel
theorem dX12_startSo_119 : decode cX12_startSo 119 = .ok (.return_, 1) := by decide +kernel
theorem dX12_stay_0 : decode cX12_stay 0 = .ok (.iconst 0, 1) := by decide +kernel
theorem dX12_stay_1 : decode cX12_stay 1 = .ok (.istore_n 2, 1) := by decide +kernel
theorem dX12_stay_2 : decode cX12_stay 2 = .ok (.iload_n 2, 1) := by decide +kernel
theorem dX12_stay_3 : decode cX12_stay 3 = .ok (.bipush 86, 2) := by decide +kernel
theorem dX12_stay_5 : decode cX12_stay 5 = .ok (.if_icmp .ge 41, 3) := by decide +kernel
theorem dX12_stay_8 : decode cX12_stay 8 = .ok (.aload_n 0, 1) := by decide +kernel
theorem dX12_stay_9 : decode cX12_stay 9 = .ok (.getfield 98, 3) := by decide +kernel
theorem dX12_stay_12 : decode cX12_stay 12 = .ok (.bipush 106, 2) := by decide +kernel
theorem dX12_stay_14 : decode cX12_stay 14 = .ok (.iload_n 2, 1) := by decide +kernel
theorem dX12_stay_15 : decode cX12_stay 15 = .ok (.iadd, 1) := by decide +kernel
theorem dX12_stay_16 : decode cX12_stay 16 = .ok (.iaload, 1) := by decide +kernel
theorem dX12_stay_17 : decode cX12_stay 17 = .ok (.istore_n 3, 1) := by decide +kernel
theorem dX12_stay_18 : decode cX12_stay 18 = .ok (.aload_n 0, 1) := by decide +kernel
theorem dX12_stay_19 : decode cX12_stay 19 = .ok (.getfield 98, 3) := by decide +kernel
theorem dX12_stay_22 : decode cX12_stay 22 = .ok (.bipush 106, 2) := by decide +kernel
theorem dX12_stay_24 : decode cX12_stay 24 = .ok (.iload_n 2, 1) := by decide +kernel
theorem dX12_stay_25 : decode cX12_stay 25 = .ok (.iadd, 1) := by decide +kernel
theorem dX12_stay_26 : decode cX12_stay 26 = .ok (.aload_n 0, 1) := by decide +kernel
theorem dX12_stay_27 : decode cX12_stay 27 = .ok (.getfield 110, 3) := by decide +kernel
theorem dX12_stay_30 : decode cX12_stay 30 = .ok (.iload_n 2, 1) := by decide +kernel
theorem dX12_stay_31 : decode cX12_stay 31 = .ok (.iaload, 1) := by decide +kernel
theorem dX12_stay_32 : decode cX12_stay 32 = .ok (.iastore, 1) := by decide +kernel
theorem dX12_stay_33 : decode cX12_stay 33 = .ok (.aload_n 0, 1) := by decide +kernel
theorem dX12_stay_34 : decode cX12_stay 34 = .ok (.getfield 110, 3) := by decide +kernel
theorem dX12_stay_37 : decode cX12_stay 37 = .ok (.iload_n 2, 1) := by decide +kernel
theorem dX12_stay_38 : decode cX12_stay 38 = .ok (.iload_n 3, 1) := by decide +kernel
theorem dX12_stay_39 : decode cX12_stay 39 = .ok (.iastore, 1) := by decide +kernel
theorem dX12_stay_40 : decode cX12_stay 40 = .ok (.iinc 2 1, 3) := by decide +kernel
theorem dX12_stay_43 : decode cX12_stay 43 = .ok (.goto (-41), 3) := by decide +kernel
theorem dX12_stay_46 : decode cX12_stay 46 = .ok (.iload_n 1, 1) := by decide +kernel
theorem dX12_stay_47 : decode cX12_stay 47 = .ok (.ifCond .ne 4, 3) := by decide +kernel
theorem dX12_stay_50 : decode cX12_stay 50 = .ok (.return_, 1) := by decide +kernel
theorem dX12_stay_51 : decode cX12_stay 51 = .ok (.aload_n 0, 1) := by decide +kernel
theorem dX12_stay_52 : decode cX12_stay 52 = .ok (.invokevirtual 305, 3) := by decide +kernel
theorem dX12_stay_55 : decode cX12_stay 55 = .ok (.aload_n 0, 1) := by decide +kernel
theorem dX12_stay_56 : decode cX12_stay 56 = .ok (.invokevirtual 384, 3) := by decide +kernel
theorem dX12_stay_59 : decode cX12_stay 59 = .ok (.return_, 1) := by decide +kernel
theorem dX12_sum_0 : decode cX12_sum 0 = .ok (.iconst 0, 1) := by decide +kernel
theorem dX12_sum_1 : decode cX12_sum 1 = .ok (.istore_n 3, 1) := by decide +kernel
theorem dX12_sum_2 : decode cX12_sum 2 = .ok (.iconst 0, 1) := by decide +kernel
theorem dX12_sum_3 : decode cX12_sum 3 = .ok (.istore 4, 2) := by decide +kernel
theorem dX12_sum_5 : decode cX12_sum 5 = .ok (.iload 4, 2) := by decide +kernel
theorem dX12_sum_7 : decode cX12_sum 7 = .ok (.iload_n 2, 1) := by decide +kernel
theorem dX12_sum_8 : decode cX12_sum 8 = .ok (.if_icmp .ge 21, 3) := by decide +kernel
theorem dX12_sum_11 : decode cX12_sum 11 = .ok (.iload_n 3, 1) := by decide +kernel
theorem dX12_sum_12 : decode cX12_sum 12 = .ok (.aload_n 0, 1) := by decide +kernel
theorem dX12_sum_13 : decode cX12_sum 13 = .ok (.getfield 98, 3) := by decide +kernel
theorem dX12_sum_16 : decode cX12_sum 16 = .ok (.iload_n 1, 1) := by decide +kernel
theorem dX12_sum_17 : decode cX12_sum 17 = .ok (.iload 4, 2) := by decide +kernel
theorem dX12_sum_19 : decode cX12_sum 19 = .ok (.iadd, 1) := by decide +kernel
theorem dX12_sum_20 : decode cX12_sum 20 = .ok (.iaload, 1) := by decide +kernel
theorem dX12_sum_21 : decode cX12_sum 21 = .ok (.iadd, 1) := by decide +kernel
theorem dX12_sum_22 : decode cX12_sum 22 = .ok (.istore_n 3, 1) := by decide +kernel
theorem dX12_sum_23 : decode cX12_sum 23 = .ok (.iinc 4 1, 3) := by decide +kernel
theorem dX12_sum_26 : decode cX12_sum 26 = .ok (.goto (-21), 3) := by decide +kernel
theorem dX12_sum_29 : decode cX12_sum 29 = .ok (.iload_n 3, 1) := by decide +kernel
theorem dX12_sum_30 : decode cX12_sum 30 = .ok (.ireturn, 1) := by decide +kernel
theorem dX12_sunNow_0 : decode cX12_sunNow 0 = .ok (.aload_n 0, 1) := by decide +kernel
theorem dX12_sunNow_1 : decode cX12_sunNow 1 = .ok (.getfield 98, 3) := by decide +kernel
theorem dX12_sunNow_4 : decode cX12_sunNow 4 = .ok (.iconst 4, 1) := by decide +kernel
theorem dX12_sunNow_5 : decode cX12_sunNow 5 = .ok (.iaload, 1) := by decide +kernel
theorem dX12_sunNow_6 : decode cX12_sunNow 6 = .ok (.ifCond .ne 7, 3) := by decide +kernel
theorem dX12_sunNow_9 : decode cX12_sunNow 9 = .ok (.iconst (-1), 1) := by decide +kernel
theorem dX12_sunNow_10 : decode cX12_sunNow 10 = .ok (.goto 17, 3) := by decide +kernel
theorem dX12_sunNow_13 : decode cX12_sunNow 13 = .ok (.aload_n 0, 1) := by decide +kernel
theorem dX12_sunNow_14 : decode cX12_sunNow 14 = .ok (.getfield 98, 3) := by decide +kernel
theorem dX12_sunNow_17 : decode cX12_sunNow 17 = .ok (.bipush 106, 2) := by decide +kernel
theorem dX12_sunNow_19 : decode cX12_sunNow 19 = .ok (.iaload, 1) := by decide +kernel
theorem dX12_sunNow_20 : decode cX12_sunNow 20 = .ok (.aload_n 0, 1) := by decide +kernel
theorem dX12_sunNow_21 : decode cX12_sunNow 21 = .ok (.getfield 98, 3) := by decide +kernel
theorem dX12_sunNow_24 : decode cX12_sunNow 24 = .ok (.iconst 4, 1) := by decide +kernel
theorem dX12_sunNow_25 : decode cX12_sunNow 25 = .ok (.iaload, 1) := by decide +kernel
theorem dX12_sunNow_26 : decode cX12_sunNow 26 = .ok (.irem, 1) := by decide +kernel
theorem dX12_sunNow_27 : decode cX12_sunNow 27 = .ok (.ireturn, 1) := by decide +kernel
theorem dX12_take_0 : decode cX12_take 0 = .ok (.aload_n 0, 1) := by decide +kernel
theorem dX12_take_1 : decode cX12_take 1 = .ok (.getfield 11, 3) := by decide +kernel
theorem dX12_take_4 : decode cX12_take 4 = .ok (.istore_n 1, 1) := by decide +kernel
theorem dX12_take_5 : decode cX12_take 5 = .ok (.aload_n 0, 1) := by decide +kernel
theorem dX12_take_6 : decode cX12_take 6 = .ok (.iconst 0, 1) := by decide +kernel
theorem dX12_take_7 : decode cX12_take 7 = .ok (.putfield 11, 3) := by decide +kernel
theorem dX12_take_10 : decode cX12_take 10 = .ok (.iload_n 1, 1) := by decide +kernel
theorem dX12_take_11 : decode cX12_take 11 = .ok (.ireturn, 1) := by decide +kernel
theorem dX12_takeBack_0 : decode cX12_takeBack 0 = .ok (.iconst 0, 1) := by decide +kernel
theorem dX12_takeBack_1 : decode cX12_takeBack 1 = .ok (.istore_n 1, 1) := by decide +kernel
theorem dX12_takeBack_2 : decode cX12_takeBack 2 = .ok (.iload_n 1, 1) := by decide +kernel
theorem dX12_takeBack_3 : decode cX12_takeBack 3 = .ok (.bipush 86, 2) := by decide +kernel
theorem dX12_takeBack_5 : decode cX12_takeBack 5 = .ok (.if_icmp .ge 24, 3) := by decide +kernel
theorem dX12_takeBack_8 : decode cX12_takeBack 8 = .ok (.aload_n 0, 1) := by decide +kernel
theorem dX12_takeBack_9 : decode cX12_takeBack 9 = .ok (.getfield 98, 3) := by decide +kernel
theorem dX12_takeBack_12 : decode cX12_takeBack 12 = .ok (.bipush 106, 2) := by decide +kernel
theorem dX12_takeBack_14 : decode cX12_takeBack 14 = .ok (.iload_n 1, 1) := by decide +kernel
theorem dX12_takeBack_15 : decode cX12_takeBack 15 = .ok (.iadd, 1) := by decide +kernel
theorem dX12_takeBack_16 : decode cX12_takeBack 16 = .ok (.aload_n 0, 1) := by decide +kernel
theorem dX12_takeBack_17 : decode cX12_takeBack 17 = .ok (.getfield 110, 3) := by decide +kernel
theorem dX12_takeBack_20 : decode cX12_takeBack 20 = .ok (.iload_n 1, 1) := by decide +kernel
theorem dX12_takeBack_21 : decode cX12_takeBack 21 = .ok (.iaload, 1) := by decide +kernel
theorem dX12_takeBack_22 : decode cX12_takeBack 22 = .ok (.iastore, 1) := by decide +kernel
theorem dX12_takeBack_23 : decode cX12_takeBack 23 = .ok (.iinc 1 1, 3) := by decide +kernel
theorem dX12_takeBack_26 : decode cX12_takeBack 26 = .ok (.goto (-24), 3) := by decide +kernel
theorem dX12_takeBack_29 : decode cX12_takeBack 29 = .ok (.return_, 1) := by decide +kernel
theorem dX12_tapeAt_0 : decode cX12_tapeAt 0 = .ok (.iload_n 1, 1) := by decide +kernel
theorem dX12_tapeAt_1 : decode cX12_tapeAt 1 = .ok (.aload_n 0, 1) := by decide +kernel
theorem dX12_tapeAt_2 : decode cX12_tapeAt 2 = .ok (.getfield 18, 3) := by decide +kernel
theorem dX12_tapeAt_5 : decode cX12_tapeAt 5 = .ok (.if_icmp .ge 12, 3) := by decide +kernel
theorem dX12_tapeAt_8 : decode cX12_tapeAt 8 = .ok (.aload_n 0, 1) := by decide +kernel
theorem dX12_tapeAt_9 : decode cX12_tapeAt 9 = .ok (.getfield 7, 3) := by decide +kernel
theorem dX12_tapeAt_12 : decode cX12_tapeAt 12 = .ok (.iload_n 1, 1) := by decide +kernel
theorem dX12_tapeAt_13 : decode cX12_tapeAt 13 = .ok (.iaload, 1) := by decide +kernel
theorem dX12_tapeAt_14 : decode cX12_tapeAt 14 = .ok (.goto 4, 3) := by decide +kernel
theorem dX12_tapeAt_17 : decode cX12_tapeAt 17 = .ok (.iconst 0, 1) := by decide +kernel
theorem dX12_tapeAt_18 : decode cX12_tapeAt 18 = .ok (.ireturn, 1) := by decide +kernel
theorem dX12_tear_0 : decode cX12_tear 0 = .ok (.aload_n 0, 1) := by decide +kernel
theorem dX12_tear_1 : decode cX12_tear 1 = .ok (.iconst 0, 1) := by decide +kernel
theorem dX12_tear_2 : decode cX12_tear 2 = .ok (.putfield 1, 3) := by decide +kernel
theorem dX12_tear_5 : decode cX12_tear 5 = .ok (.aload_n 0, 1) := by decide +kernel
theorem dX12_tear_6 : decode cX12_tear 6 = .ok (.iconst 2, 1) := by decide +kernel
theorem dX12_tear_7 : decode cX12_tear 7 = .ok (.bipush 8, 2) := by decide +kernel
theorem dX12_tear_9 : decode cX12_tear 9 = .ok (.iload_n 2, 1) := by decide +kernel
theorem dX12_tear_10 : decode cX12_tear 10 = .ok (.imul, 1) := by decide +kernel
theorem dX12_tear_11 : decode cX12_tear 11 = .ok (.iload_n 1, 1) := by decide +kernel
theorem dX12_tear_12 : decode cX12_tear 12 = .ok (.iadd, 1) := by decide +kernel
theorem dX12_tear_13 : decode cX12_tear 13 = .ok (.iconst 0, 1) := by decide +kernel
theorem dX12_tear_14 : decode cX12_tear 14 = .ok (.aload_n 0, 1) := by decide +kernel
theorem dX12_tear_15 : decode cX12_tear 15 = .ok (.iload_n 1, 1) := by decide +kernel
theorem dX12_tear_16 : decode cX12_tear 16 = .ok (.iload_n 2, 1) := by decide +kernel
theorem dX12_tear_17 : decode cX12_tear 17 = .ok (.invokevirtual 244, 3) := by decide +kernel
theorem dX12_tear_20 : decode cX12_tear 20 = .ok (.invokevirtual 312, 3) := by decide +kernel
theorem dX12_tear_23 : decode cX12_tear 23 = .ok (.ireturn, 1) := by decide +kernel
theorem dX12_thrown_0 : decode cX12_thrown 0 = .ok (.aload_n 0, 1) := by decide +kernel
theorem dX12_thrown_1 : decode cX12_thrown 1 = .ok (.getfield 1, 3) := by decide +kernel
theorem dX12_thrown_4 : decode cX12_thrown 4 = .ok (.ireturn, 1) := by decide +kernel
theorem dX12_told_0 : decode cX12_told 0 = .ok (.aload_n 0, 1) := by decide +kernel
theorem dX12_told_1 : decode cX12_told 1 = .ok (.iconst 0, 1) := by decide +kernel
theorem dX12_told_2 : decode cX12_told 2 = .ok (.putfield 1, 3) := by decide +kernel
theorem dX12_told_5 : decode cX12_told 5 = .ok (.aload_n 0, 1) := by decide +kernel
theorem dX12_told_6 : decode cX12_told 6 = .ok (.getfield 405, 3) := by decide +kernel
theorem dX12_told_9 : decode cX12_told 9 = .ok (.ifCond .eq 21, 3) := by decide +kernel
theorem dX12_told_12 : decode cX12_told 12 = .ok (.iload_n 1, 1) := by decide +kernel
theorem dX12_told_13 : decode cX12_told 13 = .ok (.iconst 0, 1) := by decide +kernel
theorem dX12_told_14 : decode cX12_told 14 = .ok (.iconst 3, 1) := by decide +kernel
theorem dX12_told_15 : decode cX12_told 15 = .ok (.invokestatic 75, 3) := by decide +kernel
theorem dX12_told_18 : decode cX12_told 18 = .ok (.ifCond .eq 12, 3) := by decide +kernel
theorem dX12_told_21 : decode cX12_told 21 = .ok (.aload_n 0, 1) := by decide +kernel
theorem dX12_told_22 : decode cX12_told 22 = .ok (.getfield 157, 3) := by decide +kernel
theorem dX12_told_25 : decode cX12_told 25 = .ok (.iload_n 1, 1) := by decide +kernel
theorem dX12_told_26 : decode cX12_told 26 = .ok (.iaload, 1) := by decide +kernel
theorem dX12_told_27 : decode cX12_told 27 = .ok (.goto 4, 3) := by decide +kernel
theorem dX12_told_30 : decode cX12_told 30 = .ok (.iconst (-1), 1) := by decide +kernel
theorem dX12_told_31 : decode cX12_told 31 = .ok (.ireturn, 1) := by decide +kernel
theorem dX12_touchedBy_0 : decode cX12_touchedBy 0 = .ok (.iload_n 2, 1) := by decide +kernel
theorem dX12_touchedBy_1 : decode cX12_touchedBy 1 = .ok (.iconst (-1), 1) := by decide +kernel
theorem dX12_touchedBy_2 : decode cX12_touchedBy 2 = .ok (.if_icmp .ne 5, 3) := by decide +kernel
theorem dX12_touchedBy_5 : decode cX12_touchedBy 5 = .ok (.iconst 0, 1) := by decide +kernel
theorem dX12_touchedBy_6 : decode cX12_touchedBy 6 = .ok (.ireturn, 1) := by decide +kernel
theorem dX12_touchedBy_7 : decode cX12_touchedBy 7 = .ok (.aload_n 0, 1) := by decide +kernel
theorem dX12_touchedBy_8 : decode cX12_touchedBy 8 = .ok (.iload_n 1, 1) := by decide +kernel
theorem dX12_touchedBy_9 : decode cX12_touchedBy 9 = .ok (.iload_n 2, 1) := by decide +kernel
theorem dX12_touchedBy_10 : decode cX12_touchedBy 10 = .ok (.invokevirtual 251, 3) := by decide +kernel
theorem dX12_touchedBy_13 : decode cX12_touchedBy 13 = .ok (.lstore_n 3, 1) := by decide +kernel
theorem dX12_touchedBy_14 : decode cX12_touchedBy 14 = .ok (.iconst 0, 1) := by decide +kernel
theorem dX12_touchedBy_15 : decode cX12_touchedBy 15 = .ok (.istore 5, 2) := by decide +kernel
theorem dX12_touchedBy_17 : decode cX12_touchedBy 17 = .ok (.iconst 0, 1) := by decide +kernel
theorem dX12_touchedBy_18 : decode cX12_touchedBy 18 = .ok (.istore 6, 2) := by decide +kernel
theorem dX12_touchedBy_20 : decode cX12_touchedBy 20 = .ok (.iload 6, 2) := by decide +kernel
theorem dX12_touchedBy_22 : decode cX12_touchedBy 22 = .ok (.aload_n 0, 1) := by decide +kernel
theorem dX12_touchedBy_23 : decode cX12_touchedBy 23 = .ok (.getfield 98, 3) := by decide +kernel
theorem dX12_touchedBy_26 : decode cX12_touchedBy 26 = .ok (.iconst 3, 1) := by decide +kernel
theorem dX12_touchedBy_27 : decode cX12_touchedBy 27 = .ok (.iaload, 1) := by decide +kernel
theorem dX12_touchedBy_28 : decode cX12_touchedBy 28 = .ok (.if_icmp .ge 35, 3) := by decide +kernel
theorem dX12_touchedBy_31 : decode cX12_touchedBy 31 = .ok (.lload_n 3, 1) := by decide +kernel
theorem dX12_touchedBy_32 : decode cX12_touchedBy 32 = .ok (.aload_n 0, 1) := by decide +kernel
theorem dX12_touchedBy_33 : decode cX12_touchedBy 33 = .ok (.getfield 98, 3) := by decide +kernel
theorem dX12_touchedBy_36 : decode cX12_touchedBy 36 = .ok (.bipush 116, 2) := by decide +kernel
theorem dX12_touchedBy_38 : decode cX12_touchedBy 38 = .ok (.iload 6, 2) := by decide +kernel
theorem dX12_touchedBy_40 : decode cX12_touchedBy 40 = .ok (.iadd, 1) := by decide +kernel
theorem dX12_touchedBy_41 : decode cX12_touchedBy 41 = .ok (.iaload, 1) := by decide +kernel
theorem dX12_touchedBy_42 : decode cX12_touchedBy 42 = .ok (.invokestatic 255, 3) := by decide +kernel
theorem dX12_touchedBy_45 : decode cX12_touchedBy 45 = .ok (.ifCond .eq 12, 3) := by decide +kernel
theorem dX12_touchedBy_48 : decode cX12_touchedBy 48 = .ok (.iload 5, 2) := by decide +kernel
theorem dX12_touchedBy_50 : decode cX12_touchedBy 50 = .ok (.iconst 1, 1) := by decide +kernel
theorem dX12_touchedBy_51 : decode cX12_touchedBy 51 = .ok (.iload 6, 2) := by decide +kernel
theorem dX12_touchedBy_53 : decode cX12_touchedBy 53 = .ok (.ishl, 1) := by decide +kernel
theorem dX12_touchedBy_54 : decode cX12_touchedBy 54 = .ok (.ior, 1) := by decide +kernel
theorem dX12_touchedBy_55 : decode cX12_touchedBy 55 = .ok (.istore 5, 2) := by decide +kernel
theorem dX12_touchedBy_57 : decode cX12_touchedBy 57 = .ok (.iinc 6 1, 3) := by decide +kernel
theorem dX12_touchedBy_60 : decode cX12_touchedBy 60 = .ok (.goto (-40), 3) := by decide +kernel
theorem dX12_touchedBy_63 : decode cX12_touchedBy 63 = .ok (.iload 5, 2) := by decide +kernel
theorem dX12_touchedBy_65 : decode cX12_touchedBy 65 = .ok (.ireturn, 1) := by decide +kernel
theorem dX12_undo_0 : decode cX12_undo 0 = .ok (.aload_n 0, 1) := by decide +kernel
theorem dX12_undo_1 : decode cX12_undo 1 = .ok (.iconst 0, 1) := by decide +kernel
theorem dX12_undo_2 : decode cX12_undo 2 = .ok (.putfield 1, 3) := by decide +kernel
theorem dX12_undo_5 : decode cX12_undo 5 = .ok (.aload_n 0, 1) := by decide +kernel
theorem dX12_undo_6 : decode cX12_undo 6 = .ok (.getfield 232, 3) := by decide +kernel
theorem dX12_undo_9 : decode cX12_undo 9 = .ok (.ifCond .ne 5, 3) := by decide +kernel
theorem dX12_undo_12 : decode cX12_undo 12 = .ok (.iconst (-1), 1) := by decide +kernel
theorem dX12_undo_13 : decode cX12_undo 13 = .ok (.ireturn, 1) := by decide +kernel
theorem dX12_undo_14 : decode cX12_undo 14 = .ok (.aload_n 0, 1) := by decide +kernel
theorem dX12_undo_15 : decode cX12_undo 15 = .ok (.dup, 1) := by decide +kernel
theorem dX12_undo_16 : decode cX12_undo 16 = .ok (.getfield 232, 3) := by decide +kernel
theorem dX12_undo_19 : decode cX12_undo 19 = .ok (.iconst 1, 1) := by decide +kernel
theorem dX12_undo_20 : decode cX12_undo 20 = .ok (.isub, 1) := by decide +kernel
theorem dX12_undo_21 : decode cX12_undo 21 = .ok (.putfield 232, 3) := by decide +kernel
theorem dX12_undo_24 : decode cX12_undo 24 = .ok (.iconst 0, 1) := by decide +kernel
theorem dX12_undo_25 : decode cX12_undo 25 = .ok (.istore_n 1, 1) := by decide +kernel
theorem dX12_undo_26 : decode cX12_undo 26 = .ok (.iload_n 1, 1) := by decide +kernel
theorem dX12_undo_27 : decode cX12_undo 27 = .ok (.bipush 86, 2) := by decide +kernel
theorem dX12_undo_29 : decode cX12_undo 29 = .ok (.if_icmp .ge 32, 3) := by decide +kernel
theorem dX12_undo_32 : decode cX12_undo 32 = .ok (.aload_n 0, 1) := by decide +kernel
theorem dX12_undo_33 : decode cX12_undo 33 = .ok (.getfield 98, 3) := by decide +kernel
theorem dX12_undo_36 : decode cX12_undo 36 = .ok (.bipush 106, 2) := by decide +kernel
theorem dX12_undo_38 : decode cX12_undo 38 = .ok (.iload_n 1, 1) := by decide +kernel
theorem dX12_undo_39 : decode cX12_undo 39 = .ok (.iadd, 1) := by decide +kernel
theorem dX12_undo_40 : decode cX12_undo 40 = .ok (.aload_n 0, 1) := by decide +kernel
theorem dX12_undo_41 : decode cX12_undo 41 = .ok (.getfield 107, 3) := by decide +kernel
theorem dX12_undo_44 : decode cX12_undo 44 = .ok (.bipush 86, 2) := by decide +kernel
theorem dX12_undo_46 : decode cX12_undo 46 = .ok (.aload_n 0, 1) := by decide +kernel
theorem dX12_undo_47 : decode cX12_undo 47 = .ok (.getfield 232, 3) := by decide +kernel
theorem dX12_undo_50 : decode cX12_undo 50 = .ok (.imul, 1) := by decide +kernel
theorem dX12_undo_51 : decode cX12_undo 51 = .ok (.iload_n 1, 1) := by decide +kernel
theorem dX12_undo_52 : decode cX12_undo 52 = .ok (.iadd, 1) := by decide +kernel
theorem dX12_undo_53 : decode cX12_undo 53 = .ok (.iaload, 1) := by decide +kernel
theorem dX12_undo_54 : decode cX12_undo 54 = .ok (.iastore, 1) := by decide +kernel
theorem dX12_undo_55 : decode cX12_undo 55 = .ok (.iinc 1 1, 3) := by decide +kernel
theorem dX12_undo_58 : decode cX12_undo 58 = .ok (.goto (-32), 3) := by decide +kernel
theorem dX12_undo_61 : decode cX12_undo 61 = .ok (.aload_n 0, 1) := by decide +kernel
theorem dX12_undo_62 : decode cX12_undo 62 = .ok (.getfield 232, 3) := by decide +kernel
theorem dX12_undo_65 : decode cX12_undo 65 = .ok (.ireturn, 1) := by decide +kernel
theorem dX12_when_0 : decode cX12_when 0 = .ok (.aload_n 0, 1) := by decide +kernel
theorem dX12_when_1 : decode cX12_when 1 = .ok (.iconst 0, 1) := by decide +kernel
theorem dX12_when_2 : decode cX12_when 2 = .ok (.putfield 1, 3) := by decide +kernel
theorem dX12_when_5 : decode cX12_when 5 = .ok (.aload_n 0, 1) := by decide +kernel
theorem dX12_when_6 : decode cX12_when 6 = .ok (.invokevirtual 89, 3) := by decide +kernel
theorem dX12_when_9 : decode cX12_when 9 = .ok (.istore_n 1, 1) := by decide +kernel
theorem dX12_when_10 : decode cX12_when 10 = .ok (.iload_n 1, 1) := by decide +kernel
theorem dX12_when_11 : decode cX12_when 11 = .ok (.iconst 2, 1) := by decide +kernel
theorem dX12_when_12 : decode cX12_when 12 = .ok (.irem, 1) := by decide +kernel
theorem dX12_when_13 : decode cX12_when 13 = .ok (.iconst 1, 1) := by decide +kernel
theorem dX12_when_14 : decode cX12_when 14 = .ok (.if_icmp .ne 28, 3) := by decide +kernel
theorem dX12_when_17 : decode cX12_when 17 = .ok (.iload_n 1, 1) := by decide +kernel
theorem dX12_when_18 : decode cX12_when 18 = .ok (.iconst 2, 1) := by decide +kernel
theorem dX12_when_19 : decode cX12_when 19 = .ok (.idiv, 1) := by decide +kernel
theorem dX12_when_20 : decode cX12_when 20 = .ok (.iconst 1, 1) := by decide +kernel
theorem dX12_when_21 : decode cX12_when 21 = .ok (.bipush 6, 2) := by decide +kernel
theorem dX12_when_23 : decode cX12_when 23 = .ok (.invokestatic 75, 3) := by decide +kernel
theorem dX12_when_26 : decode cX12_when 26 = .ok (.ifCond .eq 16, 3) := by decide +kernel
theorem dX12_when_29 : decode cX12_when 29 = .ok (.aload_n 0, 1) := by decide +kernel
theorem dX12_when_30 : decode cX12_when 30 = .ok (.aload_n 0, 1) := by decide +kernel
theorem dX12_when_31 : decode cX12_when 31 = .ok (.getfield 7, 3) := by decide +kernel
theorem dX12_when_34 : decode cX12_when 34 = .ok (.iconst 0, 1) := by decide +kernel
theorem dX12_when_35 : decode cX12_when 35 = .ok (.iaload, 1) := by decide +kernel
theorem dX12_when_36 : decode cX12_when 36 = .ok (.invokevirtual 268, 3) := by decide +kernel
theorem dX12_when_39 : decode cX12_when 39 = .ok (.ifCond .ne 5, 3) := by decide +kernel
theorem dX12_when_42 : decode cX12_when 42 = .ok (.iconst (-1), 1) := by decide +kernel
theorem dX12_when_43 : decode cX12_when 43 = .ok (.ireturn, 1) := by decide +kernel
theorem dX12_when_44 : decode cX12_when 44 = .ok (.iconst 1, 1) := by decide +kernel
theorem dX12_when_45 : decode cX12_when 45 = .ok (.istore_n 2, 1) := by decide +kernel
theorem dX12_when_46 : decode cX12_when 46 = .ok (.iload_n 2, 1) := by decide +kernel
theorem dX12_when_47 : decode cX12_when 47 = .ok (.iload_n 1, 1) := by decide +kernel
theorem dX12_when_48 : decode cX12_when 48 = .ok (.if_icmp .ge 36, 3) := by decide +kernel
theorem dX12_when_51 : decode cX12_when 51 = .ok (.aload_n 0, 1) := by decide +kernel
theorem dX12_when_52 : decode cX12_when 52 = .ok (.aload_n 0, 1) := by decide +kernel
theorem dX12_when_53 : decode cX12_when 53 = .ok (.getfield 7, 3) := by decide +kernel
theorem dX12_when_56 : decode cX12_when 56 = .ok (.iload_n 2, 1) := by decide +kernel
theorem dX12_when_57 : decode cX12_when 57 = .ok (.iaload, 1) := by decide +kernel
theorem dX12_when_58 : decode cX12_when 58 = .ok (.invokevirtual 280, 3) := by decide +kernel
theorem dX12_when_61 : decode cX12_when 61 = .ok (.ifCond .eq 15, 3) := by decide +kernel
theorem dX12_when_64 : decode cX12_when 64 = .ok (.aload_n 0, 1) := by decide +kernel
theorem dX12_when_65 : decode cX12_when 65 = .ok (.getfield 7, 3) := by decide +kernel
theorem dX12_when_68 : decode cX12_when 68 = .ok (.iload_n 2, 1) := by decide +kernel
theorem dX12_when_69 : decode cX12_when 69 = .ok (.iconst 1, 1) := by decide +kernel
theorem dX12_when_70 : decode cX12_when 70 = .ok (.iadd, 1) := by decide +kernel
theorem dX12_when_71 : decode cX12_when 71 = .ok (.iaload, 1) := by decide +kernel
theorem dX12_when_72 : decode cX12_when 72 = .ok (.iconst 1, 1) := by decide +kernel
theorem dX12_when_73 : decode cX12_when 73 = .ok (.if_icmp .le 5, 3) := by decide +kernel
theorem dX12_when_76 : decode cX12_when 76 = .ok (.iconst (-1), 1) := by decide +kernel
theorem dX12_when_77 : decode cX12_when 77 = .ok (.ireturn, 1) := by decide +kernel
theorem dX12_when_78 : decode cX12_when 78 = .ok (.iinc 2 2, 3) := by decide +kernel
theorem dX12_when_81 : decode cX12_when 81 = .ok (.goto (-35), 3) := by decide +kernel
theorem dX12_when_84 : decode cX12_when 84 = .ok (.iconst 0, 1) := by decide +kernel
theorem dX12_when_85 : decode cX12_when 85 = .ok (.istore_n 2, 1) := by decide +kernel
theorem dX12_when_86 : decode cX12_when 86 = .ok (.iconst 0, 1) := by decide +kernel
theorem dX12_when_87 : decode cX12_when 87 = .ok (.istore_n 3, 1) := by decide +kernel
theorem dX12_when_88 : decode cX12_when 88 = .ok (.iload_n 3, 1) := by decide +kernel
theorem dX12_when_89 : decode cX12_when 89 = .ok (.aload_n 0, 1) := by decide +kernel
theorem dX12_when_90 : decode cX12_when 90 = .ok (.getfield 98, 3) := by decide +kernel
theorem dX12_when_93 : decode cX12_when 93 = .ok (.iconst 4, 1) := by decide +kernel
theorem dX12_when_94 : decode cX12_when 94 = .ok (.iaload, 1) := by decide +kernel
theorem dX12_when_95 : decode cX12_when 95 = .ok (.if_icmp .ge 24, 3) := by decide +kernel
theorem dX12_when_98 : decode cX12_when 98 = .ok (.aload_n 0, 1) := by decide +kernel
theorem dX12_when_99 : decode cX12_when 99 = .ok (.iload_n 3, 1) := by decide +kernel
theorem dX12_when_100 : decode cX12_when 100 = .ok (.iload_n 1, 1) := by decide +kernel
theorem dX12_when_101 : decode cX12_when 101 = .ok (.invokevirtual 337, 3) := by decide +kernel
theorem dX12_when_104 : decode cX12_when 104 = .ok (.ifCond .eq 9, 3) := by decide +kernel
theorem dX12_when_107 : decode cX12_when 107 = .ok (.iload_n 2, 1) := by decide +kernel
theorem dX12_when_108 : decode cX12_when 108 = .ok (.iconst 1, 1) := by decide +kernel
theorem dX12_when_109 : decode cX12_when 109 = .ok (.iload_n 3, 1) := by decide +kernel
theorem dX12_when_110 : decode cX12_when 110 = .ok (.ishl, 1) := by decide +kernel
theorem dX12_when_111 : decode cX12_when 111 = .ok (.ior, 1) := by decide +kernel
theorem dX12_when_112 : decode cX12_when 112 = .ok (.istore_n 2, 1) := by decide +kernel
theorem dX12_when_113 : decode cX12_when 113 = .ok (.iinc 3 1, 3) := by decide +kernel
theorem dX12_when_116 : decode cX12_when 116 = .ok (.goto (-28), 3) := by decide +kernel
theorem dX12_when_119 : decode cX12_when 119 = .ok (.iload_n 2, 1) := by decide +kernel
theorem dX12_when_120 : decode cX12_when 120 = .ok (.ifCond .ne 5, 3) := by decide +kernel
theorem dX12_when_123 : decode cX12_when 123 = .ok (.iconst 0, 1) := by decide +kernel
theorem dX12_when_124 : decode cX12_when 124 = .ok (.ireturn, 1) := by decide +kernel
theorem dX12_when_125 : decode cX12_when 125 = .ok (.aload_n 0, 1) := by decide +kernel
theorem dX12_when_126 : decode cX12_when 126 = .ok (.iconst 0, 1) := by decide +kernel
theorem dX12_when_127 : decode cX12_when 127 = .ok (.putfield 142, 3) := by decide +kernel
theorem dX12_when_130 : decode cX12_when 130 = .ok (.iconst 1, 1) := by decide +kernel
theorem dX12_when_131 : decode cX12_when 131 = .ok (.istore_n 3, 1) := by decide +kernel
theorem dX12_when_132 : decode cX12_when 132 = .ok (.iload_n 3, 1) := by decide +kernel
theorem dX12_when_133 : decode cX12_when 133 = .ok (.aload_n 0, 1) := by decide +kernel
theorem dX12_when_134 : decode cX12_when 134 = .ok (.getfield 98, 3) := by decide +kernel
theorem dX12_when_137 : decode cX12_when 137 = .ok (.iconst 3, 1) := by decide +kernel
theorem dX12_when_138 : decode cX12_when 138 = .ok (.iaload, 1) := by decide +kernel
theorem dX12_when_139 : decode cX12_when 139 = .ok (.if_icmp .ge 44, 3) := by decide +kernel
theorem dX12_when_142 : decode cX12_when 142 = .ok (.aload_n 0, 1) := by decide +kernel
theorem dX12_when_143 : decode cX12_when 143 = .ok (.iload_n 2, 1) := by decide +kernel
theorem dX12_when_144 : decode cX12_when 144 = .ok (.aload_n 0, 1) := by decide +kernel
theorem dX12_when_145 : decode cX12_when 145 = .ok (.getfield 7, 3) := by decide +kernel
theorem dX12_when_148 : decode cX12_when 148 = .ok (.iconst 0, 1) := by decide +kernel
theorem dX12_when_149 : decode cX12_when 149 = .ok (.iaload, 1) := by decide +kernel
theorem dX12_when_150 : decode cX12_when 150 = .ok (.iload_n 3, 1) := by decide +kernel
theorem dX12_when_151 : decode cX12_when 151 = .ok (.invokevirtual 340, 3) := by decide +kernel
theorem dX12_when_154 : decode cX12_when 154 = .ok (.aload_n 0, 1) := by decide +kernel
theorem dX12_when_155 : decode cX12_when 155 = .ok (.iload_n 2, 1) := by decide +kernel
theorem dX12_when_156 : decode cX12_when 156 = .ok (.aload_n 0, 1) := by decide +kernel
theorem dX12_when_157 : decode cX12_when 157 = .ok (.getfield 7, 3) := by decide +kernel
theorem dX12_when_160 : decode cX12_when 160 = .ok (.iconst 0, 1) := by decide +kernel
theorem dX12_when_161 : decode cX12_when 161 = .ok (.iaload, 1) := by decide +kernel
theorem dX12_when_162 : decode cX12_when 162 = .ok (.aload_n 0, 1) := by decide +kernel
theorem dX12_when_163 : decode cX12_when 163 = .ok (.getfield 142, 3) := by decide +kernel
theorem dX12_when_166 : decode cX12_when 166 = .ok (.invokevirtual 340, 3) := by decide +kernel
theorem dX12_when_169 : decode cX12_when 169 = .ok (.if_icmp .ge 8, 3) := by decide +kernel
theorem dX12_when_172 : decode cX12_when 172 = .ok (.aload_n 0, 1) := by decide +kernel
theorem dX12_when_173 : decode cX12_when 173 = .ok (.iload_n 3, 1) := by decide +kernel
theorem dX12_when_174 : decode cX12_when 174 = .ok (.putfield 142, 3) := by decide +kernel
theorem dX12_when_177 : decode cX12_when 177 = .ok (.iinc 3 1, 3) := by decide +kernel
theorem dX12_when_180 : decode cX12_when 180 = .ok (.goto (-48), 3) := by decide +kernel
theorem dX12_when_183 : decode cX12_when 183 = .ok (.iload_n 2, 1) := by decide +kernel
theorem dX12_when_184 : decode cX12_when 184 = .ok (.ireturn, 1) := by decide +kernel
theorem dX12_why_0 : decode cX12_why 0 = .ok (.iload_n 1, 1) := by decide +kernel
theorem dX12_why_1 : decode cX12_why 1 = .ok (.tableswitch 59 0 2 #[27, 34, 40], 27) := by decide +kernel
theorem dX12_why_28 : decode cX12_why 28 = .ok (.aload_n 0, 1) := by decide +kernel
theorem dX12_why_29 : decode cX12_why 29 = .ok (.iload_n 2, 1) := by decide +kernel
theorem dX12_why_30 : decode cX12_why 30 = .ok (.iload_n 3, 1) := by decide +kernel
theorem dX12_why_31 : decode cX12_why 31 = .ok (.invokevirtual 283, 3) := by decide +kernel
theorem dX12_why_34 : decode cX12_why 34 = .ok (.ireturn, 1) := by decide +kernel
theorem dX12_why_35 : decode cX12_why 35 = .ok (.aload_n 0, 1) := by decide +kernel
theorem dX12_why_36 : decode cX12_why 36 = .ok (.iload_n 2, 1) := by decide +kernel
theorem dX12_why_37 : decode cX12_why 37 = .ok (.invokevirtual 292, 3) := by decide +kernel
theorem dX12_why_40 : decode cX12_why 40 = .ok (.ireturn, 1) := by decide +kernel
theorem dX12_why_41 : decode cX12_why 41 = .ok (.aload_n 0, 1) := by decide +kernel
theorem dX12_why_42 : decode cX12_why 42 = .ok (.getfield 98, 3) := by decide +kernel
theorem dX12_why_45 : decode cX12_why 45 = .ok (.sipush 128, 3) := by decide +kernel
theorem dX12_why_48 : decode cX12_why 48 = .ok (.iload_n 2, 1) := by decide +kernel
theorem dX12_why_49 : decode cX12_why 49 = .ok (.iadd, 1) := by decide +kernel
theorem dX12_why_50 : decode cX12_why 50 = .ok (.iaload, 1) := by decide +kernel
theorem dX12_why_51 : decode cX12_why 51 = .ok (.ifCond .ne 7, 3) := by decide +kernel
theorem dX12_why_54 : decode cX12_why 54 = .ok (.iconst 1, 1) := by decide +kernel
theorem dX12_why_55 : decode cX12_why 55 = .ok (.goto 4, 3) := by decide +kernel
theorem dX12_why_58 : decode cX12_why 58 = .ok (.iconst 0, 1) := by decide +kernel
theorem dX12_why_59 : decode cX12_why 59 = .ok (.ireturn, 1) := by decide +kernel
theorem dX12_why_60 : decode cX12_why 60 = .ok (.aload_n 0, 1) := by decide +kernel
theorem dX12_why_61 : decode cX12_why 61 = .ok (.iload_n 2, 1) := by decide +kernel
theorem dX12_why_62 : decode cX12_why 62 = .ok (.invokevirtual 274, 3) := by decide +kernel
theorem dX12_why_65 : decode cX12_why 65 = .ok (.ifCond .eq 7, 3) := by decide +kernel
theorem dX12_why_68 : decode cX12_why 68 = .ok (.iconst 1, 1) := by decide +kernel
theorem dX12_why_69 : decode cX12_why 69 = .ok (.goto 4, 3) := by decide +kernel
theorem dX12_why_72 : decode cX12_why 72 = .ok (.iconst 0, 1) := by decide +kernel
theorem dX12_why_73 : decode cX12_why 73 = .ok (.ireturn, 1) := by decide +kernel
theorem dX12_whyGo_0 : decode cX12_whyGo 0 = .ok (.aload_n 0, 1) := by decide +kernel
theorem dX12_whyGo_1 : decode cX12_whyGo 1 = .ok (.aload_n 0, 1) := by decide +kernel
theorem dX12_whyGo_2 : decode cX12_whyGo 2 = .ok (.getfield 98, 3) := by decide +kernel
theorem dX12_whyGo_5 : decode cX12_whyGo 5 = .ok (.bipush 116, 2) := by decide +kernel
theorem dX12_whyGo_7 : decode cX12_whyGo 7 = .ok (.iload_n 1, 1) := by decide +kernel
theorem dX12_whyGo_8 : decode cX12_whyGo 8 = .ok (.iadd, 1) := by decide +kernel
theorem dX12_whyGo_9 : decode cX12_whyGo 9 = .ok (.iaload, 1) := by decide +kernel
theorem dX12_whyGo_10 : decode cX12_whyGo 10 = .ok (.iload_n 2, 1) := by decide +kernel
theorem dX12_whyGo_11 : decode cX12_whyGo 11 = .ok (.invokevirtual 247, 3) := by decide +kernel
theorem dX12_whyGo_14 : decode cX12_whyGo 14 = .ok (.istore_n 3, 1) := by decide +kernel
theorem dX12_whyGo_15 : decode cX12_whyGo 15 = .ok (.iload_n 3, 1) := by decide +kernel
theorem dX12_whyGo_16 : decode cX12_whyGo 16 = .ok (.iconst (-1), 1) := by decide +kernel
theorem dX12_whyGo_17 : decode cX12_whyGo 17 = .ok (.if_icmp .ne 7, 3) := by decide +kernel
theorem dX12_whyGo_20 : decode cX12_whyGo 20 = .ok (.iconst 1, 1) := by decide +kernel
theorem dX12_whyGo_21 : decode cX12_whyGo 21 = .ok (.goto 16, 3) := by decide +kernel
theorem dX12_whyGo_24 : decode cX12_whyGo 24 = .ok (.aload_n 0, 1) := by decide +kernel
theorem dX12_whyGo_25 : decode cX12_whyGo 25 = .ok (.iload_n 3, 1) := by decide +kernel
theorem dX12_whyGo_26 : decode cX12_whyGo 26 = .ok (.invokevirtual 289, 3) := by decide +kernel
theorem dX12_whyGo_29 : decode cX12_whyGo 29 = .ok (.ifCond .eq 7, 3) := by decide +kernel
theorem dX12_whyGo_32 : decode cX12_whyGo 32 = .ok (.iconst 0, 1) := by decide +kernel
theorem dX12_whyGo_33 : decode cX12_whyGo 33 = .ok (.goto 4, 3) := by decide +kernel
theorem dX12_whyGo_36 : decode cX12_whyGo 36 = .ok (.iconst 2, 1) := by decide +kernel
theorem dX12_whyGo_37 : decode cX12_whyGo 37 = .ok (.ireturn, 1) := by decide +kernel
theorem dX12_whyLay_0 : decode cX12_whyLay 0 = .ok (.aload_n 0, 1) := by decide +kernel
theorem dX12_whyLay_1 : decode cX12_whyLay 1 = .ok (.iload_n 1, 1) := by decide +kernel
theorem dX12_whyLay_2 : decode cX12_whyLay 2 = .ok (.invokevirtual 238, 3) := by decide +kernel
theorem dX12_whyLay_5 : decode cX12_whyLay 5 = .ok (.iconst (-1), 1) := by decide +kernel
theorem dX12_whyLay_6 : decode cX12_whyLay 6 = .ok (.if_icmp .eq 7, 3) := by decide +kernel
theorem dX12_whyLay_9 : decode cX12_whyLay 9 = .ok (.iconst 1, 1) := by decide +kernel
theorem dX12_whyLay_10 : decode cX12_whyLay 10 = .ok (.goto 35, 3) := by decide +kernel
theorem dX12_whyLay_13 : decode cX12_whyLay 13 = .ok (.aload_n 0, 1) := by decide +kernel
theorem dX12_whyLay_14 : decode cX12_whyLay 14 = .ok (.iload_n 1, 1) := by decide +kernel
theorem dX12_whyLay_15 : decode cX12_whyLay 15 = .ok (.invokevirtual 262, 3) := by decide +kernel
theorem dX12_whyLay_18 : decode cX12_whyLay 18 = .ok (.ifCond .eq 7, 3) := by decide +kernel
theorem dX12_whyLay_21 : decode cX12_whyLay 21 = .ok (.iconst 2, 1) := by decide +kernel
theorem dX12_whyLay_22 : decode cX12_whyLay 22 = .ok (.goto 23, 3) := by decide +kernel
theorem dX12_whyLay_25 : decode cX12_whyLay 25 = .ok (.aload_n 0, 1) := by decide +kernel
theorem dX12_whyLay_26 : decode cX12_whyLay 26 = .ok (.getfield 98, 3) := by decide +kernel
theorem dX12_whyLay_29 : decode cX12_whyLay 29 = .ok (.sipush 128, 3) := by decide +kernel
theorem dX12_whyLay_32 : decode cX12_whyLay 32 = .ok (.iload_n 1, 1) := by decide +kernel
theorem dX12_whyLay_33 : decode cX12_whyLay 33 = .ok (.iadd, 1) := by decide +kernel
theorem dX12_whyLay_34 : decode cX12_whyLay 34 = .ok (.iaload, 1) := by decide +kernel
theorem dX12_whyLay_35 : decode cX12_whyLay 35 = .ok (.bipush 9, 2) := by decide +kernel
theorem dX12_whyLay_37 : decode cX12_whyLay 37 = .ok (.if_icmp .ne 7, 3) := by decide +kernel
theorem dX12_whyLay_40 : decode cX12_whyLay 40 = .ok (.iconst 3, 1) := by decide +kernel
theorem dX12_whyLay_41 : decode cX12_whyLay 41 = .ok (.goto 4, 3) := by decide +kernel
theorem dX12_whyLay_44 : decode cX12_whyLay 44 = .ok (.iconst 0, 1) := by decide +kernel
theorem dX12_whyLay_45 : decode cX12_whyLay 45 = .ok (.ireturn, 1) := by decide +kernel
theorem dX12_wordOf_0 : decode cX12_wordOf 0 = .ok (.iload_n 0, 1) := by decide +kernel
theorem dX12_wordOf_1 : decode cX12_wordOf 1 = .ok (.tableswitch 428 0 22 #[107, 123, 139, 154, 170, 183, 197, 212, 226, 241, 254, 268, 282, 296, 308, 321, 334, 350, 364, 378, 390, 406, 417], 107) := by decide +kernel
theorem dX12_wordOf_108 : decode cX12_wordOf 108 = .ok (.bipush 103, 2) := by decide +kernel
theorem dX12_wordOf_110 : decode cX12_wordOf 110 = .ok (.bipush 114, 2) := by decide +kernel
theorem dX12_wordOf_112 : decode cX12_wordOf 112 = .ok (.bipush 111, 2) := by decide +kernel
theorem dX12_wordOf_114 : decode cX12_wordOf 114 = .ok (.bipush 117, 2) := by decide +kernel
theorem dX12_wordOf_116 : decode cX12_wordOf 116 = .ok (.bipush 110, 2) := by decide +kernel
theorem dX12_wordOf_118 : decode cX12_wordOf 118 = .ok (.bipush 100, 2) := by decide +kernel
theorem dX12_wordOf_120 : decode cX12_wordOf 120 = .ok (.invokestatic 58, 3) := by decide +kernel
theorem dX12_wordOf_123 : decode cX12_wordOf 123 = .ok (.lreturn, 1) := by decide +kernel
theorem dX12_wordOf_124 : decode cX12_wordOf 124 = .ok (.bipush 115, 2) := by decide +kernel
theorem dX12_wordOf_126 : decode cX12_wordOf 126 = .ok (.bipush 116, 2) := by decide +kernel
theorem dX12_wordOf_128 : decode cX12_wordOf 128 = .ok (.bipush 111, 2) := by decide +kernel
theorem dX12_wordOf_130 : decode cX12_wordOf 130 = .ok (.bipush 110, 2) := by decide +kernel
theorem dX12_wordOf_132 : decode cX12_wordOf 132 = .ok (.bipush 101, 2) := by decide +kernel
theorem dX12_wordOf_134 : decode cX12_wordOf 134 = .ok (.bipush 115, 2) := by decide +kernel
theorem dX12_wordOf_136 : decode cX12_wordOf 136 = .ok (.invokestatic 58, 3) := by decide +kernel
theorem dX12_wordOf_139 : decode cX12_wordOf 139 = .ok (.lreturn, 1) := by decide +kernel
theorem dX12_wordOf_140 : decode cX12_wordOf 140 = .ok (.bipush 104, 2) := by decide +kernel
theorem dX12_wordOf_142 : decode cX12_wordOf 142 = .ok (.bipush 111, 2) := by decide +kernel
theorem dX12_wordOf_144 : decode cX12_wordOf 144 = .ok (.bipush 117, 2) := by decide +kernel
theorem dX12_wordOf_146 : decode cX12_wordOf 146 = .ok (.bipush 115, 2) := by decide +kernel
theorem dX12_wordOf_148 : decode cX12_wordOf 148 = .ok (.bipush 101, 2) := by decide +kernel
theorem dX12_wordOf_150 : decode cX12_wordOf 150 = .ok (.iconst 0, 1) := by decide +kernel
theorem dX12_wordOf_151 : decode cX12_wordOf 151 = .ok (.invokestatic 58, 3) := by decide +kernel
theorem dX12_wordOf_154 : decode cX12_wordOf 154 = .ok (.lreturn, 1) := by decide +kernel
theorem dX12_wordOf_155 : decode cX12_wordOf 155 = .ok (.bipush 112, 2) := by decide +kernel
theorem dX12_wordOf_157 : decode cX12_wordOf 157 = .ok (.bipush 101, 2) := by decide +kernel
theorem dX12_wordOf_159 : decode cX12_wordOf 159 = .ok (.bipush 114, 2) := by decide +kernel
theorem dX12_wordOf_161 : decode cX12_wordOf 161 = .ok (.bipush 115, 2) := by decide +kernel
theorem dX12_wordOf_163 : decode cX12_wordOf 163 = .ok (.bipush 111, 2) := by decide +kernel
theorem dX12_wordOf_165 : decode cX12_wordOf 165 = .ok (.bipush 110, 2) := by decide +kernel
theorem dX12_wordOf_167 : decode cX12_wordOf 167 = .ok (.invokestatic 58, 3) := by decide +kernel
theorem dX12_wordOf_170 : decode cX12_wordOf 170 = .ok (.lreturn, 1) := by decide +kernel
theorem dX12_wordOf_171 : decode cX12_wordOf 171 = .ok (.bipush 115, 2) := by decide +kernel
theorem dX12_wordOf_173 : decode cX12_wordOf 173 = .ok (.bipush 117, 2) := by decide +kernel
theorem dX12_wordOf_175 : decode cX12_wordOf 175 = .ok (.bipush 110, 2) := by decide +kernel
theorem dX12_wordOf_177 : decode cX12_wordOf 177 = .ok (.iconst 0, 1) := by decide +kernel
theorem dX12_wordOf_178 : decode cX12_wordOf 178 = .ok (.iconst 0, 1) := by decide +kernel
theorem dX12_wordOf_179 : decode cX12_wordOf 179 = .ok (.iconst 0, 1) := by decide +kernel
theorem dX12_wordOf_180 : decode cX12_wordOf 180 = .ok (.invokestatic 58, 3) := by decide +kernel
theorem dX12_wordOf_183 : decode cX12_wordOf 183 = .ok (.lreturn, 1) := by decide +kernel
theorem dX12_wordOf_184 : decode cX12_wordOf 184 = .ok (.bipush 101, 2) := by decide +kernel
theorem dX12_wordOf_186 : decode cX12_wordOf 186 = .ok (.bipush 97, 2) := by decide +kernel
theorem dX12_wordOf_188 : decode cX12_wordOf 188 = .ok (.bipush 115, 2) := by decide +kernel
theorem dX12_wordOf_190 : decode cX12_wordOf 190 = .ok (.bipush 116, 2) := by decide +kernel
theorem dX12_wordOf_192 : decode cX12_wordOf 192 = .ok (.iconst 0, 1) := by decide +kernel
theorem dX12_wordOf_193 : decode cX12_wordOf 193 = .ok (.iconst 0, 1) := by decide +kernel
theorem dX12_wordOf_194 : decode cX12_wordOf 194 = .ok (.invokestatic 58, 3) := by decide +kernel
theorem dX12_wordOf_197 : decode cX12_wordOf 197 = .ok (.lreturn, 1) := by decide +kernel
theorem dX12_wordOf_198 : decode cX12_wordOf 198 = .ok (.bipush 115, 2) := by decide +kernel
theorem dX12_wordOf_200 : decode cX12_wordOf 200 = .ok (.bipush 111, 2) := by decide +kernel
theorem dX12_wordOf_202 : decode cX12_wordOf 202 = .ok (.bipush 117, 2) := by decide +kernel
theorem dX12_wordOf_204 : decode cX12_wordOf 204 = .ok (.bipush 116, 2) := by decide +kernel
theorem dX12_wordOf_206 : decode cX12_wordOf 206 = .ok (.bipush 104, 2) := by decide +kernel
theorem dX12_wordOf_208 : decode cX12_wordOf 208 = .ok (.iconst 0, 1) := by decide +kernel
theorem dX12_wordOf_209 : decode cX12_wordOf 209 = .ok (.invokestatic 58, 3) := by decide +kernel
theorem dX12_wordOf_212 : decode cX12_wordOf 212 = .ok (.lreturn, 1) := by decide +kernel
theorem dX12_wordOf_213 : decode cX12_wordOf 213 = .ok (.bipush 119, 2) := by decide +kernel
theorem dX12_wordOf_215 : decode cX12_wordOf 215 = .ok (.bipush 101, 2) := by decide +kernel
theorem dX12_wordOf_217 : decode cX12_wordOf 217 = .ok (.bipush 115, 2) := by decide +kernel
theorem dX12_wordOf_219 : decode cX12_wordOf 219 = .ok (.bipush 116, 2) := by decide +kernel
theorem dX12_wordOf_221 : decode cX12_wordOf 221 = .ok (.iconst 0, 1) := by decide +kernel
theorem dX12_wordOf_222 : decode cX12_wordOf 222 = .ok (.iconst 0, 1) := by decide +kernel
theorem dX12_wordOf_223 : decode cX12_wordOf 223 = .ok (.invokestatic 58, 3) := by decide +kernel
theorem dX12_wordOf_226 : decode cX12_wordOf 226 = .ok (.lreturn, 1) := by decide +kernel
theorem dX12_wordOf_227 : decode cX12_wordOf 227 = .ok (.bipush 110, 2) := by decide +kernel
theorem dX12_wordOf_229 : decode cX12_wordOf 229 = .ok (.bipush 111, 2) := by decide +kernel
theorem dX12_wordOf_231 : decode cX12_wordOf 231 = .ok (.bipush 114, 2) := by decide +kernel
theorem dX12_wordOf_233 : decode cX12_wordOf 233 = .ok (.bipush 116, 2) := by decide +kernel
theorem dX12_wordOf_235 : decode cX12_wordOf 235 = .ok (.bipush 104, 2) := by decide +kernel
theorem dX12_wordOf_237 : decode cX12_wordOf 237 = .ok (.iconst 0, 1) := by decide +kernel
theorem dX12_wordOf_238 : decode cX12_wordOf 238 = .ok (.invokestatic 58, 3) := by decide +kernel
theorem dX12_wordOf_241 : decode cX12_wordOf 241 = .ok (.lreturn, 1) := by decide +kernel
theorem dX12_wordOf_242 : decode cX12_wordOf 242 = .ok (.bipush 108, 2) := by decide +kernel
theorem dX12_wordOf_244 : decode cX12_wordOf 244 = .ok (.bipush 97, 2) := by decide +kernel
theorem dX12_wordOf_246 : decode cX12_wordOf 246 = .ok (.bipush 121, 2) := by decide +kernel
theorem dX12_wordOf_248 : decode cX12_wordOf 248 = .ok (.iconst 0, 1) := by decide +kernel
theorem dX12_wordOf_249 : decode cX12_wordOf 249 = .ok (.iconst 0, 1) := by decide +kernel
theorem dX12_wordOf_250 : decode cX12_wordOf 250 = .ok (.iconst 0, 1) := by decide +kernel
theorem dX12_wordOf_251 : decode cX12_wordOf 251 = .ok (.invokestatic 58, 3) := by decide +kernel
theorem dX12_wordOf_254 : decode cX12_wordOf 254 = .ok (.lreturn, 1) := by decide +kernel
theorem dX12_wordOf_255 : decode cX12_wordOf 255 = .ok (.bipush 116, 2) := by decide +kernel
theorem dX12_wordOf_257 : decode cX12_wordOf 257 = .ok (.bipush 101, 2) := by decide +kernel
theorem dX12_wordOf_259 : decode cX12_wordOf 259 = .ok (.bipush 97, 2) := by decide +kernel
theorem dX12_wordOf_261 : decode cX12_wordOf 261 = .ok (.bipush 114, 2) := by decide +kernel
theorem dX12_wordOf_263 : decode cX12_wordOf 263 = .ok (.iconst 0, 1) := by decide +kernel
theorem dX12_wordOf_264 : decode cX12_wordOf 264 = .ok (.iconst 0, 1) := by decide +kernel
theorem dX12_wordOf_265 : decode cX12_wordOf 265 = .ok (.invokestatic 58, 3) := by decide +kernel
theorem dX12_wordOf_268 : decode cX12_wordOf 268 = .ok (.lreturn, 1) := by decide +kernel
theorem dX12_wordOf_269 : decode cX12_wordOf 269 = .ok (.bipush 98, 2) := by decide +kernel
theorem dX12_wordOf_271 : decode cX12_wordOf 271 = .ok (.bipush 117, 2) := by decide +kernel
theorem dX12_wordOf_273 : decode cX12_wordOf 273 = .ok (.bipush 114, 2) := by decide +kernel
theorem dX12_wordOf_275 : decode cX12_wordOf 275 = .ok (.bipush 121, 2) := by decide +kernel
theorem dX12_wordOf_277 : decode cX12_wordOf 277 = .ok (.iconst 0, 1) := by decide +kernel
theorem dX12_wordOf_278 : decode cX12_wordOf 278 = .ok (.iconst 0, 1) := by decide +kernel
theorem dX12_wordOf_279 : decode cX12_wordOf 279 = .ok (.invokestatic 58, 3) := by decide +kernel
theorem dX12_wordOf_282 : decode cX12_wordOf 282 = .ok (.lreturn, 1) := by decide +kernel
theorem dX12_wordOf_283 : decode cX12_wordOf 283 = .ok (.bipush 104, 2) := by decide +kernel
theorem dX12_wordOf_285 : decode cX12_wordOf 285 = .ok (.bipush 111, 2) := by decide +kernel
theorem dX12_wordOf_287 : decode cX12_wordOf 287 = .ok (.bipush 117, 2) := by decide +kernel
theorem dX12_wordOf_289 : decode cX12_wordOf 289 = .ok (.bipush 114, 2) := by decide +kernel
theorem dX12_wordOf_291 : decode cX12_wordOf 291 = .ok (.iconst 0, 1) := by decide +kernel
theorem dX12_wordOf_292 : decode cX12_wordOf 292 = .ok (.iconst 0, 1) := by decide +kernel
theorem dX12_wordOf_293 : decode cX12_wordOf 293 = .ok (.invokestatic 58, 3) := by decide +kernel
theorem dX12_wordOf_296 : decode cX12_wordOf 296 = .ok (.lreturn, 1) := by decide +kernel
theorem dX12_wordOf_297 : decode cX12_wordOf 297 = .ok (.bipush 111, 2) := by decide +kernel
theorem dX12_wordOf_299 : decode cX12_wordOf 299 = .ok (.bipush 114, 2) := by decide +kernel
theorem dX12_wordOf_301 : decode cX12_wordOf 301 = .ok (.iconst 0, 1) := by decide +kernel
theorem dX12_wordOf_302 : decode cX12_wordOf 302 = .ok (.iconst 0, 1) := by decide +kernel
theorem dX12_wordOf_303 : decode cX12_wordOf 303 = .ok (.iconst 0, 1) := by decide +kernel
theorem dX12_wordOf_304 : decode cX12_wordOf 304 = .ok (.iconst 0, 1) := by decide +kernel
theorem dX12_wordOf_305 : decode cX12_wordOf 305 = .ok (.invokestatic 58, 3) := by decide +kernel
theorem dX12_wordOf_308 : decode cX12_wordOf 308 = .ok (.lreturn, 1) := by decide +kernel
theorem dX12_wordOf_309 : decode cX12_wordOf 309 = .ok (.bipush 97, 2) := by decide +kernel
theorem dX12_wordOf_311 : decode cX12_wordOf 311 = .ok (.bipush 110, 2) := by decide +kernel
theorem dX12_wordOf_313 : decode cX12_wordOf 313 = .ok (.bipush 100, 2) := by decide +kernel
theorem dX12_wordOf_315 : decode cX12_wordOf 315 = .ok (.iconst 0, 1) := by decide +kernel
theorem dX12_wordOf_316 : decode cX12_wordOf 316 = .ok (.iconst 0, 1) := by decide +kernel
theorem dX12_wordOf_317 : decode cX12_wordOf 317 = .ok (.iconst 0, 1) := by decide +kernel
theorem dX12_wordOf_318 : decode cX12_wordOf 318 = .ok (.invokestatic 58, 3) := by decide +kernel
theorem dX12_wordOf_321 : decode cX12_wordOf 321 = .ok (.lreturn, 1) := by decide +kernel
theorem dX12_wordOf_322 : decode cX12_wordOf 322 = .ok (.bipush 110, 2) := by decide +kernel
theorem dX12_wordOf_324 : decode cX12_wordOf 324 = .ok (.bipush 111, 2) := by decide +kernel
theorem dX12_wordOf_326 : decode cX12_wordOf 326 = .ok (.bipush 116, 2) := by decide +kernel
theorem dX12_wordOf_328 : decode cX12_wordOf 328 = .ok (.iconst 0, 1) := by decide +kernel
theorem dX12_wordOf_329 : decode cX12_wordOf 329 = .ok (.iconst 0, 1) := by decide +kernel
theorem dX12_wordOf_330 : decode cX12_wordOf 330 = .ok (.iconst 0, 1) := by decide +kernel
theorem dX12_wordOf_331 : decode cX12_wordOf 331 = .ok (.invokestatic 58, 3) := by decide +kernel
theorem dX12_wordOf_334 : decode cX12_wordOf 334 = .ok (.lreturn, 1) := by decide +kernel
theorem dX12_wordOf_335 : decode cX12_wordOf 335 = .ok (.bipush 115, 2) := by decide +kernel
theorem dX12_wordOf_337 : decode cX12_wordOf 337 = .ok (.bipush 104, 2) := by decide +kernel
theorem dX12_wordOf_339 : decode cX12_wordOf 339 = .ok (.bipush 97, 2) := by decide +kernel
theorem dX12_wordOf_341 : decode cX12_wordOf 341 = .ok (.bipush 100, 2) := by decide +kernel
theorem dX12_wordOf_343 : decode cX12_wordOf 343 = .ok (.bipush 101, 2) := by decide +kernel
theorem dX12_wordOf_345 : decode cX12_wordOf 345 = .ok (.bipush 100, 2) := by decide +kernel
theorem dX12_wordOf_347 : decode cX12_wordOf 347 = .ok (.invokestatic 58, 3) := by decide +kernel
theorem dX12_wordOf_350 : decode cX12_wordOf 350 = .ok (.lreturn, 1) := by decide +kernel
theorem dX12_wordOf_351 : decode cX12_wordOf 351 = .ok (.bipush 112, 2) := by decide +kernel
theorem dX12_wordOf_353 : decode cX12_wordOf 353 = .ok (.bipush 111, 2) := by decide +kernel
theorem dX12_wordOf_355 : decode cX12_wordOf 355 = .ok (.bipush 111, 2) := by decide +kernel
theorem dX12_wordOf_357 : decode cX12_wordOf 357 = .ok (.bipush 114, 2) := by decide +kernel
theorem dX12_wordOf_359 : decode cX12_wordOf 359 = .ok (.iconst 0, 1) := by decide +kernel
theorem dX12_wordOf_360 : decode cX12_wordOf 360 = .ok (.iconst 0, 1) := by decide +kernel
theorem dX12_wordOf_361 : decode cX12_wordOf 361 = .ok (.invokestatic 58, 3) := by decide +kernel
theorem dX12_wordOf_364 : decode cX12_wordOf 364 = .ok (.lreturn, 1) := by decide +kernel
theorem dX12_wordOf_365 : decode cX12_wordOf 365 = .ok (.bipush 104, 2) := by decide +kernel
theorem dX12_wordOf_367 : decode cX12_wordOf 367 = .ok (.bipush 101, 2) := by decide +kernel
theorem dX12_wordOf_369 : decode cX12_wordOf 369 = .ok (.bipush 105, 2) := by decide +kernel
theorem dX12_wordOf_371 : decode cX12_wordOf 371 = .ok (.bipush 114, 2) := by decide +kernel
theorem dX12_wordOf_373 : decode cX12_wordOf 373 = .ok (.iconst 0, 1) := by decide +kernel
theorem dX12_wordOf_374 : decode cX12_wordOf 374 = .ok (.iconst 0, 1) := by decide +kernel
theorem dX12_wordOf_375 : decode cX12_wordOf 375 = .ok (.invokestatic 58, 3) := by decide +kernel
theorem dX12_wordOf_378 : decode cX12_wordOf 378 = .ok (.lreturn, 1) := by decide +kernel
theorem dX12_wordOf_379 : decode cX12_wordOf 379 = .ok (.bipush 111, 2) := by decide +kernel
theorem dX12_wordOf_381 : decode cX12_wordOf 381 = .ok (.bipush 102, 2) := by decide +kernel
theorem dX12_wordOf_383 : decode cX12_wordOf 383 = .ok (.iconst 0, 1) := by decide +kernel
theorem dX12_wordOf_384 : decode cX12_wordOf 384 = .ok (.iconst 0, 1) := by decide +kernel
theorem dX12_wordOf_385 : decode cX12_wordOf 385 = .ok (.iconst 0, 1) := by decide +kernel
theorem dX12_wordOf_386 : decode cX12_wordOf 386 = .ok (.iconst 0, 1) := by decide +kernel
theorem dX12_wordOf_387 : decode cX12_wordOf 387 = .ok (.invokestatic 58, 3) := by decide +kernel
theorem dX12_wordOf_390 : decode cX12_wordOf 390 = .ok (.lreturn, 1) := by decide +kernel
theorem dX12_wordOf_391 : decode cX12_wordOf 391 = .ok (.bipush 119, 2) := by decide +kernel
theorem dX12_wordOf_393 : decode cX12_wordOf 393 = .ok (.bipush 101, 2) := by decide +kernel
theorem dX12_wordOf_395 : decode cX12_wordOf 395 = .ok (.bipush 97, 2) := by decide +kernel
theorem dX12_wordOf_397 : decode cX12_wordOf 397 = .ok (.bipush 108, 2) := by decide +kernel
theorem dX12_wordOf_399 : decode cX12_wordOf 399 = .ok (.bipush 116, 2) := by decide +kernel
theorem dX12_wordOf_401 : decode cX12_wordOf 401 = .ok (.bipush 104, 2) := by decide +kernel
theorem dX12_wordOf_403 : decode cX12_wordOf 403 = .ok (.invokestatic 58, 3) := by decide +kernel
theorem dX12_wordOf_406 : decode cX12_wordOf 406 = .ok (.lreturn, 1) := by decide +kernel
theorem dX12_wordOf_407 : decode cX12_wordOf 407 = .ok (.bipush 120, 2) := by decide +kernel
theorem dX12_wordOf_409 : decode cX12_wordOf 409 = .ok (.iconst 0, 1) := by decide +kernel
theorem dX12_wordOf_410 : decode cX12_wordOf 410 = .ok (.iconst 0, 1) := by decide +kernel
theorem dX12_wordOf_411 : decode cX12_wordOf 411 = .ok (.iconst 0, 1) := by decide +kernel
theorem dX12_wordOf_412 : decode cX12_wordOf 412 = .ok (.iconst 0, 1) := by decide +kernel
theorem dX12_wordOf_413 : decode cX12_wordOf 413 = .ok (.iconst 0, 1) := by decide +kernel
theorem dX12_wordOf_414 : decode cX12_wordOf 414 = .ok (.invokestatic 58, 3) := by decide +kernel
theorem dX12_wordOf_417 : decode cX12_wordOf 417 = .ok (.lreturn, 1) := by decide +kernel
theorem dX12_wordOf_418 : decode cX12_wordOf 418 = .ok (.bipush 121, 2) := by decide +kernel
theorem dX12_wordOf_420 : decode cX12_wordOf 420 = .ok (.iconst 0, 1) := by decide +kernel
theorem dX12_wordOf_421 : decode cX12_wordOf 421 = .ok (.iconst 0, 1) := by decide +kernel
theorem dX12_wordOf_422 : decode cX12_wordOf 422 = .ok (.iconst 0, 1) := by decide +kernel
theorem dX12_wordOf_423 : decode cX12_wordOf 423 = .ok (.iconst 0, 1) := by decide +kernel
theorem dX12_wordOf_424 : decode cX12_wordOf 424 = .ok (.iconst 0, 1) := by decide +kernel
theorem dX12_wordOf_425 : decode cX12_wordOf 425 = .ok (.invokestatic 58, 3) := by decide +kernel
theorem dX12_wordOf_428 : decode cX12_wordOf 428 = .ok (.lreturn, 1) := by decide +kernel
theorem dX12_wordOf_429 : decode cX12_wordOf 429 = .ok (.bipush 110, 2) := by decide +kernel
theorem dX12_wordOf_431 : decode cX12_wordOf 431 = .ok (.bipush 117, 2) := by decide +kernel
theorem dX12_wordOf_433 : decode cX12_wordOf 433 = .ok (.bipush 109, 2) := by decide +kernel
theorem dX12_wordOf_435 : decode cX12_wordOf 435 = .ok (.bipush 98, 2) := by decide +kernel
theorem dX12_wordOf_437 : decode cX12_wordOf 437 = .ok (.bipush 101, 2) := by decide +kernel
theorem dX12_wordOf_439 : decode cX12_wordOf 439 = .ok (.bipush 114, 2) := by decide +kernel
theorem dX12_wordOf_441 : decode cX12_wordOf 441 = .ok (.invokestatic 58, 3) := by decide +kernel
theorem dX12_wordOf_444 : decode cX12_wordOf 444 = .ok (.lreturn, 1) := by decide +kernel
theorem dX12_write_0 : decode cX12_write 0 = .ok (.aload_n 0, 1) := by decide +kernel
theorem dX12_write_1 : decode cX12_write 1 = .ok (.getfield 151, 3) := by decide +kernel
theorem dX12_write_4 : decode cX12_write 4 = .ok (.aload_n 0, 1) := by decide +kernel
theorem dX12_write_5 : decode cX12_write 5 = .ok (.getfield 346, 3) := by decide +kernel
theorem dX12_write_8 : decode cX12_write 8 = .ok (.iload_n 1, 1) := by decide +kernel
theorem dX12_write_9 : decode cX12_write 9 = .ok (.iastore, 1) := by decide +kernel
theorem dX12_write_10 : decode cX12_write 10 = .ok (.aload_n 0, 1) := by decide +kernel
theorem dX12_write_11 : decode cX12_write 11 = .ok (.dup, 1) := by decide +kernel
theorem dX12_write_12 : decode cX12_write 12 = .ok (.getfield 346, 3) := by decide +kernel
theorem dX12_write_15 : decode cX12_write 15 = .ok (.iconst 1, 1) := by decide +kernel
theorem dX12_write_16 : decode cX12_write 16 = .ok (.iadd, 1) := by decide +kernel
theorem dX12_write_17 : decode cX12_write 17 = .ok (.putfield 346, 3) := by decide +kernel
theorem dX12_write_20 : decode cX12_write 20 = .ok (.return_, 1) := by decide +kernel
theorem dX12_writeCount_0 : decode cX12_writeCount 0 = .ok (.aload_n 0, 1) := by decide +kernel
theorem dX12_writeCount_1 : decode cX12_writeCount 1 = .ok (.bipush 32, 2) := by decide +kernel
theorem dX12_writeCount_3 : decode cX12_writeCount 3 = .ok (.invokevirtual 353, 3) := by decide +kernel
theorem dX12_writeCount_6 : decode cX12_writeCount 6 = .ok (.aload_n 0, 1) := by decide +kernel
theorem dX12_writeCount_7 : decode cX12_writeCount 7 = .ok (.iload_n 1, 1) := by decide +kernel
theorem dX12_writeCount_8 : decode cX12_writeCount 8 = .ok (.invokevirtual 356, 3) := by decide +kernel
theorem dX12_writeCount_11 : decode cX12_writeCount 11 = .ok (.return_, 1) := by decide +kernel
theorem dX12_writeNext_0 : decode cX12_writeNext 0 = .ok (.aload_n 0, 1) := by decide +kernel
theorem dX12_writeNext_1 : decode cX12_writeNext 1 = .ok (.bipush 32, 2) := by decide +kernel
theorem dX12_writeNext_3 : decode cX12_writeNext 3 = .ok (.invokevirtual 353, 3) := by decide +kernel
theorem dX12_writeNext_6 : decode cX12_writeNext 6 = .ok (.aload_n 0, 1) := by decide +kernel
theorem dX12_writeNext_7 : decode cX12_writeNext 7 = .ok (.lload_n 1, 1) := by decide +kernel
theorem dX12_writeNext_8 : decode cX12_writeNext 8 = .ok (.invokevirtual 349, 3) := by decide +kernel
theorem dX12_writeNext_11 : decode cX12_writeNext 11 = .ok (.return_, 1) := by decide +kernel
theorem dX12_writeNumber_0 : decode cX12_writeNumber 0 = .ok (.iload_n 1, 1) := by decide +kernel
theorem dX12_writeNumber_1 : decode cX12_writeNumber 1 = .ok (.bipush 9, 2) := by decide +kernel
theorem dX12_writeNumber_3 : decode cX12_writeNumber 3 = .ok (.if_icmp .le 11, 3) := by decide +kernel
theorem dX12_writeNumber_6 : decode cX12_writeNumber 6 = .ok (.aload_n 0, 1) := by decide +kernel
theorem dX12_writeNumber_7 : decode cX12_writeNumber 7 = .ok (.iload_n 1, 1) := by decide +kernel
theorem dX12_writeNumber_8 : decode cX12_writeNumber 8 = .ok (.bipush 10, 2) := by decide +kernel
theorem dX12_writeNumber_10 : decode cX12_writeNumber 10 = .ok (.idiv, 1) := by decide +kernel
theorem dX12_writeNumber_11 : decode cX12_writeNumber 11 = .ok (.invokevirtual 356, 3) := by decide +kernel
theorem dX12_writeNumber_14 : decode cX12_writeNumber 14 = .ok (.aload_n 0, 1) := by decide +kernel
theorem dX12_writeNumber_15 : decode cX12_writeNumber 15 = .ok (.bipush 48, 2) := by decide +kernel
theorem dX12_writeNumber_17 : decode cX12_writeNumber 17 = .ok (.iload_n 1, 1) := by decide +kernel
theorem dX12_writeNumber_18 : decode cX12_writeNumber 18 = .ok (.bipush 10, 2) := by decide +kernel
theorem dX12_writeNumber_20 : decode cX12_writeNumber 20 = .ok (.irem, 1) := by decide +kernel
theorem dX12_writeNumber_21 : decode cX12_writeNumber 21 = .ok (.iadd, 1) := by decide +kernel
theorem dX12_writeNumber_22 : decode cX12_writeNumber 22 = .ok (.invokevirtual 353, 3) := by decide +kernel
theorem dX12_writeNumber_25 : decode cX12_writeNumber 25 = .ok (.return_, 1) := by decide +kernel
theorem dX12_writeWord_0 : decode cX12_writeWord 0 = .ok (.lload_n 1, 1) := by decide +kernel
theorem dX12_writeWord_1 : decode cX12_writeWord 1 = .ok (.ldc2_w 54, 3) := by decide +kernel
theorem dX12_writeWord_4 : decode cX12_writeWord 4 = .ok (.lcmp, 1) := by decide +kernel
theorem dX12_writeWord_5 : decode cX12_writeWord 5 = .ok (.ifCond .lt 12, 3) := by decide +kernel
theorem dX12_writeWord_8 : decode cX12_writeWord 8 = .ok (.aload_n 0, 1) := by decide +kernel
theorem dX12_writeWord_9 : decode cX12_writeWord 9 = .ok (.lload_n 1, 1) := by decide +kernel
theorem dX12_writeWord_10 : decode cX12_writeWord 10 = .ok (.ldc2_w 54, 3) := by decide +kernel
theorem dX12_writeWord_13 : decode cX12_writeWord 13 = .ok (.ldiv, 1) := by decide +kernel
theorem dX12_writeWord_14 : decode cX12_writeWord 14 = .ok (.invokevirtual 349, 3) := by decide +kernel
theorem dX12_writeWord_17 : decode cX12_writeWord 17 = .ok (.aload_n 0, 1) := by decide +kernel
theorem dX12_writeWord_18 : decode cX12_writeWord 18 = .ok (.bipush 96, 2) := by decide +kernel
theorem dX12_writeWord_20 : decode cX12_writeWord 20 = .ok (.lload_n 1, 1) := by decide +kernel
theorem dX12_writeWord_21 : decode cX12_writeWord 21 = .ok (.ldc2_w 54, 3) := by decide +kernel
theorem dX12_writeWord_24 : decode cX12_writeWord 24 = .ok (.lrem, 1) := by decide +kernel
theorem dX12_writeWord_25 : decode cX12_writeWord 25 = .ok (.l2i, 1) := by decide +kernel
theorem dX12_writeWord_26 : decode cX12_writeWord 26 = .ok (.iadd, 1) := by decide +kernel
theorem dX12_writeWord_27 : decode cX12_writeWord 27 = .ok (.invokevirtual 353, 3) := by decide +kernel
theorem dX12_writeWord_30 : decode cX12_writeWord 30 = .ok (.return_, 1) := by decide +kernel
theorem dX1_draw_0 : decode cX1_draw 0 = .ok (.aload_n 0, 1) := by decide +kernel
theorem dX1_draw_1 : decode cX1_draw 1 = .ok (.aload_n 0, 1) := by decide +kernel
theorem dX1_draw_2 : decode cX1_draw 2 = .ok (.getfield 9, 3) := by decide +kernel
theorem dX1_draw_5 : decode cX1_draw 5 = .ok (.ldc 15, 2) := by decide +kernel
theorem dX1_draw_7 : decode cX1_draw 7 = .ok (.imul, 1) := by decide +kernel
theorem dX1_draw_8 : decode cX1_draw 8 = .ok (.sipush 12345, 3) := by decide +kernel
theorem dX1_draw_11 : decode cX1_draw 11 = .ok (.iadd, 1) := by decide +kernel
theorem dX1_draw_12 : decode cX1_draw 12 = .ok (.putfield 9, 3) := by decide +kernel
theorem dX1_draw_15 : decode cX1_draw 15 = .ok (.iload_n 1, 1) := by decide +kernel
theorem dX1_draw_16 : decode cX1_draw 16 = .ok (.ifCond .le 15, 3) := by decide +kernel
theorem dX1_draw_19 : decode cX1_draw 19 = .ok (.aload_n 0, 1) := by decide +kernel
theorem dX1_draw_20 : decode cX1_draw 20 = .ok (.getfield 9, 3) := by decide +kernel
theorem dX1_draw_23 : decode cX1_draw 23 = .ok (.bipush 8, 2) := by decide +kernel
theorem dX1_draw_25 : decode cX1_draw 25 = .ok (.iushr, 1) := by decide +kernel
theorem dX1_draw_26 : decode cX1_draw 26 = .ok (.iload_n 1, 1) := by decide +kernel
theorem dX1_draw_27 : decode cX1_draw 27 = .ok (.irem, 1) := by decide +kernel
theorem dX1_draw_28 : decode cX1_draw 28 = .ok (.goto 4, 3) := by decide +kernel
theorem dX1_draw_31 : decode cX1_draw 31 = .ok (.iconst 0, 1) := by decide +kernel
theorem dX1_draw_32 : decode cX1_draw 32 = .ok (.ireturn, 1) := by decide +kernel
theorem dX1_liveHours_0 : decode cX1_liveHours 0 = .ok (.aload_n 0, 1) := by decide +kernel
theorem dX1_liveHours_1 : decode cX1_liveHours 1 = .ok (.iload_n 3, 1) := by decide +kernel
theorem dX1_liveHours_2 : decode cX1_liveHours 2 = .ok (.putfield 9, 3) := by decide +kernel
theorem dX1_liveHours_5 : decode cX1_liveHours 5 = .ok (.iload_n 2, 1) := by decide +kernel
theorem dX1_liveHours_6 : decode cX1_liveHours 6 = .ok (.sipush 400, 3) := by decide +kernel
theorem dX1_liveHours_9 : decode cX1_liveHours 9 = .ok (.aload_n 1, 1) := by decide +kernel
theorem dX1_liveHours_10 : decode cX1_liveHours 10 = .ok (.getfield 16, 3) := by decide +kernel
theorem dX1_liveHours_13 : decode cX1_liveHours 13 = .ok (.getfield 22, 3) := by decide +kernel
theorem dX1_liveHours_16 : decode cX1_liveHours 16 = .ok (.isub, 1) := by decide +kernel
theorem dX1_liveHours_17 : decode cX1_liveHours 17 = .ok (.invokestatic 27, 3) := by decide +kernel
theorem dX1_liveHours_20 : decode cX1_liveHours 20 = .ok (.istore 4, 2) := by decide +kernel
theorem dX1_liveHours_22 : decode cX1_liveHours 22 = .ok (.iconst 0, 1) := by decide +kernel
theorem dX1_liveHours_23 : decode cX1_liveHours 23 = .ok (.istore 5, 2) := by decide +kernel
theorem dX1_liveHours_25 : decode cX1_liveHours 25 = .ok (.iload 5, 2) := by decide +kernel
theorem dX1_liveHours_27 : decode cX1_liveHours 27 = .ok (.iload 4, 2) := by decide +kernel
theorem dX1_liveHours_29 : decode cX1_liveHours 29 = .ok (.if_icmp .ge 104, 3) := by decide +kernel
theorem dX1_liveHours_32 : decode cX1_liveHours 32 = .ok (.iconst 0, 1) := by decide +kernel
theorem dX1_liveHours_33 : decode cX1_liveHours 33 = .ok (.istore 6, 2) := by decide +kernel
theorem dX1_liveHours_35 : decode cX1_liveHours 35 = .ok (.iload 6, 2) := by decide +kernel
theorem dX1_liveHours_37 : decode cX1_liveHours 37 = .ok (.aload_n 1, 1) := by decide +kernel
theorem dX1_liveHours_38 : decode cX1_liveHours 38 = .ok (.getfield 33, 3) := by decide +kernel
theorem dX1_liveHours_41 : decode cX1_liveHours 41 = .ok (.getfield 37, 3) := by decide +kernel
theorem dX1_liveHours_44 : decode cX1_liveHours 44 = .ok (.if_icmp .ge 23, 3) := by decide +kernel
theorem dX1_liveHours_47 : decode cX1_liveHours 47 = .ok (.iload 6, 2) := by decide +kernel
theorem dX1_liveHours_49 : decode cX1_liveHours 49 = .ok (.bipush 6, 2) := by decide +kernel
theorem dX1_liveHours_51 : decode cX1_liveHours 51 = .ok (.if_icmp .ge 16, 3) := by decide +kernel
theorem dX1_liveHours_54 : decode cX1_liveHours 54 = .ok (.aload_n 0, 1) := by decide +kernel
theorem dX1_liveHours_55 : decode cX1_liveHours 55 = .ok (.aload_n 1, 1) := by decide +kernel
theorem dX1_liveHours_56 : decode cX1_liveHours 56 = .ok (.iload 6, 2) := by decide +kernel
theorem dX1_liveHours_58 : decode cX1_liveHours 58 = .ok (.invokevirtual 42, 3) := by decide +kernel
theorem dX1_liveHours_61 : decode cX1_liveHours 61 = .ok (.iinc 6 1, 3) := by decide +kernel
theorem dX1_liveHours_64 : decode cX1_liveHours 64 = .ok (.goto (-29), 3) := by decide +kernel
theorem dX1_liveHours_67 : decode cX1_liveHours 67 = .ok (.aload_n 0, 1) := by decide +kernel
theorem dX1_liveHours_68 : decode cX1_liveHours 68 = .ok (.bipush 10, 2) := by decide +kernel
theorem dX1_liveHours_70 : decode cX1_liveHours 70 = .ok (.invokevirtual 46, 3) := by decide +kernel
theorem dX1_liveHours_73 : decode cX1_liveHours 73 = .ok (.ifCond .ne 41, 3) := by decide +kernel
theorem dX1_liveHours_76 : decode cX1_liveHours 76 = .ok (.aload_n 1, 1) := by decide +kernel
theorem dX1_liveHours_77 : decode cX1_liveHours 77 = .ok (.getfield 33, 3) := by decide +kernel
theorem dX1_liveHours_80 : decode cX1_liveHours 80 = .ok (.getfield 50, 3) := by decide +kernel
theorem dX1_liveHours_83 : decode cX1_liveHours 83 = .ok (.ifCond .le 31, 3) := by decide +kernel
theorem dX1_liveHours_86 : decode cX1_liveHours 86 = .ok (.aload_n 0, 1) := by decide +kernel
theorem dX1_liveHours_87 : decode cX1_liveHours 87 = .ok (.aload_n 1, 1) := by decide +kernel
theorem dX1_liveHours_88 : decode cX1_liveHours 88 = .ok (.getfield 33, 3) := by decide +kernel
theorem dX1_liveHours_91 : decode cX1_liveHours 91 = .ok (.getfield 50, 3) := by decide +kernel
theorem dX1_liveHours_94 : decode cX1_liveHours 94 = .ok (.invokevirtual 46, 3) := by decide +kernel
theorem dX1_liveHours_97 : decode cX1_liveHours 97 = .ok (.istore 6, 2) := by decide +kernel
theorem dX1_liveHours_99 : decode cX1_liveHours 99 = .ok (.aload_n 1, 1) := by decide +kernel
theorem dX1_liveHours_100 : decode cX1_liveHours 100 = .ok (.iload 6, 2) := by decide +kernel
theorem dX1_liveHours_102 : decode cX1_liveHours 102 = .ok (.invokevirtual 53, 3) := by decide +kernel
theorem dX1_liveHours_105 : decode cX1_liveHours 105 = .ok (.ifCond .ne 9, 3) := by decide +kernel
theorem dX1_liveHours_108 : decode cX1_liveHours 108 = .ok (.aload_n 1, 1) := by decide +kernel
theorem dX1_liveHours_109 : decode cX1_liveHours 109 = .ok (.iload 6, 2) := by decide +kernel
theorem dX1_liveHours_111 : decode cX1_liveHours 111 = .ok (.invokevirtual 56, 3) := by decide +kernel
theorem dX1_liveHours_114 : decode cX1_liveHours 114 = .ok (.aload_n 1, 1) := by decide +kernel
theorem dX1_liveHours_115 : decode cX1_liveHours 115 = .ok (.getfield 16, 3) := by decide +kernel
theorem dX1_liveHours_118 : decode cX1_liveHours 118 = .ok (.dup, 1) := by decide +kernel
theorem dX1_liveHours_119 : decode cX1_liveHours 119 = .ok (.getfield 22, 3) := by decide +kernel
theorem dX1_liveHours_122 : decode cX1_liveHours 122 = .ok (.iconst 1, 1) := by decide +kernel
theorem dX1_liveHours_123 : decode cX1_liveHours 123 = .ok (.iadd, 1) := by decide +kernel
theorem dX1_liveHours_124 : decode cX1_liveHours 124 = .ok (.putfield 22, 3) := by decide +kernel
theorem dX1_liveHours_127 : decode cX1_liveHours 127 = .ok (.iinc 5 1, 3) := by decide +kernel
theorem dX1_liveHours_130 : decode cX1_liveHours 130 = .ok (.goto (-105), 3) := by decide +kernel
theorem dX1_liveHours_133 : decode cX1_liveHours 133 = .ok (.iload 4, 2) := by decide +kernel
theorem dX1_liveHours_135 : decode cX1_liveHours 135 = .ok (.ireturn, 1) := by decide +kernel
theorem dX1_livePerson_0 : decode cX1_livePerson 0 = .ok (.aload_n 0, 1) := by decide +kernel
theorem dX1_livePerson_1 : decode cX1_livePerson 1 = .ok (.bipush 6, 2) := by decide +kernel
theorem dX1_livePerson_3 : decode cX1_livePerson 3 = .ok (.invokevirtual 46, 3) := by decide +kernel
theorem dX1_livePerson_6 : decode cX1_livePerson 6 = .ok (.istore_n 3, 1) := by decide +kernel
theorem dX1_livePerson_7 : decode cX1_livePerson 7 = .ok (.iload_n 3, 1) := by decide +kernel
theorem dX1_livePerson_8 : decode cX1_livePerson 8 = .ok (.iconst 4, 1) := by decide +kernel
theorem dX1_livePerson_9 : decode cX1_livePerson 9 = .ok (.if_icmp .ge 21, 3) := by decide +kernel
theorem dX1_livePerson_12 : decode cX1_livePerson 12 = .ok (.aload_n 1, 1) := by decide +kernel
theorem dX1_livePerson_13 : decode cX1_livePerson 13 = .ok (.iload_n 2, 1) := by decide +kernel
theorem dX1_livePerson_14 : decode cX1_livePerson 14 = .ok (.iload_n 3, 1) := by decide +kernel
theorem dX1_livePerson_15 : decode cX1_livePerson 15 = .ok (.invokevirtual 60, 3) := by decide +kernel
theorem dX1_livePerson_18 : decode cX1_livePerson 18 = .ok (.ifCond .ne 68, 3) := by decide +kernel
theorem dX1_livePerson_21 : decode cX1_livePerson 21 = .ok (.aload_n 1, 1) := by decide +kernel
theorem dX1_livePerson_22 : decode cX1_livePerson 22 = .ok (.iload_n 2, 1) := by decide +kernel
theorem dX1_livePerson_23 : decode cX1_livePerson 23 = .ok (.iload_n 3, 1) := by decide +kernel
theorem dX1_livePerson_24 : decode cX1_livePerson 24 = .ok (.invokevirtual 63, 3) := by decide +kernel
theorem dX1_livePerson_27 : decode cX1_livePerson 27 = .ok (.goto 59, 3) := by decide +kernel
theorem dX1_livePerson_30 : decode cX1_livePerson 30 = .ok (.iload_n 3, 1) := by decide +kernel
theorem dX1_livePerson_31 : decode cX1_livePerson 31 = .ok (.iconst 4, 1) := by decide +kernel
theorem dX1_livePerson_32 : decode cX1_livePerson 32 = .ok (.if_icmp .ne 54, 3) := by decide +kernel
theorem dX1_livePerson_35 : decode cX1_livePerson 35 = .ok (.aload_n 0, 1) := by decide +kernel
theorem dX1_livePerson_36 : decode cX1_livePerson 36 = .ok (.aload_n 1, 1) := by decide +kernel
theorem dX1_livePerson_37 : decode cX1_livePerson 37 = .ok (.getfield 33, 3) := by decide +kernel
theorem dX1_livePerson_40 : decode cX1_livePerson 40 = .ok (.getfield 67, 3) := by decide +kernel
theorem dX1_livePerson_43 : decode cX1_livePerson 43 = .ok (.invokevirtual 46, 3) := by decide +kernel
theorem dX1_livePerson_46 : decode cX1_livePerson 46 = .ok (.istore 4, 2) := by decide +kernel
theorem dX1_livePerson_48 : decode cX1_livePerson 48 = .ok (.aload_n 0, 1) := by decide +kernel
theorem dX1_livePerson_49 : decode cX1_livePerson 49 = .ok (.aload_n 1, 1) := by decide +kernel
theorem dX1_livePerson_50 : decode cX1_livePerson 50 = .ok (.getfield 33, 3) := by decide +kernel
theorem dX1_livePerson_53 : decode cX1_livePerson 53 = .ok (.getfield 70, 3) := by decide +kernel
theorem dX1_livePerson_56 : decode cX1_livePerson 56 = .ok (.invokevirtual 46, 3) := by decide +kernel
theorem dX1_livePerson_59 : decode cX1_livePerson 59 = .ok (.istore 5, 2) := by decide +kernel
theorem dX1_livePerson_61 : decode cX1_livePerson 61 = .ok (.bipush 8, 2) := by decide +kernel
theorem dX1_livePerson_63 : decode cX1_livePerson 63 = .ok (.iload 5, 2) := by decide +kernel
theorem dX1_livePerson_65 : decode cX1_livePerson 65 = .ok (.imul, 1) := by decide +kernel
theorem dX1_livePerson_66 : decode cX1_livePerson 66 = .ok (.iload 4, 2) := by decide +kernel
theorem dX1_livePerson_68 : decode cX1_livePerson 68 = .ok (.iadd, 1) := by decide +kernel
theorem dX1_livePerson_69 : decode cX1_livePerson 69 = .ok (.istore 6, 2) := by decide +kernel
theorem dX1_livePerson_71 : decode cX1_livePerson 71 = .ok (.aload_n 1, 1) := by decide +kernel
theorem dX1_livePerson_72 : decode cX1_livePerson 72 = .ok (.iload 6, 2) := by decide +kernel
theorem dX1_livePerson_74 : decode cX1_livePerson 74 = .ok (.invokevirtual 73, 3) := by decide +kernel
theorem dX1_livePerson_77 : decode cX1_livePerson 77 = .ok (.ifCond .ne 9, 3) := by decide +kernel
theorem dX1_livePerson_80 : decode cX1_livePerson 80 = .ok (.aload_n 1, 1) := by decide +kernel
theorem dX1_livePerson_81 : decode cX1_livePerson 81 = .ok (.iload 6, 2) := by decide +kernel
theorem dX1_livePerson_83 : decode cX1_livePerson 83 = .ok (.invokevirtual 76, 3) := by decide +kernel
theorem dX1_livePerson_86 : decode cX1_livePerson 86 = .ok (.return_, 1) := by decide +kernel
theorem dX2_bringBack_0 : decode cX2_bringBack 0 = .ok (.aload_n 0, 1) := by decide +kernel
theorem dX2_bringBack_1 : decode cX2_bringBack 1 = .ok (.getfield 19, 3) := by decide +kernel
theorem dX2_bringBack_4 : decode cX2_bringBack 4 = .ok (.ifCond .ne 5, 3) := by decide +kernel
theorem dX2_bringBack_7 : decode cX2_bringBack 7 = .ok (.iconst 0, 1) := by decide +kernel
theorem dX2_bringBack_8 : decode cX2_bringBack 8 = .ok (.ireturn, 1) := by decide +kernel
theorem dX2_bringBack_9 : decode cX2_bringBack 9 = .ok (.aload_n 0, 1) := by decide +kernel
theorem dX2_bringBack_10 : decode cX2_bringBack 10 = .ok (.aload_n 0, 1) := by decide +kernel
theorem dX2_bringBack_11 : decode cX2_bringBack 11 = .ok (.getfield 15, 3) := by decide +kernel
theorem dX2_bringBack_14 : decode cX2_bringBack 14 = .ok (.bipush 8, 2) := by decide +kernel
theorem dX2_bringBack_16 : decode cX2_bringBack 16 = .ok (.iadd, 1) := by decide +kernel
theorem dX2_bringBack_17 : decode cX2_bringBack 17 = .ok (.iconst 1, 1) := by decide +kernel
theorem dX2_bringBack_18 : decode cX2_bringBack 18 = .ok (.isub, 1) := by decide +kernel
theorem dX2_bringBack_19 : decode cX2_bringBack 19 = .ok (.bipush 8, 2) := by decide +kernel
theorem dX2_bringBack_21 : decode cX2_bringBack 21 = .ok (.irem, 1) := by decide +kernel
theorem dX2_bringBack_22 : decode cX2_bringBack 22 = .ok (.putfield 15, 3) := by decide +kernel
theorem dX2_bringBack_25 : decode cX2_bringBack 25 = .ok (.aload_n 0, 1) := by decide +kernel
theorem dX2_bringBack_26 : decode cX2_bringBack 26 = .ok (.dup, 1) := by decide +kernel
theorem dX2_bringBack_27 : decode cX2_bringBack 27 = .ok (.getfield 19, 3) := by decide +kernel
theorem dX2_bringBack_30 : decode cX2_bringBack 30 = .ok (.iconst 1, 1) := by decide +kernel
theorem dX2_bringBack_31 : decode cX2_bringBack 31 = .ok (.isub, 1) := by decide +kernel
theorem dX2_bringBack_32 : decode cX2_bringBack 32 = .ok (.putfield 19, 3) := by decide +kernel
theorem dX2_bringBack_35 : decode cX2_bringBack 35 = .ok (.aload_n 1, 1) := by decide +kernel
theorem dX2_bringBack_36 : decode cX2_bringBack 36 = .ok (.aload_n 0, 1) := by decide +kernel
theorem dX2_bringBack_37 : decode cX2_bringBack 37 = .ok (.getfield 11, 3) := by decide +kernel
theorem dX2_bringBack_40 : decode cX2_bringBack 40 = .ok (.aload_n 0, 1) := by decide +kernel
theorem dX2_bringBack_41 : decode cX2_bringBack 41 = .ok (.getfield 15, 3) := by decide +kernel
theorem dX2_bringBack_44 : decode cX2_bringBack 44 = .ok (.aaload, 1) := by decide +kernel
theorem dX2_bringBack_45 : decode cX2_bringBack 45 = .ok (.invokevirtual 23, 3) := by decide +kernel
theorem dX2_bringBack_48 : decode cX2_bringBack 48 = .ok (.iconst 1, 1) := by decide +kernel
theorem dX2_bringBack_49 : decode cX2_bringBack 49 = .ok (.ireturn, 1) := by decide +kernel
theorem dX2_clear_0 : decode cX2_clear 0 = .ok (.aload_n 0, 1) := by decide +kernel
theorem dX2_clear_1 : decode cX2_clear 1 = .ok (.iconst 0, 1) := by decide +kernel
theorem dX2_clear_2 : decode cX2_clear 2 = .ok (.putfield 19, 3) := by decide +kernel
theorem dX2_clear_5 : decode cX2_clear 5 = .ok (.return_, 1) := by decide +kernel
theorem dX2_keep_0 : decode cX2_keep 0 = .ok (.aload_n 0, 1) := by decide +kernel
theorem dX2_keep_1 : decode cX2_keep 1 = .ok (.getfield 11, 3) := by decide +kernel
theorem dX2_keep_4 : decode cX2_keep 4 = .ok (.aload_n 0, 1) := by decide +kernel
theorem dX2_keep_5 : decode cX2_keep 5 = .ok (.getfield 15, 3) := by decide +kernel
theorem dX2_keep_8 : decode cX2_keep 8 = .ok (.aaload, 1) := by decide +kernel
theorem dX2_keep_9 : decode cX2_keep 9 = .ok (.aload_n 1, 1) := by decide +kernel
theorem dX2_keep_10 : decode cX2_keep 10 = .ok (.invokevirtual 23, 3) := by decide +kernel
theorem dX2_keep_13 : decode cX2_keep 13 = .ok (.aload_n 0, 1) := by decide +kernel
theorem dX2_keep_14 : decode cX2_keep 14 = .ok (.aload_n 0, 1) := by decide +kernel
theorem dX2_keep_15 : decode cX2_keep 15 = .ok (.getfield 15, 3) := by decide +kernel
theorem dX2_keep_18 : decode cX2_keep 18 = .ok (.iconst 1, 1) := by decide +kernel
theorem dX2_keep_19 : decode cX2_keep 19 = .ok (.iadd, 1) := by decide +kernel
theorem dX2_keep_20 : decode cX2_keep 20 = .ok (.bipush 8, 2) := by decide +kernel
theorem dX2_keep_22 : decode cX2_keep 22 = .ok (.irem, 1) := by decide +kernel
theorem dX2_keep_23 : decode cX2_keep 23 = .ok (.putfield 15, 3) := by decide +kernel
theorem dX2_keep_26 : decode cX2_keep 26 = .ok (.aload_n 0, 1) := by decide +kernel
theorem dX2_keep_27 : decode cX2_keep 27 = .ok (.aload_n 0, 1) := by decide +kernel
theorem dX2_keep_28 : decode cX2_keep 28 = .ok (.getfield 19, 3) := by decide +kernel
theorem dX2_keep_31 : decode cX2_keep 31 = .ok (.iconst 1, 1) := by decide +kernel
theorem dX2_keep_32 : decode cX2_keep 32 = .ok (.iadd, 1) := by decide +kernel
theorem dX2_keep_33 : decode cX2_keep 33 = .ok (.bipush 8, 2) := by decide +kernel
theorem dX2_keep_35 : decode cX2_keep 35 = .ok (.invokestatic 27, 3) := by decide +kernel
theorem dX2_keep_38 : decode cX2_keep 38 = .ok (.putfield 19, 3) := by decide +kernel
theorem dX2_keep_41 : decode cX2_keep 41 = .ok (.return_, 1) := by decide +kernel
theorem dX3_buryHouse_0 : decode cX3_buryHouse 0 = .ok (.aload_n 0, 1) := by decide +kernel
theorem dX3_buryHouse_1 : decode cX3_buryHouse 1 = .ok (.getfield 9, 3) := by decide +kernel
theorem dX3_buryHouse_4 : decode cX3_buryHouse 4 = .ok (.iload_n 1, 1) := by decide +kernel
theorem dX3_buryHouse_5 : decode cX3_buryHouse 5 = .ok (.invokevirtual 130, 3) := by decide +kernel
theorem dX3_buryHouse_8 : decode cX3_buryHouse 8 = .ok (.ifCond .ne 4, 3) := by decide +kernel
theorem dX3_buryHouse_11 : decode cX3_buryHouse 11 = .ok (.return_, 1) := by decide +kernel
theorem dX3_buryHouse_12 : decode cX3_buryHouse 12 = .ok (.aload_n 0, 1) := by decide +kernel
theorem dX3_buryHouse_13 : decode cX3_buryHouse 13 = .ok (.iload_n 1, 1) := by decide +kernel
theorem dX3_buryHouse_14 : decode cX3_buryHouse 14 = .ok (.aload_n 0, 1) := by decide +kernel
theorem dX3_buryHouse_15 : decode cX3_buryHouse 15 = .ok (.invokevirtual 90, 3) := by decide +kernel
theorem dX3_buryHouse_18 : decode cX3_buryHouse 18 = .ok (.invokevirtual 94, 3) := by decide +kernel
theorem dX3_buryHouse_21 : decode cX3_buryHouse 21 = .ok (.istore_n 2, 1) := by decide +kernel
theorem dX3_buryHouse_22 : decode cX3_buryHouse 22 = .ok (.iload_n 2, 1) := by decide +kernel
theorem dX3_buryHouse_23 : decode cX3_buryHouse 23 = .ok (.invokestatic 97, 3) := by decide +kernel
theorem dX3_buryHouse_26 : decode cX3_buryHouse 26 = .ok (.istore_n 3, 1) := by decide +kernel
theorem dX3_buryHouse_27 : decode cX3_buryHouse 27 = .ok (.iload_n 3, 1) := by decide +kernel
theorem dX3_buryHouse_28 : decode cX3_buryHouse 28 = .ok (.ifCond .le 17, 3) := by decide +kernel
theorem dX3_buryHouse_31 : decode cX3_buryHouse 31 = .ok (.aload_n 0, 1) := by decide +kernel
theorem dX3_buryHouse_32 : decode cX3_buryHouse 32 = .ok (.getfield 15, 3) := by decide +kernel
theorem dX3_buryHouse_35 : decode cX3_buryHouse 35 = .ok (.getfield 133, 3) := by decide +kernel
theorem dX3_buryHouse_38 : decode cX3_buryHouse 38 = .ok (.iload_n 1, 1) := by decide +kernel
theorem dX3_buryHouse_39 : decode cX3_buryHouse 39 = .ok (.iaload, 1) := by decide +kernel
theorem dX3_buryHouse_40 : decode cX3_buryHouse 40 = .ok (.iload_n 3, 1) := by decide +kernel
theorem dX3_buryHouse_41 : decode cX3_buryHouse 41 = .ok (.idiv, 1) := by decide +kernel
theorem dX3_buryHouse_42 : decode cX3_buryHouse 42 = .ok (.goto 4, 3) := by decide +kernel
theorem dX3_buryHouse_45 : decode cX3_buryHouse 45 = .ok (.iconst 0, 1) := by decide +kernel
theorem dX3_buryHouse_46 : decode cX3_buryHouse 46 = .ok (.istore 4, 2) := by decide +kernel
theorem dX3_buryHouse_48 : decode cX3_buryHouse 48 = .ok (.iconst 0, 1) := by decide +kernel
theorem dX3_buryHouse_49 : decode cX3_buryHouse 49 = .ok (.istore 5, 2) := by decide +kernel
theorem dX3_buryHouse_51 : decode cX3_buryHouse 51 = .ok (.iload 5, 2) := by decide +kernel
theorem dX3_buryHouse_53 : decode cX3_buryHouse 53 = .ok (.bipush 6, 2) := by decide +kernel
theorem dX3_buryHouse_55 : decode cX3_buryHouse 55 = .ok (.if_icmp .ge 34, 3) := by decide +kernel
theorem dX3_buryHouse_58 : decode cX3_buryHouse 58 = .ok (.iload_n 2, 1) := by decide +kernel
theorem dX3_buryHouse_59 : decode cX3_buryHouse 59 = .ok (.iload 5, 2) := by decide +kernel
theorem dX3_buryHouse_61 : decode cX3_buryHouse 61 = .ok (.ishr, 1) := by decide +kernel
theorem dX3_buryHouse_62 : decode cX3_buryHouse 62 = .ok (.iconst 1, 1) := by decide +kernel
theorem dX3_buryHouse_63 : decode cX3_buryHouse 63 = .ok (.iand, 1) := by decide +kernel
theorem dX3_buryHouse_64 : decode cX3_buryHouse 64 = .ok (.iconst 1, 1) := by decide +kernel
theorem dX3_buryHouse_65 : decode cX3_buryHouse 65 = .ok (.if_icmp .ne 18, 3) := by decide +kernel
theorem dX3_buryHouse_68 : decode cX3_buryHouse 68 = .ok (.aload_n 0, 1) := by decide +kernel
theorem dX3_buryHouse_69 : decode cX3_buryHouse 69 = .ok (.getfield 15, 3) := by decide +kernel
theorem dX3_buryHouse_72 : decode cX3_buryHouse 72 = .ok (.getfield 136, 3) := by decide +kernel
theorem dX3_buryHouse_75 : decode cX3_buryHouse 75 = .ok (.iload 5, 2) := by decide +kernel
theorem dX3_buryHouse_77 : decode cX3_buryHouse 77 = .ok (.dup2, 1) := by decide +kernel
theorem dX3_buryHouse_78 : decode cX3_buryHouse 78 = .ok (.iaload, 1) := by decide +kernel
theorem dX3_buryHouse_79 : decode cX3_buryHouse 79 = .ok (.iload 4, 2) := by decide +kernel
theorem dX3_buryHouse_81 : decode cX3_buryHouse 81 = .ok (.iadd, 1) := by decide +kernel
theorem dX3_buryHouse_82 : decode cX3_buryHouse 82 = .ok (.iastore, 1) := by decide +kernel
theorem dX3_buryHouse_83 : decode cX3_buryHouse 83 = .ok (.iinc 5 1, 3) := by decide +kernel
theorem dX3_buryHouse_86 : decode cX3_buryHouse 86 = .ok (.goto (-35), 3) := by decide +kernel
theorem dX3_buryHouse_89 : decode cX3_buryHouse 89 = .ok (.aload_n 0, 1) := by decide +kernel
theorem dX3_buryHouse_90 : decode cX3_buryHouse 90 = .ok (.getfield 15, 3) := by decide +kernel
theorem dX3_buryHouse_93 : decode cX3_buryHouse 93 = .ok (.dup, 1) := by decide +kernel
theorem dX3_buryHouse_94 : decode cX3_buryHouse 94 = .ok (.getfield 139, 3) := by decide +kernel
theorem dX3_buryHouse_97 : decode cX3_buryHouse 97 = .ok (.aload_n 0, 1) := by decide +kernel
theorem dX3_buryHouse_98 : decode cX3_buryHouse 98 = .ok (.getfield 15, 3) := by decide +kernel
theorem dX3_buryHouse_101 : decode cX3_buryHouse 101 = .ok (.getfield 133, 3) := by decide +kernel
theorem dX3_buryHouse_104 : decode cX3_buryHouse 104 = .ok (.iload_n 1, 1) := by decide +kernel
theorem dX3_buryHouse_105 : decode cX3_buryHouse 105 = .ok (.iaload, 1) := by decide +kernel
theorem dX3_buryHouse_106 : decode cX3_buryHouse 106 = .ok (.iload 4, 2) := by decide +kernel
theorem dX3_buryHouse_108 : decode cX3_buryHouse 108 = .ok (.iload_n 3, 1) := by decide +kernel
theorem dX3_buryHouse_109 : decode cX3_buryHouse 109 = .ok (.imul, 1) := by decide +kernel
theorem dX3_buryHouse_110 : decode cX3_buryHouse 110 = .ok (.isub, 1) := by decide +kernel
theorem dX3_buryHouse_111 : decode cX3_buryHouse 111 = .ok (.iadd, 1) := by decide +kernel
theorem dX3_buryHouse_112 : decode cX3_buryHouse 112 = .ok (.putfield 139, 3) := by decide +kernel
theorem dX3_buryHouse_115 : decode cX3_buryHouse 115 = .ok (.aload_n 0, 1) := by decide +kernel
theorem dX3_buryHouse_116 : decode cX3_buryHouse 116 = .ok (.getfield 15, 3) := by decide +kernel
theorem dX3_buryHouse_119 : decode cX3_buryHouse 119 = .ok (.getfield 133, 3) := by decide +kernel
theorem dX3_buryHouse_122 : decode cX3_buryHouse 122 = .ok (.iload_n 1, 1) := by decide +kernel
theorem dX3_buryHouse_123 : decode cX3_buryHouse 123 = .ok (.iconst 0, 1) := by decide +kernel
theorem dX3_buryHouse_124 : decode cX3_buryHouse 124 = .ok (.iastore, 1) := by decide +kernel
theorem dX3_buryHouse_125 : decode cX3_buryHouse 125 = .ok (.aload_n 0, 1) := by decide +kernel
theorem dX3_buryHouse_126 : decode cX3_buryHouse 126 = .ok (.getfield 15, 3) := by decide +kernel
theorem dX3_buryHouse_129 : decode cX3_buryHouse 129 = .ok (.dup, 1) := by decide +kernel
theorem dX3_buryHouse_130 : decode cX3_buryHouse 130 = .ok (.getfield 142, 3) := by decide +kernel
theorem dX3_buryHouse_133 : decode cX3_buryHouse 133 = .ok (.iconst 1, 1) := by decide +kernel
theorem dX3_buryHouse_134 : decode cX3_buryHouse 134 = .ok (.iload_n 1, 1) := by decide +kernel
theorem dX3_buryHouse_135 : decode cX3_buryHouse 135 = .ok (.ishl, 1) := by decide +kernel
theorem dX3_buryHouse_136 : decode cX3_buryHouse 136 = .ok (.ior, 1) := by decide +kernel
theorem dX3_buryHouse_137 : decode cX3_buryHouse 137 = .ok (.putfield 142, 3) := by decide +kernel
theorem dX3_buryHouse_140 : decode cX3_buryHouse 140 = .ok (.return_, 1) := by decide +kernel
theorem dX3_copyFrom_0 : decode cX3_copyFrom 0 = .ok (.aload_n 0, 1) := by decide +kernel
theorem dX3_copyFrom_1 : decode cX3_copyFrom 1 = .ok (.getfield 9, 3) := by decide +kernel
theorem dX3_copyFrom_4 : decode cX3_copyFrom 4 = .ok (.aload_n 1, 1) := by decide +kernel
theorem dX3_copyFrom_5 : decode cX3_copyFrom 5 = .ok (.getfield 9, 3) := by decide +kernel
theorem dX3_copyFrom_8 : decode cX3_copyFrom 8 = .ok (.invokevirtual 23, 3) := by decide +kernel
theorem dX3_copyFrom_11 : decode cX3_copyFrom 11 = .ok (.aload_n 0, 1) := by decide +kernel
theorem dX3_copyFrom_12 : decode cX3_copyFrom 12 = .ok (.getfield 15, 3) := by decide +kernel
theorem dX3_copyFrom_15 : decode cX3_copyFrom 15 = .ok (.aload_n 1, 1) := by decide +kernel
theorem dX3_copyFrom_16 : decode cX3_copyFrom 16 = .ok (.getfield 15, 3) := by decide +kernel
theorem dX3_copyFrom_19 : decode cX3_copyFrom 19 = .ok (.invokevirtual 29, 3) := by decide +kernel
theorem dX3_copyFrom_22 : decode cX3_copyFrom 22 = .ok (.aload_n 0, 1) := by decide +kernel
theorem dX3_copyFrom_23 : decode cX3_copyFrom 23 = .ok (.getfield 19, 3) := by decide +kernel
theorem dX3_copyFrom_26 : decode cX3_copyFrom 26 = .ok (.aload_n 1, 1) := by decide +kernel
theorem dX3_copyFrom_27 : decode cX3_copyFrom 27 = .ok (.getfield 19, 3) := by decide +kernel
theorem dX3_copyFrom_30 : decode cX3_copyFrom 30 = .ok (.invokevirtual 34, 3) := by decide +kernel
theorem dX3_copyFrom_33 : decode cX3_copyFrom 33 = .ok (.return_, 1) := by decide +kernel
theorem dX3_heightAt_0 : decode cX3_heightAt 0 = .ok (.iload_n 1, 1) := by decide +kernel
theorem dX3_heightAt_1 : decode cX3_heightAt 1 = .ok (.ifCond .lt 9, 3) := by decide +kernel
theorem dX3_heightAt_4 : decode cX3_heightAt 4 = .ok (.iload_n 1, 1) := by decide +kernel
theorem dX3_heightAt_5 : decode cX3_heightAt 5 = .ok (.bipush 64, 2) := by decide +kernel
theorem dX3_heightAt_7 : decode cX3_heightAt 7 = .ok (.if_icmp .lt 5, 3) := by decide +kernel
theorem dX3_heightAt_10 : decode cX3_heightAt 10 = .ok (.iconst 0, 1) := by decide +kernel
theorem dX3_heightAt_11 : decode cX3_heightAt 11 = .ok (.ireturn, 1) := by decide +kernel
theorem dX3_heightAt_12 : decode cX3_heightAt 12 = .ok (.iconst 0, 1) := by decide +kernel
theorem dX3_heightAt_13 : decode cX3_heightAt 13 = .ok (.istore_n 2, 1) := by decide +kernel
theorem dX3_heightAt_14 : decode cX3_heightAt 14 = .ok (.iload_n 2, 1) := by decide +kernel
theorem dX3_heightAt_15 : decode cX3_heightAt 15 = .ok (.aload_n 0, 1) := by decide +kernel
theorem dX3_heightAt_16 : decode cX3_heightAt 16 = .ok (.getfield 9, 3) := by decide +kernel
theorem dX3_heightAt_19 : decode cX3_heightAt 19 = .ok (.getfield 39, 3) := by decide +kernel
theorem dX3_heightAt_22 : decode cX3_heightAt 22 = .ok (.if_icmp .ge 37, 3) := by decide +kernel
theorem dX3_heightAt_25 : decode cX3_heightAt 25 = .ok (.iload_n 2, 1) := by decide +kernel
theorem dX3_heightAt_26 : decode cX3_heightAt 26 = .ok (.iconst 5, 1) := by decide +kernel
theorem dX3_heightAt_27 : decode cX3_heightAt 27 = .ok (.if_icmp .ge 32, 3) := by decide +kernel
theorem dX3_heightAt_30 : decode cX3_heightAt 30 = .ok (.aload_n 0, 1) := by decide +kernel
theorem dX3_heightAt_31 : decode cX3_heightAt 31 = .ok (.getfield 9, 3) := by decide +kernel
theorem dX3_heightAt_34 : decode cX3_heightAt 34 = .ok (.getfield 43, 3) := by decide +kernel
theorem dX3_heightAt_37 : decode cX3_heightAt 37 = .ok (.iload_n 2, 1) := by decide +kernel
theorem dX3_heightAt_38 : decode cX3_heightAt 38 = .ok (.iaload, 1) := by decide +kernel
theorem dX3_heightAt_39 : decode cX3_heightAt 39 = .ok (.iload_n 1, 1) := by decide +kernel
theorem dX3_heightAt_40 : decode cX3_heightAt 40 = .ok (.if_icmp .ne 13, 3) := by decide +kernel
theorem dX3_heightAt_43 : decode cX3_heightAt 43 = .ok (.aload_n 0, 1) := by decide +kernel
theorem dX3_heightAt_44 : decode cX3_heightAt 44 = .ok (.getfield 9, 3) := by decide +kernel
theorem dX3_heightAt_47 : decode cX3_heightAt 47 = .ok (.getfield 47, 3) := by decide +kernel
theorem dX3_heightAt_50 : decode cX3_heightAt 50 = .ok (.iload_n 2, 1) := by decide +kernel
theorem dX3_heightAt_51 : decode cX3_heightAt 51 = .ok (.iaload, 1) := by decide +kernel
theorem dX3_heightAt_52 : decode cX3_heightAt 52 = .ok (.ireturn, 1) := by decide +kernel
theorem dX3_heightAt_53 : decode cX3_heightAt 53 = .ok (.iinc 2 1, 3) := by decide +kernel
theorem dX3_heightAt_56 : decode cX3_heightAt 56 = .ok (.goto (-42), 3) := by decide +kernel
theorem dX3_heightAt_59 : decode cX3_heightAt 59 = .ok (.aload_n 0, 1) := by decide +kernel
theorem dX3_heightAt_60 : decode cX3_heightAt 60 = .ok (.getfield 15, 3) := by decide +kernel
theorem dX3_heightAt_63 : decode cX3_heightAt 63 = .ok (.getfield 50, 3) := by decide +kernel
theorem dX3_heightAt_66 : decode cX3_heightAt 66 = .ok (.iload_n 1, 1) := by decide +kernel
theorem dX3_heightAt_67 : decode cX3_heightAt 67 = .ok (.iaload, 1) := by decide +kernel
theorem dX3_heightAt_68 : decode cX3_heightAt 68 = .ok (.ireturn, 1) := by decide +kernel
theorem dX3_housesTouching_0 : decode cX3_housesTouching 0 = .ok (.aload_n 0, 1) := by decide +kernel
theorem dX3_housesTouching_1 : decode cX3_housesTouching 1 = .ok (.invokevirtual 90, 3) := by decide +kernel
theorem dX3_housesTouching_4 : decode cX3_housesTouching 4 = .ok (.istore_n 2, 1) := by decide +kernel
theorem dX3_housesTouching_5 : decode cX3_housesTouching 5 = .ok (.iconst 0, 1) := by decide +kernel
theorem dX3_housesTouching_6 : decode cX3_housesTouching 6 = .ok (.istore_n 3, 1) := by decide +kernel
theorem dX3_housesTouching_7 : decode cX3_housesTouching 7 = .ok (.iconst 0, 1) := by decide +kernel
theorem dX3_housesTouching_8 : decode cX3_housesTouching 8 = .ok (.istore 4, 2) := by decide +kernel
theorem dX3_housesTouching_10 : decode cX3_housesTouching 10 = .ok (.iload 4, 2) := by decide +kernel
theorem dX3_housesTouching_12 : decode cX3_housesTouching 12 = .ok (.aload_n 0, 1) := by decide +kernel
theorem dX3_housesTouching_13 : decode cX3_housesTouching 13 = .ok (.getfield 9, 3) := by decide +kernel
theorem dX3_housesTouching_16 : decode cX3_housesTouching 16 = .ok (.getfield 39, 3) := by decide +kernel
theorem dX3_housesTouching_19 : decode cX3_housesTouching 19 = .ok (.if_icmp .ge 47, 3) := by decide +kernel
theorem dX3_housesTouching_22 : decode cX3_housesTouching 22 = .ok (.aload_n 0, 1) := by decide +kernel
theorem dX3_housesTouching_23 : decode cX3_housesTouching 23 = .ok (.getfield 9, 3) := by decide +kernel
theorem dX3_housesTouching_26 : decode cX3_housesTouching 26 = .ok (.iload 4, 2) := by decide +kernel
theorem dX3_housesTouching_28 : decode cX3_housesTouching 28 = .ok (.iload_n 2, 1) := by decide +kernel
theorem dX3_housesTouching_29 : decode cX3_housesTouching 29 = .ok (.iload_n 1, 1) := by decide +kernel
theorem dX3_housesTouching_30 : decode cX3_housesTouching 30 = .ok (.invokevirtual 87, 3) := by decide +kernel
theorem dX3_housesTouching_33 : decode cX3_housesTouching 33 = .ok (.istore 5, 2) := by decide +kernel
theorem dX3_housesTouching_35 : decode cX3_housesTouching 35 = .ok (.iload 5, 2) := by decide +kernel
theorem dX3_housesTouching_37 : decode cX3_housesTouching 37 = .ok (.iconst 1, 1) := by decide +kernel
theorem dX3_housesTouching_38 : decode cX3_housesTouching 38 = .ok (.if_icmp .lt 22, 3) := by decide +kernel
theorem dX3_housesTouching_41 : decode cX3_housesTouching 41 = .ok (.iload 5, 2) := by decide +kernel
theorem dX3_housesTouching_43 : decode cX3_housesTouching 43 = .ok (.aload_n 0, 1) := by decide +kernel
theorem dX3_housesTouching_44 : decode cX3_housesTouching 44 = .ok (.iload 4, 2) := by decide +kernel
theorem dX3_housesTouching_46 : decode cX3_housesTouching 46 = .ok (.iload_n 2, 1) := by decide +kernel
theorem dX3_housesTouching_47 : decode cX3_housesTouching 47 = .ok (.invokevirtual 83, 3) := by decide +kernel
theorem dX3_housesTouching_50 : decode cX3_housesTouching 50 = .ok (.if_icmp .gt 10, 3) := by decide +kernel
theorem dX3_housesTouching_53 : decode cX3_housesTouching 53 = .ok (.iload_n 3, 1) := by decide +kernel
theorem dX3_housesTouching_54 : decode cX3_housesTouching 54 = .ok (.iconst 1, 1) := by decide +kernel
theorem dX3_housesTouching_55 : decode cX3_housesTouching 55 = .ok (.iload 4, 2) := by decide +kernel
theorem dX3_housesTouching_57 : decode cX3_housesTouching 57 = .ok (.ishl, 1) := by decide +kernel
theorem dX3_housesTouching_58 : decode cX3_housesTouching 58 = .ok (.ior, 1) := by decide +kernel
theorem dX3_housesTouching_59 : decode cX3_housesTouching 59 = .ok (.istore_n 3, 1) := by decide +kernel
theorem dX3_housesTouching_60 : decode cX3_housesTouching 60 = .ok (.iinc 4 1, 3) := by decide +kernel
theorem dX3_housesTouching_63 : decode cX3_housesTouching 63 = .ok (.goto (-53), 3) := by decide +kernel
theorem dX3_housesTouching_66 : decode cX3_housesTouching 66 = .ok (.iload_n 3, 1) := by decide +kernel
theorem dX3_housesTouching_67 : decode cX3_housesTouching 67 = .ok (.ireturn, 1) := by decide +kernel
theorem dX3_layStone_0 : decode cX3_layStone 0 = .ok (.iload_n 1, 1) := by decide +kernel
theorem dX3_layStone_1 : decode cX3_layStone 1 = .ok (.ifCond .lt 35, 3) := by decide +kernel
theorem dX3_layStone_4 : decode cX3_layStone 4 = .ok (.iload_n 1, 1) := by decide +kernel
theorem dX3_layStone_5 : decode cX3_layStone 5 = .ok (.bipush 64, 2) := by decide +kernel
theorem dX3_layStone_7 : decode cX3_layStone 7 = .ok (.if_icmp .ge 29, 3) := by decide +kernel
theorem dX3_layStone_10 : decode cX3_layStone 10 = .ok (.aload_n 0, 1) := by decide +kernel
theorem dX3_layStone_11 : decode cX3_layStone 11 = .ok (.getfield 15, 3) := by decide +kernel
theorem dX3_layStone_14 : decode cX3_layStone 14 = .ok (.getfield 50, 3) := by decide +kernel
theorem dX3_layStone_17 : decode cX3_layStone 17 = .ok (.iload_n 1, 1) := by decide +kernel
theorem dX3_layStone_18 : decode cX3_layStone 18 = .ok (.dup2, 1) := by decide +kernel
theorem dX3_layStone_19 : decode cX3_layStone 19 = .ok (.iaload, 1) := by decide +kernel
theorem dX3_layStone_20 : decode cX3_layStone 20 = .ok (.iconst 1, 1) := by decide +kernel
theorem dX3_layStone_21 : decode cX3_layStone 21 = .ok (.iadd, 1) := by decide +kernel
theorem dX3_layStone_22 : decode cX3_layStone 22 = .ok (.iastore, 1) := by decide +kernel
theorem dX3_layStone_23 : decode cX3_layStone 23 = .ok (.aload_n 0, 1) := by decide +kernel
theorem dX3_layStone_24 : decode cX3_layStone 24 = .ok (.getfield 15, 3) := by decide +kernel
theorem dX3_layStone_27 : decode cX3_layStone 27 = .ok (.dup, 1) := by decide +kernel
theorem dX3_layStone_28 : decode cX3_layStone 28 = .ok (.getfield 124, 3) := by decide +kernel
theorem dX3_layStone_31 : decode cX3_layStone 31 = .ok (.iconst 1, 1) := by decide +kernel
theorem dX3_layStone_32 : decode cX3_layStone 32 = .ok (.iadd, 1) := by decide +kernel
theorem dX3_layStone_33 : decode cX3_layStone 33 = .ok (.putfield 124, 3) := by decide +kernel
theorem dX3_layStone_36 : decode cX3_layStone 36 = .ok (.return_, 1) := by decide +kernel
theorem dX3_makeStep_0 : decode cX3_makeStep 0 = .ok (.aload_n 0, 1) := by decide +kernel
theorem dX3_makeStep_1 : decode cX3_makeStep 1 = .ok (.getfield 9, 3) := by decide +kernel
theorem dX3_makeStep_4 : decode cX3_makeStep 4 = .ok (.iload_n 1, 1) := by decide +kernel
theorem dX3_makeStep_5 : decode cX3_makeStep 5 = .ok (.invokevirtual 108, 3) := by decide +kernel
theorem dX3_makeStep_8 : decode cX3_makeStep 8 = .ok (.ifCond .eq 24, 3) := by decide +kernel
theorem dX3_makeStep_11 : decode cX3_makeStep 11 = .ok (.aload_n 0, 1) := by decide +kernel
theorem dX3_makeStep_12 : decode cX3_makeStep 12 = .ok (.getfield 9, 3) := by decide +kernel
theorem dX3_makeStep_15 : decode cX3_makeStep 15 = .ok (.aload_n 0, 1) := by decide +kernel
theorem dX3_makeStep_16 : decode cX3_makeStep 16 = .ok (.getfield 15, 3) := by decide +kernel
theorem dX3_makeStep_19 : decode cX3_makeStep 19 = .ok (.getfield 56, 3) := by decide +kernel
theorem dX3_makeStep_22 : decode cX3_makeStep 22 = .ok (.iload_n 1, 1) := by decide +kernel
theorem dX3_makeStep_23 : decode cX3_makeStep 23 = .ok (.iaload, 1) := by decide +kernel
theorem dX3_makeStep_24 : decode cX3_makeStep 24 = .ok (.iload_n 2, 1) := by decide +kernel
theorem dX3_makeStep_25 : decode cX3_makeStep 25 = .ok (.iconst 1, 1) := by decide +kernel
theorem dX3_makeStep_26 : decode cX3_makeStep 26 = .ok (.invokevirtual 72, 3) := by decide +kernel
theorem dX3_makeStep_29 : decode cX3_makeStep 29 = .ok (.goto 4, 3) := by decide +kernel
theorem dX3_makeStep_32 : decode cX3_makeStep 32 = .ok (.iconst (-1), 1) := by decide +kernel
theorem dX3_makeStep_33 : decode cX3_makeStep 33 = .ok (.istore_n 3, 1) := by decide +kernel
theorem dX3_makeStep_34 : decode cX3_makeStep 34 = .ok (.iload_n 3, 1) := by decide +kernel
theorem dX3_makeStep_35 : decode cX3_makeStep 35 = .ok (.iconst (-1), 1) := by decide +kernel
theorem dX3_makeStep_36 : decode cX3_makeStep 36 = .ok (.if_icmp .eq 26, 3) := by decide +kernel
theorem dX3_makeStep_39 : decode cX3_makeStep 39 = .ok (.aload_n 0, 1) := by decide +kernel
theorem dX3_makeStep_40 : decode cX3_makeStep 40 = .ok (.getfield 15, 3) := by decide +kernel
theorem dX3_makeStep_43 : decode cX3_makeStep 43 = .ok (.getfield 56, 3) := by decide +kernel
theorem dX3_makeStep_46 : decode cX3_makeStep 46 = .ok (.iload_n 1, 1) := by decide +kernel
theorem dX3_makeStep_47 : decode cX3_makeStep 47 = .ok (.iload_n 3, 1) := by decide +kernel
theorem dX3_makeStep_48 : decode cX3_makeStep 48 = .ok (.iastore, 1) := by decide +kernel
theorem dX3_makeStep_49 : decode cX3_makeStep 49 = .ok (.aload_n 0, 1) := by decide +kernel
theorem dX3_makeStep_50 : decode cX3_makeStep 50 = .ok (.getfield 15, 3) := by decide +kernel
theorem dX3_makeStep_53 : decode cX3_makeStep 53 = .ok (.dup, 1) := by decide +kernel
theorem dX3_makeStep_54 : decode cX3_makeStep 54 = .ok (.getfield 112, 3) := by decide +kernel
theorem dX3_makeStep_57 : decode cX3_makeStep 57 = .ok (.iconst 1, 1) := by decide +kernel
theorem dX3_makeStep_58 : decode cX3_makeStep 58 = .ok (.iadd, 1) := by decide +kernel
theorem dX3_makeStep_59 : decode cX3_makeStep 59 = .ok (.putfield 112, 3) := by decide +kernel
theorem dX3_makeStep_62 : decode cX3_makeStep 62 = .ok (.return_, 1) := by decide +kernel
theorem dX3_partsWith_0 : decode cX3_partsWith 0 = .ok (.aload_n 0, 1) := by decide +kernel
theorem dX3_partsWith_1 : decode cX3_partsWith 1 = .ok (.iload_n 2, 1) := by decide +kernel
theorem dX3_partsWith_2 : decode cX3_partsWith 2 = .ok (.iload_n 3, 1) := by decide +kernel
theorem dX3_partsWith_3 : decode cX3_partsWith 3 = .ok (.invokevirtual 94, 3) := by decide +kernel
theorem dX3_partsWith_6 : decode cX3_partsWith 6 = .ok (.istore 4, 2) := by decide +kernel
theorem dX3_partsWith_8 : decode cX3_partsWith 8 = .ok (.iload 4, 2) := by decide +kernel
theorem dX3_partsWith_10 : decode cX3_partsWith 10 = .ok (.iload_n 1, 1) := by decide +kernel
theorem dX3_partsWith_11 : decode cX3_partsWith 11 = .ok (.ishr, 1) := by decide +kernel
theorem dX3_partsWith_12 : decode cX3_partsWith 12 = .ok (.iconst 1, 1) := by decide +kernel
theorem dX3_partsWith_13 : decode cX3_partsWith 13 = .ok (.iand, 1) := by decide +kernel
theorem dX3_partsWith_14 : decode cX3_partsWith 14 = .ok (.iconst 1, 1) := by decide +kernel
theorem dX3_partsWith_15 : decode cX3_partsWith 15 = .ok (.if_icmp .ne 11, 3) := by decide +kernel
theorem dX3_partsWith_18 : decode cX3_partsWith 18 = .ok (.iload 4, 2) := by decide +kernel
theorem dX3_partsWith_20 : decode cX3_partsWith 20 = .ok (.invokestatic 97, 3) := by decide +kernel
theorem dX3_partsWith_23 : decode cX3_partsWith 23 = .ok (.goto 4, 3) := by decide +kernel
theorem dX3_partsWith_26 : decode cX3_partsWith 26 = .ok (.iconst 0, 1) := by decide +kernel
theorem dX3_partsWith_27 : decode cX3_partsWith 27 = .ok (.ireturn, 1) := by decide +kernel
theorem dX3_personsOn_0 : decode cX3_personsOn 0 = .ok (.iconst 0, 1) := by decide +kernel
theorem dX3_personsOn_1 : decode cX3_personsOn 1 = .ok (.istore_n 2, 1) := by decide +kernel
theorem dX3_personsOn_2 : decode cX3_personsOn 2 = .ok (.iconst 0, 1) := by decide +kernel
theorem dX3_personsOn_3 : decode cX3_personsOn 3 = .ok (.istore_n 3, 1) := by decide +kernel
theorem dX3_personsOn_4 : decode cX3_personsOn 4 = .ok (.iload_n 3, 1) := by decide +kernel
theorem dX3_personsOn_5 : decode cX3_personsOn 5 = .ok (.aload_n 0, 1) := by decide +kernel
theorem dX3_personsOn_6 : decode cX3_personsOn 6 = .ok (.getfield 9, 3) := by decide +kernel
theorem dX3_personsOn_9 : decode cX3_personsOn 9 = .ok (.getfield 53, 3) := by decide +kernel
theorem dX3_personsOn_12 : decode cX3_personsOn 12 = .ok (.if_icmp .ge 34, 3) := by decide +kernel
theorem dX3_personsOn_15 : decode cX3_personsOn 15 = .ok (.iload_n 3, 1) := by decide +kernel
theorem dX3_personsOn_16 : decode cX3_personsOn 16 = .ok (.bipush 6, 2) := by decide +kernel
theorem dX3_personsOn_18 : decode cX3_personsOn 18 = .ok (.if_icmp .ge 28, 3) := by decide +kernel
theorem dX3_personsOn_21 : decode cX3_personsOn 21 = .ok (.aload_n 0, 1) := by decide +kernel
theorem dX3_personsOn_22 : decode cX3_personsOn 22 = .ok (.getfield 15, 3) := by decide +kernel
theorem dX3_personsOn_25 : decode cX3_personsOn 25 = .ok (.getfield 56, 3) := by decide +kernel
theorem dX3_personsOn_28 : decode cX3_personsOn 28 = .ok (.iload_n 3, 1) := by decide +kernel
theorem dX3_personsOn_29 : decode cX3_personsOn 29 = .ok (.iaload, 1) := by decide +kernel
theorem dX3_personsOn_30 : decode cX3_personsOn 30 = .ok (.iload_n 1, 1) := by decide +kernel
theorem dX3_personsOn_31 : decode cX3_personsOn 31 = .ok (.if_icmp .ne 9, 3) := by decide +kernel
theorem dX3_personsOn_34 : decode cX3_personsOn 34 = .ok (.iload_n 2, 1) := by decide +kernel
theorem dX3_personsOn_35 : decode cX3_personsOn 35 = .ok (.iconst 1, 1) := by decide +kernel
theorem dX3_personsOn_36 : decode cX3_personsOn 36 = .ok (.iload_n 3, 1) := by decide +kernel
theorem dX3_personsOn_37 : decode cX3_personsOn 37 = .ok (.ishl, 1) := by decide +kernel
theorem dX3_personsOn_38 : decode cX3_personsOn 38 = .ok (.ior, 1) := by decide +kernel
theorem dX3_personsOn_39 : decode cX3_personsOn 39 = .ok (.istore_n 2, 1) := by decide +kernel
theorem dX3_personsOn_40 : decode cX3_personsOn 40 = .ok (.iinc 3 1, 3) := by decide +kernel
theorem dX3_personsOn_43 : decode cX3_personsOn 43 = .ok (.goto (-39), 3) := by decide +kernel
theorem dX3_personsOn_46 : decode cX3_personsOn 46 = .ok (.iload_n 2, 1) := by decide +kernel
theorem dX3_personsOn_47 : decode cX3_personsOn 47 = .ok (.ireturn, 1) := by decide +kernel
theorem dX3_personsTouched_0 : decode cX3_personsTouched 0 = .ok (.aload_n 0, 1) := by decide +kernel
theorem dX3_personsTouched_1 : decode cX3_personsTouched 1 = .ok (.iload_n 1, 1) := by decide +kernel
theorem dX3_personsTouched_2 : decode cX3_personsTouched 2 = .ok (.iload_n 2, 1) := by decide +kernel
theorem dX3_personsTouched_3 : decode cX3_personsTouched 3 = .ok (.invokevirtual 83, 3) := by decide +kernel
theorem dX3_personsTouched_6 : decode cX3_personsTouched 6 = .ok (.istore_n 3, 1) := by decide +kernel
theorem dX3_personsTouched_7 : decode cX3_personsTouched 7 = .ok (.iconst 0, 1) := by decide +kernel
theorem dX3_personsTouched_8 : decode cX3_personsTouched 8 = .ok (.istore 4, 2) := by decide +kernel
theorem dX3_personsTouched_10 : decode cX3_personsTouched 10 = .ok (.iconst 0, 1) := by decide +kernel
theorem dX3_personsTouched_11 : decode cX3_personsTouched 11 = .ok (.istore 5, 2) := by decide +kernel
theorem dX3_personsTouched_13 : decode cX3_personsTouched 13 = .ok (.iload 5, 2) := by decide +kernel
theorem dX3_personsTouched_15 : decode cX3_personsTouched 15 = .ok (.aload_n 0, 1) := by decide +kernel
theorem dX3_personsTouched_16 : decode cX3_personsTouched 16 = .ok (.getfield 9, 3) := by decide +kernel
theorem dX3_personsTouched_19 : decode cX3_personsTouched 19 = .ok (.getfield 53, 3) := by decide +kernel
theorem dX3_personsTouched_22 : decode cX3_personsTouched 22 = .ok (.if_icmp .ge 58, 3) := by decide +kernel
theorem dX3_personsTouched_25 : decode cX3_personsTouched 25 = .ok (.iload 5, 2) := by decide +kernel
theorem dX3_personsTouched_27 : decode cX3_personsTouched 27 = .ok (.bipush 6, 2) := by decide +kernel
theorem dX3_personsTouched_29 : decode cX3_personsTouched 29 = .ok (.if_icmp .ge 51, 3) := by decide +kernel
theorem dX3_personsTouched_32 : decode cX3_personsTouched 32 = .ok (.aload_n 0, 1) := by decide +kernel
theorem dX3_personsTouched_33 : decode cX3_personsTouched 33 = .ok (.getfield 9, 3) := by decide +kernel
theorem dX3_personsTouched_36 : decode cX3_personsTouched 36 = .ok (.iload_n 1, 1) := by decide +kernel
theorem dX3_personsTouched_37 : decode cX3_personsTouched 37 = .ok (.iload_n 2, 1) := by decide +kernel
theorem dX3_personsTouched_38 : decode cX3_personsTouched 38 = .ok (.aload_n 0, 1) := by decide +kernel
theorem dX3_personsTouched_39 : decode cX3_personsTouched 39 = .ok (.getfield 15, 3) := by decide +kernel
theorem dX3_personsTouched_42 : decode cX3_personsTouched 42 = .ok (.getfield 56, 3) := by decide +kernel
theorem dX3_personsTouched_45 : decode cX3_personsTouched 45 = .ok (.iload 5, 2) := by decide +kernel
theorem dX3_personsTouched_47 : decode cX3_personsTouched 47 = .ok (.iaload, 1) := by decide +kernel
theorem dX3_personsTouched_48 : decode cX3_personsTouched 48 = .ok (.invokevirtual 87, 3) := by decide +kernel
theorem dX3_personsTouched_51 : decode cX3_personsTouched 51 = .ok (.istore 6, 2) := by decide +kernel
theorem dX3_personsTouched_53 : decode cX3_personsTouched 53 = .ok (.iload 6, 2) := by decide +kernel
theorem dX3_personsTouched_55 : decode cX3_personsTouched 55 = .ok (.iconst 1, 1) := by decide +kernel
theorem dX3_personsTouched_56 : decode cX3_personsTouched 56 = .ok (.if_icmp .lt 18, 3) := by decide +kernel
theorem dX3_personsTouched_59 : decode cX3_personsTouched 59 = .ok (.iload 6, 2) := by decide +kernel
theorem dX3_personsTouched_61 : decode cX3_personsTouched 61 = .ok (.iload_n 3, 1) := by decide +kernel
theorem dX3_personsTouched_62 : decode cX3_personsTouched 62 = .ok (.if_icmp .gt 12, 3) := by decide +kernel
theorem dX3_personsTouched_65 : decode cX3_personsTouched 65 = .ok (.iload 4, 2) := by decide +kernel
theorem dX3_personsTouched_67 : decode cX3_personsTouched 67 = .ok (.iconst 1, 1) := by decide +kernel
theorem dX3_personsTouched_68 : decode cX3_personsTouched 68 = .ok (.iload 5, 2) := by decide +kernel
theorem dX3_personsTouched_70 : decode cX3_personsTouched 70 = .ok (.ishl, 1) := by decide +kernel
theorem dX3_personsTouched_71 : decode cX3_personsTouched 71 = .ok (.ior, 1) := by decide +kernel
theorem dX3_personsTouched_72 : decode cX3_personsTouched 72 = .ok (.istore 4, 2) := by decide +kernel
theorem dX3_personsTouched_74 : decode cX3_personsTouched 74 = .ok (.iinc 5 1, 3) := by decide +kernel
theorem dX3_personsTouched_77 : decode cX3_personsTouched 77 = .ok (.goto (-64), 3) := by decide +kernel
theorem dX3_personsTouched_80 : decode cX3_personsTouched 80 = .ok (.iload 4, 2) := by decide +kernel
theorem dX3_personsTouched_82 : decode cX3_personsTouched 82 = .ok (.ireturn, 1) := by decide +kernel
theorem dX3_reach_0 : decode cX3_reach 0 = .ok (.aload_n 0, 1) := by decide +kernel
theorem dX3_reach_1 : decode cX3_reach 1 = .ok (.getfield 9, 3) := by decide +kernel
theorem dX3_reach_4 : decode cX3_reach 4 = .ok (.iload_n 1, 1) := by decide +kernel
theorem dX3_reach_5 : decode cX3_reach 5 = .ok (.iload_n 2, 1) := by decide +kernel
theorem dX3_reach_6 : decode cX3_reach 6 = .ok (.invokevirtual 65, 3) := by decide +kernel
theorem dX3_reach_9 : decode cX3_reach 9 = .ok (.ifCond .ne 5, 3) := by decide +kernel
theorem dX3_reach_12 : decode cX3_reach 12 = .ok (.iconst 0, 1) := by decide +kernel
theorem dX3_reach_13 : decode cX3_reach 13 = .ok (.ireturn, 1) := by decide +kernel
theorem dX3_reach_14 : decode cX3_reach 14 = .ok (.iconst 0, 1) := by decide +kernel
theorem dX3_reach_15 : decode cX3_reach 15 = .ok (.istore_n 3, 1) := by decide +kernel
theorem dX3_reach_16 : decode cX3_reach 16 = .ok (.iconst 1, 1) := by decide +kernel
theorem dX3_reach_17 : decode cX3_reach 17 = .ok (.istore 4, 2) := by decide +kernel
theorem dX3_reach_19 : decode cX3_reach 19 = .ok (.iload 4, 2) := by decide +kernel
theorem dX3_reach_21 : decode cX3_reach 21 = .ok (.bipush 8, 2) := by decide +kernel
theorem dX3_reach_23 : decode cX3_reach 23 = .ok (.if_icmp .ge 85, 3) := by decide +kernel
theorem dX3_reach_26 : decode cX3_reach 26 = .ok (.aload_n 0, 1) := by decide +kernel
theorem dX3_reach_27 : decode cX3_reach 27 = .ok (.getfield 9, 3) := by decide +kernel
theorem dX3_reach_30 : decode cX3_reach 30 = .ok (.aload_n 0, 1) := by decide +kernel
theorem dX3_reach_31 : decode cX3_reach 31 = .ok (.getfield 9, 3) := by decide +kernel
theorem dX3_reach_34 : decode cX3_reach 34 = .ok (.getfield 43, 3) := by decide +kernel
theorem dX3_reach_37 : decode cX3_reach 37 = .ok (.iload_n 1, 1) := by decide +kernel
theorem dX3_reach_38 : decode cX3_reach 38 = .ok (.iaload, 1) := by decide +kernel
theorem dX3_reach_39 : decode cX3_reach 39 = .ok (.aload_n 0, 1) := by decide +kernel
theorem dX3_reach_40 : decode cX3_reach 40 = .ok (.getfield 9, 3) := by decide +kernel
theorem dX3_reach_43 : decode cX3_reach 43 = .ok (.getfield 69, 3) := by decide +kernel
theorem dX3_reach_46 : decode cX3_reach 46 = .ok (.iload_n 2, 1) := by decide +kernel
theorem dX3_reach_47 : decode cX3_reach 47 = .ok (.iaload, 1) := by decide +kernel
theorem dX3_reach_48 : decode cX3_reach 48 = .ok (.iload 4, 2) := by decide +kernel
theorem dX3_reach_50 : decode cX3_reach 50 = .ok (.invokevirtual 72, 3) := by decide +kernel
theorem dX3_reach_53 : decode cX3_reach 53 = .ok (.istore 5, 2) := by decide +kernel
theorem dX3_reach_55 : decode cX3_reach 55 = .ok (.aload_n 0, 1) := by decide +kernel
theorem dX3_reach_56 : decode cX3_reach 56 = .ok (.getfield 9, 3) := by decide +kernel
theorem dX3_reach_59 : decode cX3_reach 59 = .ok (.getfield 47, 3) := by decide +kernel
theorem dX3_reach_62 : decode cX3_reach 62 = .ok (.iload_n 1, 1) := by decide +kernel
theorem dX3_reach_63 : decode cX3_reach 63 = .ok (.iaload, 1) := by decide +kernel
theorem dX3_reach_64 : decode cX3_reach 64 = .ok (.iload 4, 2) := by decide +kernel
theorem dX3_reach_66 : decode cX3_reach 66 = .ok (.aload_n 0, 1) := by decide +kernel
theorem dX3_reach_67 : decode cX3_reach 67 = .ok (.getfield 9, 3) := by decide +kernel
theorem dX3_reach_70 : decode cX3_reach 70 = .ok (.getfield 76, 3) := by decide +kernel
theorem dX3_reach_73 : decode cX3_reach 73 = .ok (.iload_n 2, 1) := by decide +kernel
theorem dX3_reach_74 : decode cX3_reach 74 = .ok (.iaload, 1) := by decide +kernel
theorem dX3_reach_75 : decode cX3_reach 75 = .ok (.imul, 1) := by decide +kernel
theorem dX3_reach_76 : decode cX3_reach 76 = .ok (.isub, 1) := by decide +kernel
theorem dX3_reach_77 : decode cX3_reach 77 = .ok (.istore 6, 2) := by decide +kernel
theorem dX3_reach_79 : decode cX3_reach 79 = .ok (.iload 5, 2) := by decide +kernel
theorem dX3_reach_81 : decode cX3_reach 81 = .ok (.iconst (-1), 1) := by decide +kernel
theorem dX3_reach_82 : decode cX3_reach 82 = .ok (.if_icmp .eq 26, 3) := by decide +kernel
theorem dX3_reach_85 : decode cX3_reach 85 = .ok (.iload 6, 2) := by decide +kernel
theorem dX3_reach_87 : decode cX3_reach 87 = .ok (.aload_n 0, 1) := by decide +kernel
theorem dX3_reach_88 : decode cX3_reach 88 = .ok (.iload 5, 2) := by decide +kernel
theorem dX3_reach_90 : decode cX3_reach 90 = .ok (.invokevirtual 79, 3) := by decide +kernel
theorem dX3_reach_93 : decode cX3_reach 93 = .ok (.if_icmp .gt 6, 3) := by decide +kernel
theorem dX3_reach_96 : decode cX3_reach 96 = .ok (.goto 12, 3) := by decide +kernel
theorem dX3_reach_99 : decode cX3_reach 99 = .ok (.iload 4, 2) := by decide +kernel
theorem dX3_reach_101 : decode cX3_reach 101 = .ok (.istore_n 3, 1) := by decide +kernel
theorem dX3_reach_102 : decode cX3_reach 102 = .ok (.iinc 4 1, 3) := by decide +kernel
theorem dX3_reach_105 : decode cX3_reach 105 = .ok (.goto (-86), 3) := by decide +kernel
theorem dX3_reach_108 : decode cX3_reach 108 = .ok (.iload_n 3, 1) := by decide +kernel
theorem dX3_reach_109 : decode cX3_reach 109 = .ok (.ireturn, 1) := by decide +kernel
theorem dX3_sidesOpen_0 : decode cX3_sidesOpen 0 = .ok (.iconst 0, 1) := by decide +kernel
theorem dX3_sidesOpen_1 : decode cX3_sidesOpen 1 = .ok (.istore_n 2, 1) := by decide +kernel
theorem dX3_sidesOpen_2 : decode cX3_sidesOpen 2 = .ok (.iconst 0, 1) := by decide +kernel
theorem dX3_sidesOpen_3 : decode cX3_sidesOpen 3 = .ok (.istore_n 3, 1) := by decide +kernel
theorem dX3_sidesOpen_4 : decode cX3_sidesOpen 4 = .ok (.iload_n 3, 1) := by decide +kernel
theorem dX3_sidesOpen_5 : decode cX3_sidesOpen 5 = .ok (.iconst 4, 1) := by decide +kernel
theorem dX3_sidesOpen_6 : decode cX3_sidesOpen 6 = .ok (.if_icmp .ge 24, 3) := by decide +kernel
theorem dX3_sidesOpen_9 : decode cX3_sidesOpen 9 = .ok (.aload_n 0, 1) := by decide +kernel
theorem dX3_sidesOpen_10 : decode cX3_sidesOpen 10 = .ok (.iload_n 1, 1) := by decide +kernel
theorem dX3_sidesOpen_11 : decode cX3_sidesOpen 11 = .ok (.iload_n 3, 1) := by decide +kernel
theorem dX3_sidesOpen_12 : decode cX3_sidesOpen 12 = .ok (.invokevirtual 115, 3) := by decide +kernel
theorem dX3_sidesOpen_15 : decode cX3_sidesOpen 15 = .ok (.ifCond .ne 9, 3) := by decide +kernel
theorem dX3_sidesOpen_18 : decode cX3_sidesOpen 18 = .ok (.iload_n 2, 1) := by decide +kernel
theorem dX3_sidesOpen_19 : decode cX3_sidesOpen 19 = .ok (.iconst 1, 1) := by decide +kernel
theorem dX3_sidesOpen_20 : decode cX3_sidesOpen 20 = .ok (.iload_n 3, 1) := by decide +kernel
theorem dX3_sidesOpen_21 : decode cX3_sidesOpen 21 = .ok (.ishl, 1) := by decide +kernel
theorem dX3_sidesOpen_22 : decode cX3_sidesOpen 22 = .ok (.ior, 1) := by decide +kernel
theorem dX3_sidesOpen_23 : decode cX3_sidesOpen 23 = .ok (.istore_n 2, 1) := by decide +kernel
theorem dX3_sidesOpen_24 : decode cX3_sidesOpen 24 = .ok (.iinc 3 1, 3) := by decide +kernel
theorem dX3_sidesOpen_27 : decode cX3_sidesOpen 27 = .ok (.goto (-23), 3) := by decide +kernel
theorem dX3_sidesOpen_30 : decode cX3_sidesOpen 30 = .ok (.iload_n 2, 1) := by decide +kernel
theorem dX3_sidesOpen_31 : decode cX3_sidesOpen 31 = .ok (.ireturn, 1) := by decide +kernel
theorem dX3_spotThatSpares_0 : decode cX3_spotThatSpares 0 = .ok (.iconst (-1), 1) := by decide +kernel
theorem dX3_spotThatSpares_1 : decode cX3_spotThatSpares 1 = .ok (.istore 4, 2) := by decide +kernel
theorem dX3_spotThatSpares_3 : decode cX3_spotThatSpares 3 = .ok (.aload_n 0, 1) := by decide +kernel
theorem dX3_spotThatSpares_4 : decode cX3_spotThatSpares 4 = .ok (.getfield 9, 3) := by decide +kernel
theorem dX3_spotThatSpares_7 : decode cX3_spotThatSpares 7 = .ok (.iload_n 1, 1) := by decide +kernel
theorem dX3_spotThatSpares_8 : decode cX3_spotThatSpares 8 = .ok (.iload_n 2, 1) := by decide +kernel
theorem dX3_spotThatSpares_9 : decode cX3_spotThatSpares 9 = .ok (.invokevirtual 65, 3) := by decide +kernel
theorem dX3_spotThatSpares_12 : decode cX3_spotThatSpares 12 = .ok (.ifCond .ne 6, 3) := by decide +kernel
theorem dX3_spotThatSpares_15 : decode cX3_spotThatSpares 15 = .ok (.iload 4, 2) := by decide +kernel
theorem dX3_spotThatSpares_17 : decode cX3_spotThatSpares 17 = .ok (.ireturn, 1) := by decide +kernel
theorem dX3_spotThatSpares_18 : decode cX3_spotThatSpares 18 = .ok (.bipush 10, 2) := by decide +kernel
theorem dX3_spotThatSpares_20 : decode cX3_spotThatSpares 20 = .ok (.istore 5, 2) := by decide +kernel
theorem dX3_spotThatSpares_22 : decode cX3_spotThatSpares 22 = .ok (.iconst 1, 1) := by decide +kernel
theorem dX3_spotThatSpares_23 : decode cX3_spotThatSpares 23 = .ok (.istore 6, 2) := by decide +kernel
theorem dX3_spotThatSpares_25 : decode cX3_spotThatSpares 25 = .ok (.iload 6, 2) := by decide +kernel
theorem dX3_spotThatSpares_27 : decode cX3_spotThatSpares 27 = .ok (.iload_n 3, 1) := by decide +kernel
theorem dX3_spotThatSpares_28 : decode cX3_spotThatSpares 28 = .ok (.if_icmp .ge 79, 3) := by decide +kernel
theorem dX3_spotThatSpares_31 : decode cX3_spotThatSpares 31 = .ok (.iload 6, 2) := by decide +kernel
theorem dX3_spotThatSpares_33 : decode cX3_spotThatSpares 33 = .ok (.bipush 8, 2) := by decide +kernel
theorem dX3_spotThatSpares_35 : decode cX3_spotThatSpares 35 = .ok (.if_icmp .ge 72, 3) := by decide +kernel
theorem dX3_spotThatSpares_38 : decode cX3_spotThatSpares 38 = .ok (.aload_n 0, 1) := by decide +kernel
theorem dX3_spotThatSpares_39 : decode cX3_spotThatSpares 39 = .ok (.getfield 9, 3) := by decide +kernel
theorem dX3_spotThatSpares_42 : decode cX3_spotThatSpares 42 = .ok (.aload_n 0, 1) := by decide +kernel
theorem dX3_spotThatSpares_43 : decode cX3_spotThatSpares 43 = .ok (.getfield 9, 3) := by decide +kernel
theorem dX3_spotThatSpares_46 : decode cX3_spotThatSpares 46 = .ok (.getfield 43, 3) := by decide +kernel
theorem dX3_spotThatSpares_49 : decode cX3_spotThatSpares 49 = .ok (.iload_n 1, 1) := by decide +kernel
theorem dX3_spotThatSpares_50 : decode cX3_spotThatSpares 50 = .ok (.iaload, 1) := by decide +kernel
theorem dX3_spotThatSpares_51 : decode cX3_spotThatSpares 51 = .ok (.aload_n 0, 1) := by decide +kernel
theorem dX3_spotThatSpares_52 : decode cX3_spotThatSpares 52 = .ok (.getfield 9, 3) := by decide +kernel
theorem dX3_spotThatSpares_55 : decode cX3_spotThatSpares 55 = .ok (.getfield 69, 3) := by decide +kernel
theorem dX3_spotThatSpares_58 : decode cX3_spotThatSpares 58 = .ok (.iload_n 2, 1) := by decide +kernel
theorem dX3_spotThatSpares_59 : decode cX3_spotThatSpares 59 = .ok (.iaload, 1) := by decide +kernel
theorem dX3_spotThatSpares_60 : decode cX3_spotThatSpares 60 = .ok (.iload 6, 2) := by decide +kernel
theorem dX3_spotThatSpares_62 : decode cX3_spotThatSpares 62 = .ok (.invokevirtual 72, 3) := by decide +kernel
theorem dX3_spotThatSpares_65 : decode cX3_spotThatSpares 65 = .ok (.istore 7, 2) := by decide +kernel
theorem dX3_spotThatSpares_67 : decode cX3_spotThatSpares 67 = .ok (.aload_n 0, 1) := by decide +kernel
theorem dX3_spotThatSpares_68 : decode cX3_spotThatSpares 68 = .ok (.iload_n 1, 1) := by decide +kernel
theorem dX3_spotThatSpares_69 : decode cX3_spotThatSpares 69 = .ok (.iload_n 2, 1) := by decide +kernel
theorem dX3_spotThatSpares_70 : decode cX3_spotThatSpares 70 = .ok (.iload 7, 2) := by decide +kernel
theorem dX3_spotThatSpares_72 : decode cX3_spotThatSpares 72 = .ok (.invokevirtual 102, 3) := by decide +kernel
theorem dX3_spotThatSpares_75 : decode cX3_spotThatSpares 75 = .ok (.istore 8, 2) := by decide +kernel
theorem dX3_spotThatSpares_77 : decode cX3_spotThatSpares 77 = .ok (.iload 8, 2) := by decide +kernel
theorem dX3_spotThatSpares_79 : decode cX3_spotThatSpares 79 = .ok (.iload 5, 2) := by decide +kernel
theorem dX3_spotThatSpares_81 : decode cX3_spotThatSpares 81 = .ok (.if_icmp .ge 20, 3) := by decide +kernel
theorem dX3_spotThatSpares_84 : decode cX3_spotThatSpares 84 = .ok (.aload_n 0, 1) := by decide +kernel
theorem dX3_spotThatSpares_85 : decode cX3_spotThatSpares 85 = .ok (.iload 7, 2) := by decide +kernel
theorem dX3_spotThatSpares_87 : decode cX3_spotThatSpares 87 = .ok (.invokevirtual 105, 3) := by decide +kernel
theorem dX3_spotThatSpares_90 : decode cX3_spotThatSpares 90 = .ok (.ifCond .ne 11, 3) := by decide +kernel
theorem dX3_spotThatSpares_93 : decode cX3_spotThatSpares 93 = .ok (.iload 8, 2) := by decide +kernel
theorem dX3_spotThatSpares_95 : decode cX3_spotThatSpares 95 = .ok (.istore 5, 2) := by decide +kernel
theorem dX3_spotThatSpares_97 : decode cX3_spotThatSpares 97 = .ok (.iload 7, 2) := by decide +kernel
theorem dX3_spotThatSpares_99 : decode cX3_spotThatSpares 99 = .ok (.istore 4, 2) := by decide +kernel
theorem dX3_spotThatSpares_101 : decode cX3_spotThatSpares 101 = .ok (.iinc 6 1, 3) := by decide +kernel
theorem dX3_spotThatSpares_104 : decode cX3_spotThatSpares 104 = .ok (.goto (-79), 3) := by decide +kernel
theorem dX3_spotThatSpares_107 : decode cX3_spotThatSpares 107 = .ok (.iload 4, 2) := by decide +kernel
theorem dX3_spotThatSpares_109 : decode cX3_spotThatSpares 109 = .ok (.ireturn, 1) := by decide +kernel
theorem dX3_stonesToStop_0 : decode cX3_stonesToStop 0 = .ok (.aload_n 0, 1) := by decide +kernel
theorem dX3_stonesToStop_1 : decode cX3_stonesToStop 1 = .ok (.getfield 9, 3) := by decide +kernel
theorem dX3_stonesToStop_4 : decode cX3_stonesToStop 4 = .ok (.iload_n 1, 1) := by decide +kernel
theorem dX3_stonesToStop_5 : decode cX3_stonesToStop 5 = .ok (.iload_n 2, 1) := by decide +kernel
theorem dX3_stonesToStop_6 : decode cX3_stonesToStop 6 = .ok (.invokevirtual 65, 3) := by decide +kernel
theorem dX3_stonesToStop_9 : decode cX3_stonesToStop 9 = .ok (.ifCond .ne 5, 3) := by decide +kernel
theorem dX3_stonesToStop_12 : decode cX3_stonesToStop 12 = .ok (.iconst 0, 1) := by decide +kernel
theorem dX3_stonesToStop_13 : decode cX3_stonesToStop 13 = .ok (.ireturn, 1) := by decide +kernel
theorem dX3_stonesToStop_14 : decode cX3_stonesToStop 14 = .ok (.aload_n 0, 1) := by decide +kernel
theorem dX3_stonesToStop_15 : decode cX3_stonesToStop 15 = .ok (.getfield 9, 3) := by decide +kernel
theorem dX3_stonesToStop_18 : decode cX3_stonesToStop 18 = .ok (.getfield 47, 3) := by decide +kernel
theorem dX3_stonesToStop_21 : decode cX3_stonesToStop 21 = .ok (.iload_n 1, 1) := by decide +kernel
theorem dX3_stonesToStop_22 : decode cX3_stonesToStop 22 = .ok (.iaload, 1) := by decide +kernel
theorem dX3_stonesToStop_23 : decode cX3_stonesToStop 23 = .ok (.aload_n 0, 1) := by decide +kernel
theorem dX3_stonesToStop_24 : decode cX3_stonesToStop 24 = .ok (.getfield 9, 3) := by decide +kernel
theorem dX3_stonesToStop_27 : decode cX3_stonesToStop 27 = .ok (.iload_n 1, 1) := by decide +kernel
theorem dX3_stonesToStop_28 : decode cX3_stonesToStop 28 = .ok (.iload_n 2, 1) := by decide +kernel
theorem dX3_stonesToStop_29 : decode cX3_stonesToStop 29 = .ok (.iload_n 3, 1) := by decide +kernel
theorem dX3_stonesToStop_30 : decode cX3_stonesToStop 30 = .ok (.invokevirtual 87, 3) := by decide +kernel
theorem dX3_stonesToStop_33 : decode cX3_stonesToStop 33 = .ok (.aload_n 0, 1) := by decide +kernel
theorem dX3_stonesToStop_34 : decode cX3_stonesToStop 34 = .ok (.getfield 9, 3) := by decide +kernel
theorem dX3_stonesToStop_37 : decode cX3_stonesToStop 37 = .ok (.getfield 76, 3) := by decide +kernel
theorem dX3_stonesToStop_40 : decode cX3_stonesToStop 40 = .ok (.iload_n 2, 1) := by decide +kernel
theorem dX3_stonesToStop_41 : decode cX3_stonesToStop 41 = .ok (.iaload, 1) := by decide +kernel
theorem dX3_stonesToStop_42 : decode cX3_stonesToStop 42 = .ok (.imul, 1) := by decide +kernel
theorem dX3_stonesToStop_43 : decode cX3_stonesToStop 43 = .ok (.isub, 1) := by decide +kernel
theorem dX3_stonesToStop_44 : decode cX3_stonesToStop 44 = .ok (.istore 4, 2) := by decide +kernel
theorem dX3_stonesToStop_46 : decode cX3_stonesToStop 46 = .ok (.iload 4, 2) := by decide +kernel
theorem dX3_stonesToStop_48 : decode cX3_stonesToStop 48 = .ok (.aload_n 0, 1) := by decide +kernel
theorem dX3_stonesToStop_49 : decode cX3_stonesToStop 49 = .ok (.iload_n 3, 1) := by decide +kernel
theorem dX3_stonesToStop_50 : decode cX3_stonesToStop 50 = .ok (.invokevirtual 79, 3) := by decide +kernel
theorem dX3_stonesToStop_53 : decode cX3_stonesToStop 53 = .ok (.isub, 1) := by decide +kernel
theorem dX3_stonesToStop_54 : decode cX3_stonesToStop 54 = .ok (.ireturn, 1) := by decide +kernel
theorem dX3_tableHour_0 : decode cX3_tableHour 0 = .ok (.aload_n 0, 1) := by decide +kernel
theorem dX3_tableHour_1 : decode cX3_tableHour 1 = .ok (.getfield 9, 3) := by decide +kernel
theorem dX3_tableHour_4 : decode cX3_tableHour 4 = .ok (.getfield 59, 3) := by decide +kernel
theorem dX3_tableHour_7 : decode cX3_tableHour 7 = .ok (.ifCond .le 21, 3) := by decide +kernel
theorem dX3_tableHour_10 : decode cX3_tableHour 10 = .ok (.aload_n 0, 1) := by decide +kernel
theorem dX3_tableHour_11 : decode cX3_tableHour 11 = .ok (.getfield 15, 3) := by decide +kernel
theorem dX3_tableHour_14 : decode cX3_tableHour 14 = .ok (.getfield 62, 3) := by decide +kernel
theorem dX3_tableHour_17 : decode cX3_tableHour 17 = .ok (.aload_n 0, 1) := by decide +kernel
theorem dX3_tableHour_18 : decode cX3_tableHour 18 = .ok (.getfield 9, 3) := by decide +kernel
theorem dX3_tableHour_21 : decode cX3_tableHour 21 = .ok (.getfield 59, 3) := by decide +kernel
theorem dX3_tableHour_24 : decode cX3_tableHour 24 = .ok (.irem, 1) := by decide +kernel
theorem dX3_tableHour_25 : decode cX3_tableHour 25 = .ok (.goto 4, 3) := by decide +kernel
theorem dX3_tableHour_28 : decode cX3_tableHour 28 = .ok (.iconst (-1), 1) := by decide +kernel
theorem dX3_tableHour_29 : decode cX3_tableHour 29 = .ok (.ireturn, 1) := by decide +kernel
theorem dX3_tearStone_0 : decode cX3_tearStone 0 = .ok (.iload_n 1, 1) := by decide +kernel
theorem dX3_tearStone_1 : decode cX3_tearStone 1 = .ok (.ifCond .lt 22, 3) := by decide +kernel
theorem dX3_tearStone_4 : decode cX3_tearStone 4 = .ok (.iload_n 1, 1) := by decide +kernel
theorem dX3_tearStone_5 : decode cX3_tearStone 5 = .ok (.bipush 64, 2) := by decide +kernel
theorem dX3_tearStone_7 : decode cX3_tearStone 7 = .ok (.if_icmp .ge 16, 3) := by decide +kernel
theorem dX3_tearStone_10 : decode cX3_tearStone 10 = .ok (.aload_n 0, 1) := by decide +kernel
theorem dX3_tearStone_11 : decode cX3_tearStone 11 = .ok (.getfield 15, 3) := by decide +kernel
theorem dX3_tearStone_14 : decode cX3_tearStone 14 = .ok (.getfield 50, 3) := by decide +kernel
theorem dX3_tearStone_17 : decode cX3_tearStone 17 = .ok (.iload_n 1, 1) := by decide +kernel
theorem dX3_tearStone_18 : decode cX3_tearStone 18 = .ok (.dup2, 1) := by decide +kernel
theorem dX3_tearStone_19 : decode cX3_tearStone 19 = .ok (.iaload, 1) := by decide +kernel
theorem dX3_tearStone_20 : decode cX3_tearStone 20 = .ok (.iconst 1, 1) := by decide +kernel
theorem dX3_tearStone_21 : decode cX3_tearStone 21 = .ok (.isub, 1) := by decide +kernel
theorem dX3_tearStone_22 : decode cX3_tearStone 22 = .ok (.iastore, 1) := by decide +kernel
theorem dX3_tearStone_23 : decode cX3_tearStone 23 = .ok (.return_, 1) := by decide +kernel
theorem dX3_whyNotBury_0 : decode cX3_whyNotBury 0 = .ok (.aload_n 0, 1) := by decide +kernel
theorem dX3_whyNotBury_1 : decode cX3_whyNotBury 1 = .ok (.getfield 15, 3) := by decide +kernel
theorem dX3_whyNotBury_4 : decode cX3_whyNotBury 4 = .ok (.iload_n 1, 1) := by decide +kernel
theorem dX3_whyNotBury_5 : decode cX3_whyNotBury 5 = .ok (.invokevirtual 127, 3) := by decide +kernel
theorem dX3_whyNotBury_8 : decode cX3_whyNotBury 8 = .ok (.ifCond .eq 7, 3) := by decide +kernel
theorem dX3_whyNotBury_11 : decode cX3_whyNotBury 11 = .ok (.iconst 1, 1) := by decide +kernel
theorem dX3_whyNotBury_12 : decode cX3_whyNotBury 12 = .ok (.goto 4, 3) := by decide +kernel
theorem dX3_whyNotBury_15 : decode cX3_whyNotBury 15 = .ok (.iconst 0, 1) := by decide +kernel
theorem dX3_whyNotBury_16 : decode cX3_whyNotBury 16 = .ok (.ireturn, 1) := by decide +kernel
theorem dX3_whyNotLay_0 : decode cX3_whyNotLay 0 = .ok (.aload_n 0, 1) := by decide +kernel
theorem dX3_whyNotLay_1 : decode cX3_whyNotLay 1 = .ok (.getfield 9, 3) := by decide +kernel
theorem dX3_whyNotLay_4 : decode cX3_whyNotLay 4 = .ok (.iload_n 1, 1) := by decide +kernel
theorem dX3_whyNotLay_5 : decode cX3_whyNotLay 5 = .ok (.invokevirtual 118, 3) := by decide +kernel
theorem dX3_whyNotLay_8 : decode cX3_whyNotLay 8 = .ok (.iconst (-1), 1) := by decide +kernel
theorem dX3_whyNotLay_9 : decode cX3_whyNotLay 9 = .ok (.if_icmp .eq 5, 3) := by decide +kernel
theorem dX3_whyNotLay_12 : decode cX3_whyNotLay 12 = .ok (.iconst 1, 1) := by decide +kernel
theorem dX3_whyNotLay_13 : decode cX3_whyNotLay 13 = .ok (.ireturn, 1) := by decide +kernel
theorem dX3_whyNotLay_14 : decode cX3_whyNotLay 14 = .ok (.aload_n 0, 1) := by decide +kernel
theorem dX3_whyNotLay_15 : decode cX3_whyNotLay 15 = .ok (.iload_n 1, 1) := by decide +kernel
theorem dX3_whyNotLay_16 : decode cX3_whyNotLay 16 = .ok (.invokevirtual 121, 3) := by decide +kernel
theorem dX3_whyNotLay_19 : decode cX3_whyNotLay 19 = .ok (.ifCond .eq 5, 3) := by decide +kernel
theorem dX3_whyNotLay_22 : decode cX3_whyNotLay 22 = .ok (.iconst 2, 1) := by decide +kernel
theorem dX3_whyNotLay_23 : decode cX3_whyNotLay 23 = .ok (.ireturn, 1) := by decide +kernel
theorem dX3_whyNotLay_24 : decode cX3_whyNotLay 24 = .ok (.aload_n 0, 1) := by decide +kernel
theorem dX3_whyNotLay_25 : decode cX3_whyNotLay 25 = .ok (.iload_n 1, 1) := by decide +kernel
theorem dX3_whyNotLay_26 : decode cX3_whyNotLay 26 = .ok (.invokevirtual 79, 3) := by decide +kernel
theorem dX3_whyNotLay_29 : decode cX3_whyNotLay 29 = .ok (.bipush 9, 2) := by decide +kernel
theorem dX3_whyNotLay_31 : decode cX3_whyNotLay 31 = .ok (.if_icmp .lt 7, 3) := by decide +kernel
theorem dX3_whyNotLay_34 : decode cX3_whyNotLay 34 = .ok (.iconst 3, 1) := by decide +kernel
theorem dX3_whyNotLay_35 : decode cX3_whyNotLay 35 = .ok (.goto 4, 3) := by decide +kernel
theorem dX3_whyNotLay_38 : decode cX3_whyNotLay 38 = .ok (.iconst 0, 1) := by decide +kernel
theorem dX3_whyNotLay_39 : decode cX3_whyNotLay 39 = .ok (.ireturn, 1) := by decide +kernel
theorem dX3_whyNotStep_0 : decode cX3_whyNotStep 0 = .ok (.aload_n 0, 1) := by decide +kernel
theorem dX3_whyNotStep_1 : decode cX3_whyNotStep 1 = .ok (.getfield 9, 3) := by decide +kernel
theorem dX3_whyNotStep_4 : decode cX3_whyNotStep 4 = .ok (.iload_n 1, 1) := by decide +kernel
theorem dX3_whyNotStep_5 : decode cX3_whyNotStep 5 = .ok (.invokevirtual 108, 3) := by decide +kernel
theorem dX3_whyNotStep_8 : decode cX3_whyNotStep 8 = .ok (.ifCond .eq 24, 3) := by decide +kernel
theorem dX3_whyNotStep_11 : decode cX3_whyNotStep 11 = .ok (.aload_n 0, 1) := by decide +kernel
theorem dX3_whyNotStep_12 : decode cX3_whyNotStep 12 = .ok (.getfield 9, 3) := by decide +kernel
theorem dX3_whyNotStep_15 : decode cX3_whyNotStep 15 = .ok (.aload_n 0, 1) := by decide +kernel
theorem dX3_whyNotStep_16 : decode cX3_whyNotStep 16 = .ok (.getfield 15, 3) := by decide +kernel
theorem dX3_whyNotStep_19 : decode cX3_whyNotStep 19 = .ok (.getfield 56, 3) := by decide +kernel
theorem dX3_whyNotStep_22 : decode cX3_whyNotStep 22 = .ok (.iload_n 1, 1) := by decide +kernel
theorem dX3_whyNotStep_23 : decode cX3_whyNotStep 23 = .ok (.iaload, 1) := by decide +kernel
theorem dX3_whyNotStep_24 : decode cX3_whyNotStep 24 = .ok (.iload_n 2, 1) := by decide +kernel
theorem dX3_whyNotStep_25 : decode cX3_whyNotStep 25 = .ok (.iconst 1, 1) := by decide +kernel
theorem dX3_whyNotStep_26 : decode cX3_whyNotStep 26 = .ok (.invokevirtual 72, 3) := by decide +kernel
theorem dX3_whyNotStep_29 : decode cX3_whyNotStep 29 = .ok (.goto 4, 3) := by decide +kernel
theorem dX3_whyNotStep_32 : decode cX3_whyNotStep 32 = .ok (.iconst (-1), 1) := by decide +kernel
theorem dX3_whyNotStep_33 : decode cX3_whyNotStep 33 = .ok (.istore_n 3, 1) := by decide +kernel
theorem dX3_whyNotStep_34 : decode cX3_whyNotStep 34 = .ok (.iload_n 3, 1) := by decide +kernel
theorem dX3_whyNotStep_35 : decode cX3_whyNotStep 35 = .ok (.iconst (-1), 1) := by decide +kernel
theorem dX3_whyNotStep_36 : decode cX3_whyNotStep 36 = .ok (.if_icmp .ne 5, 3) := by decide +kernel
theorem dX3_whyNotStep_39 : decode cX3_whyNotStep 39 = .ok (.iconst 1, 1) := by decide +kernel
theorem dX3_whyNotStep_40 : decode cX3_whyNotStep 40 = .ok (.ireturn, 1) := by decide +kernel
theorem dX3_whyNotStep_41 : decode cX3_whyNotStep 41 = .ok (.aload_n 0, 1) := by decide +kernel
theorem dX3_whyNotStep_42 : decode cX3_whyNotStep 42 = .ok (.iload_n 3, 1) := by decide +kernel
theorem dX3_whyNotStep_43 : decode cX3_whyNotStep 43 = .ok (.invokevirtual 79, 3) := by decide +kernel
theorem dX3_whyNotStep_46 : decode cX3_whyNotStep 46 = .ok (.ifCond .le 7, 3) := by decide +kernel
theorem dX3_whyNotStep_49 : decode cX3_whyNotStep 49 = .ok (.iconst 2, 1) := by decide +kernel
theorem dX3_whyNotStep_50 : decode cX3_whyNotStep 50 = .ok (.goto 4, 3) := by decide +kernel
theorem dX3_whyNotStep_53 : decode cX3_whyNotStep 53 = .ok (.iconst 0, 1) := by decide +kernel
theorem dX3_whyNotStep_54 : decode cX3_whyNotStep 54 = .ok (.ireturn, 1) := by decide +kernel
theorem dX3_whyNotTear_0 : decode cX3_whyNotTear 0 = .ok (.iload_n 1, 1) := by decide +kernel
theorem dX3_whyNotTear_1 : decode cX3_whyNotTear 1 = .ok (.ifCond .lt 25, 3) := by decide +kernel
theorem dX3_whyNotTear_4 : decode cX3_whyNotTear 4 = .ok (.iload_n 1, 1) := by decide +kernel
theorem dX3_whyNotTear_5 : decode cX3_whyNotTear 5 = .ok (.bipush 64, 2) := by decide +kernel
theorem dX3_whyNotTear_7 : decode cX3_whyNotTear 7 = .ok (.if_icmp .ge 19, 3) := by decide +kernel
theorem dX3_whyNotTear_10 : decode cX3_whyNotTear 10 = .ok (.aload_n 0, 1) := by decide +kernel
theorem dX3_whyNotTear_11 : decode cX3_whyNotTear 11 = .ok (.getfield 15, 3) := by decide +kernel
theorem dX3_whyNotTear_14 : decode cX3_whyNotTear 14 = .ok (.getfield 50, 3) := by decide +kernel
theorem dX3_whyNotTear_17 : decode cX3_whyNotTear 17 = .ok (.iload_n 1, 1) := by decide +kernel
theorem dX3_whyNotTear_18 : decode cX3_whyNotTear 18 = .ok (.iaload, 1) := by decide +kernel
theorem dX3_whyNotTear_19 : decode cX3_whyNotTear 19 = .ok (.ifCond .le 7, 3) := by decide +kernel
theorem dX3_whyNotTear_22 : decode cX3_whyNotTear 22 = .ok (.iconst 0, 1) := by decide +kernel
theorem dX3_whyNotTear_23 : decode cX3_whyNotTear 23 = .ok (.goto 4, 3) := by decide +kernel
theorem dX3_whyNotTear_26 : decode cX3_whyNotTear 26 = .ok (.iconst 1, 1) := by decide +kernel
theorem dX3_whyNotTear_27 : decode cX3_whyNotTear 27 = .ok (.ireturn, 1) := by decide +kernel
theorem dX4_readGround_0 : decode cX4_readGround 0 = .ok (.aload_n 0, 1) := by decide +kernel
theorem dX4_readGround_1 : decode cX4_readGround 1 = .ok (.getfield 37, 3) := by decide +kernel
theorem dX4_readGround_4 : decode cX4_readGround 4 = .ok (.ifCond .ne 10, 3) := by decide +kernel
theorem dX4_readGround_7 : decode cX4_readGround 7 = .ok (.aload_n 0, 1) := by decide +kernel
theorem dX4_readGround_8 : decode cX4_readGround 8 = .ok (.getfield 41, 3) := by decide +kernel
theorem dX4_readGround_11 : decode cX4_readGround 11 = .ok (.ifCond .eq 12, 3) := by decide +kernel
theorem dX4_readGround_14 : decode cX4_readGround 14 = .ok (.aload_n 0, 1) := by decide +kernel
theorem dX4_readGround_15 : decode cX4_readGround 15 = .ok (.getfield 48, 3) := by decide +kernel
theorem dX4_readGround_18 : decode cX4_readGround 18 = .ok (.iconst 3, 1) := by decide +kernel
theorem dX4_readGround_19 : decode cX4_readGround 19 = .ok (.invokevirtual 94, 3) := by decide +kernel
theorem dX4_readGround_22 : decode cX4_readGround 22 = .ok (.ireturn, 1) := by decide +kernel
theorem dX4_readGround_23 : decode cX4_readGround 23 = .ok (.aload_n 0, 1) := by decide +kernel
theorem dX4_readGround_24 : decode cX4_readGround 24 = .ok (.iconst 1, 1) := by decide +kernel
theorem dX4_readGround_25 : decode cX4_readGround 25 = .ok (.putfield 37, 3) := by decide +kernel
theorem dX4_readGround_28 : decode cX4_readGround 28 = .ok (.aload_n 0, 1) := by decide +kernel
theorem dX4_readGround_29 : decode cX4_readGround 29 = .ok (.getfield 48, 3) := by decide +kernel
theorem dX4_readGround_32 : decode cX4_readGround 32 = .ok (.iconst 2, 1) := by decide +kernel
theorem dX4_readGround_33 : decode cX4_readGround 33 = .ok (.bipush 8, 2) := by decide +kernel
theorem dX4_readGround_35 : decode cX4_readGround 35 = .ok (.invokevirtual 98, 3) := by decide +kernel
theorem dX4_readGround_38 : decode cX4_readGround 38 = .ok (.ifCond .ne 5, 3) := by decide +kernel
theorem dX4_readGround_41 : decode cX4_readGround 41 = .ok (.iconst 0, 1) := by decide +kernel
theorem dX4_readGround_42 : decode cX4_readGround 42 = .ok (.ireturn, 1) := by decide +kernel
theorem dX4_readGround_43 : decode cX4_readGround 43 = .ok (.aload_n 0, 1) := by decide +kernel
theorem dX4_readGround_44 : decode cX4_readGround 44 = .ok (.getfield 12, 3) := by decide +kernel
theorem dX4_readGround_47 : decode cX4_readGround 47 = .ok (.aload_n 0, 1) := by decide +kernel
theorem dX4_readGround_48 : decode cX4_readGround 48 = .ok (.getfield 48, 3) := by decide +kernel
theorem dX4_readGround_51 : decode cX4_readGround 51 = .ok (.getfield 102, 3) := by decide +kernel
theorem dX4_readGround_54 : decode cX4_readGround 54 = .ok (.l2i, 1) := by decide +kernel
theorem dX4_readGround_55 : decode cX4_readGround 55 = .ok (.putfield 106, 3) := by decide +kernel
theorem dX4_readGround_58 : decode cX4_readGround 58 = .ok (.aload_n 0, 1) := by decide +kernel
theorem dX4_readGround_59 : decode cX4_readGround 59 = .ok (.getfield 48, 3) := by decide +kernel
theorem dX4_readGround_62 : decode cX4_readGround 62 = .ok (.iconst 2, 1) := by decide +kernel
theorem dX4_readGround_63 : decode cX4_readGround 63 = .ok (.bipush 8, 2) := by decide +kernel
theorem dX4_readGround_65 : decode cX4_readGround 65 = .ok (.invokevirtual 98, 3) := by decide +kernel
theorem dX4_readGround_68 : decode cX4_readGround 68 = .ok (.ifCond .ne 5, 3) := by decide +kernel
theorem dX4_readGround_71 : decode cX4_readGround 71 = .ok (.iconst 0, 1) := by decide +kernel
theorem dX4_readGround_72 : decode cX4_readGround 72 = .ok (.ireturn, 1) := by decide +kernel
theorem dX4_readGround_73 : decode cX4_readGround 73 = .ok (.aload_n 0, 1) := by decide +kernel
theorem dX4_readGround_74 : decode cX4_readGround 74 = .ok (.getfield 12, 3) := by decide +kernel
theorem dX4_readGround_77 : decode cX4_readGround 77 = .ok (.aload_n 0, 1) := by decide +kernel
theorem dX4_readGround_78 : decode cX4_readGround 78 = .ok (.getfield 48, 3) := by decide +kernel
theorem dX4_readGround_81 : decode cX4_readGround 81 = .ok (.getfield 102, 3) := by decide +kernel
theorem dX4_readGround_84 : decode cX4_readGround 84 = .ok (.l2i, 1) := by decide +kernel
theorem dX4_readGround_85 : decode cX4_readGround 85 = .ok (.putfield 109, 3) := by decide +kernel
theorem dX4_readGround_88 : decode cX4_readGround 88 = .ok (.iconst 1, 1) := by decide +kernel
theorem dX4_readGround_89 : decode cX4_readGround 89 = .ok (.ireturn, 1) := by decide +kernel
theorem dX4_readHouse_0 : decode cX4_readHouse 0 = .ok (.aload_n 0, 1) := by decide +kernel
theorem dX4_readHouse_1 : decode cX4_readHouse 1 = .ok (.getfield 12, 3) := by decide +kernel
theorem dX4_readHouse_4 : decode cX4_readHouse 4 = .ok (.getfield 120, 3) := by decide +kernel
theorem dX4_readHouse_7 : decode cX4_readHouse 7 = .ok (.istore_n 1, 1) := by decide +kernel
theorem dX4_readHouse_8 : decode cX4_readHouse 8 = .ok (.iload_n 1, 1) := by decide +kernel
theorem dX4_readHouse_9 : decode cX4_readHouse 9 = .ok (.iconst 5, 1) := by decide +kernel
theorem dX4_readHouse_10 : decode cX4_readHouse 10 = .ok (.if_icmp .lt 12, 3) := by decide +kernel
theorem dX4_readHouse_13 : decode cX4_readHouse 13 = .ok (.aload_n 0, 1) := by decide +kernel
theorem dX4_readHouse_14 : decode cX4_readHouse 14 = .ok (.getfield 48, 3) := by decide +kernel
theorem dX4_readHouse_17 : decode cX4_readHouse 17 = .ok (.iconst 4, 1) := by decide +kernel
theorem dX4_readHouse_18 : decode cX4_readHouse 18 = .ok (.invokevirtual 94, 3) := by decide +kernel
theorem dX4_readHouse_21 : decode cX4_readHouse 21 = .ok (.ireturn, 1) := by decide +kernel
theorem dX4_readHouse_22 : decode cX4_readHouse 22 = .ok (.aload_n 0, 1) := by decide +kernel
theorem dX4_readHouse_23 : decode cX4_readHouse 23 = .ok (.invokevirtual 123, 3) := by decide +kernel
theorem dX4_readHouse_26 : decode cX4_readHouse 26 = .ok (.ifCond .ne 5, 3) := by decide +kernel
theorem dX4_readHouse_29 : decode cX4_readHouse 29 = .ok (.iconst 0, 1) := by decide +kernel
theorem dX4_readHouse_30 : decode cX4_readHouse 30 = .ok (.ireturn, 1) := by decide +kernel
theorem dX4_readHouse_31 : decode cX4_readHouse 31 = .ok (.aload_n 0, 1) := by decide +kernel
theorem dX4_readHouse_32 : decode cX4_readHouse 32 = .ok (.getfield 12, 3) := by decide +kernel
theorem dX4_readHouse_35 : decode cX4_readHouse 35 = .ok (.getfield 126, 3) := by decide +kernel
theorem dX4_readHouse_38 : decode cX4_readHouse 38 = .ok (.iload_n 1, 1) := by decide +kernel
theorem dX4_readHouse_39 : decode cX4_readHouse 39 = .ok (.aload_n 0, 1) := by decide +kernel
theorem dX4_readHouse_40 : decode cX4_readHouse 40 = .ok (.getfield 48, 3) := by decide +kernel
theorem dX4_readHouse_43 : decode cX4_readHouse 43 = .ok (.getfield 102, 3) := by decide +kernel
theorem dX4_readHouse_46 : decode cX4_readHouse 46 = .ok (.lastore, 1) := by decide +kernel
theorem dX4_readHouse_47 : decode cX4_readHouse 47 = .ok (.aload_n 0, 1) := by decide +kernel
theorem dX4_readHouse_48 : decode cX4_readHouse 48 = .ok (.iconst 0, 1) := by decide +kernel
theorem dX4_readHouse_49 : decode cX4_readHouse 49 = .ok (.invokevirtual 112, 3) := by decide +kernel
theorem dX4_readHouse_52 : decode cX4_readHouse 52 = .ok (.ifCond .eq 16, 3) := by decide +kernel
theorem dX4_readHouse_55 : decode cX4_readHouse 55 = .ok (.aload_n 0, 1) := by decide +kernel
theorem dX4_readHouse_56 : decode cX4_readHouse 56 = .ok (.getfield 48, 3) := by decide +kernel
theorem dX4_readHouse_59 : decode cX4_readHouse 59 = .ok (.iconst 1, 1) := by decide +kernel
theorem dX4_readHouse_60 : decode cX4_readHouse 60 = .ok (.bipush 9, 2) := by decide +kernel
theorem dX4_readHouse_62 : decode cX4_readHouse 62 = .ok (.invokevirtual 98, 3) := by decide +kernel
theorem dX4_readHouse_65 : decode cX4_readHouse 65 = .ok (.ifCond .ne 5, 3) := by decide +kernel
theorem dX4_readHouse_68 : decode cX4_readHouse 68 = .ok (.iconst 0, 1) := by decide +kernel
theorem dX4_readHouse_69 : decode cX4_readHouse 69 = .ok (.ireturn, 1) := by decide +kernel
theorem dX4_readHouse_70 : decode cX4_readHouse 70 = .ok (.aload_n 0, 1) := by decide +kernel
theorem dX4_readHouse_71 : decode cX4_readHouse 71 = .ok (.getfield 12, 3) := by decide +kernel
theorem dX4_readHouse_74 : decode cX4_readHouse 74 = .ok (.getfield 130, 3) := by decide +kernel
theorem dX4_readHouse_77 : decode cX4_readHouse 77 = .ok (.iload_n 1, 1) := by decide +kernel
theorem dX4_readHouse_78 : decode cX4_readHouse 78 = .ok (.aload_n 0, 1) := by decide +kernel
theorem dX4_readHouse_79 : decode cX4_readHouse 79 = .ok (.getfield 44, 3) := by decide +kernel
theorem dX4_readHouse_82 : decode cX4_readHouse 82 = .ok (.iastore, 1) := by decide +kernel
theorem dX4_readHouse_83 : decode cX4_readHouse 83 = .ok (.aload_n 0, 1) := by decide +kernel
theorem dX4_readHouse_84 : decode cX4_readHouse 84 = .ok (.getfield 12, 3) := by decide +kernel
theorem dX4_readHouse_87 : decode cX4_readHouse 87 = .ok (.getfield 133, 3) := by decide +kernel
theorem dX4_readHouse_90 : decode cX4_readHouse 90 = .ok (.iload_n 1, 1) := by decide +kernel
theorem dX4_readHouse_91 : decode cX4_readHouse 91 = .ok (.aload_n 0, 1) := by decide +kernel
theorem dX4_readHouse_92 : decode cX4_readHouse 92 = .ok (.getfield 48, 3) := by decide +kernel
theorem dX4_readHouse_95 : decode cX4_readHouse 95 = .ok (.getfield 102, 3) := by decide +kernel
theorem dX4_readHouse_98 : decode cX4_readHouse 98 = .ok (.l2i, 1) := by decide +kernel
theorem dX4_readHouse_99 : decode cX4_readHouse 99 = .ok (.iastore, 1) := by decide +kernel
theorem dX4_readHouse_100 : decode cX4_readHouse 100 = .ok (.aload_n 0, 1) := by decide +kernel
theorem dX4_readHouse_101 : decode cX4_readHouse 101 = .ok (.getfield 48, 3) := by decide +kernel
theorem dX4_readHouse_104 : decode cX4_readHouse 104 = .ok (.iconst 0, 1) := by decide +kernel
theorem dX4_readHouse_105 : decode cX4_readHouse 105 = .ok (.bipush 99, 2) := by decide +kernel
theorem dX4_readHouse_107 : decode cX4_readHouse 107 = .ok (.invokevirtual 98, 3) := by decide +kernel
theorem dX4_readHouse_110 : decode cX4_readHouse 110 = .ok (.ifCond .ne 5, 3) := by decide +kernel
theorem dX4_readHouse_113 : decode cX4_readHouse 113 = .ok (.iconst 0, 1) := by decide +kernel
theorem dX4_readHouse_114 : decode cX4_readHouse 114 = .ok (.ireturn, 1) := by decide +kernel
theorem dX4_readHouse_115 : decode cX4_readHouse 115 = .ok (.aload_n 0, 1) := by decide +kernel
theorem dX4_readHouse_116 : decode cX4_readHouse 116 = .ok (.getfield 21, 3) := by decide +kernel
theorem dX4_readHouse_119 : decode cX4_readHouse 119 = .ok (.getfield 136, 3) := by decide +kernel
theorem dX4_readHouse_122 : decode cX4_readHouse 122 = .ok (.iload_n 1, 1) := by decide +kernel
theorem dX4_readHouse_123 : decode cX4_readHouse 123 = .ok (.aload_n 0, 1) := by decide +kernel
theorem dX4_readHouse_124 : decode cX4_readHouse 124 = .ok (.getfield 48, 3) := by decide +kernel
theorem dX4_readHouse_127 : decode cX4_readHouse 127 = .ok (.getfield 102, 3) := by decide +kernel
theorem dX4_readHouse_130 : decode cX4_readHouse 130 = .ok (.l2i, 1) := by decide +kernel
theorem dX4_readHouse_131 : decode cX4_readHouse 131 = .ok (.iastore, 1) := by decide +kernel
theorem dX4_readHouse_132 : decode cX4_readHouse 132 = .ok (.aload_n 0, 1) := by decide +kernel
theorem dX4_readHouse_133 : decode cX4_readHouse 133 = .ok (.getfield 12, 3) := by decide +kernel
theorem dX4_readHouse_136 : decode cX4_readHouse 136 = .ok (.dup, 1) := by decide +kernel
theorem dX4_readHouse_137 : decode cX4_readHouse 137 = .ok (.getfield 120, 3) := by decide +kernel
theorem dX4_readHouse_140 : decode cX4_readHouse 140 = .ok (.iconst 1, 1) := by decide +kernel
theorem dX4_readHouse_141 : decode cX4_readHouse 141 = .ok (.iadd, 1) := by decide +kernel
theorem dX4_readHouse_142 : decode cX4_readHouse 142 = .ok (.putfield 120, 3) := by decide +kernel
theorem dX4_readHouse_145 : decode cX4_readHouse 145 = .ok (.iconst 1, 1) := by decide +kernel
theorem dX4_readHouse_146 : decode cX4_readHouse 146 = .ok (.ireturn, 1) := by decide +kernel
theorem dX4_readLine_0 : decode cX4_readLine 0 = .ok (.aload_n 0, 1) := by decide +kernel
theorem dX4_readLine_1 : decode cX4_readLine 1 = .ok (.getfield 48, 3) := by decide +kernel
theorem dX4_readLine_4 : decode cX4_readLine 4 = .ok (.getfield 76, 3) := by decide +kernel
theorem dX4_readLine_7 : decode cX4_readLine 7 = .ok (.tableswitch 58 0 4 #[33, 38, 43, 48, 53], 33) := by decide +kernel
theorem dX4_readLine_40 : decode cX4_readLine 40 = .ok (.aload_n 0, 1) := by decide +kernel
theorem dX4_readLine_41 : decode cX4_readLine 41 = .ok (.invokevirtual 79, 3) := by decide +kernel
theorem dX4_readLine_44 : decode cX4_readLine 44 = .ok (.ireturn, 1) := by decide +kernel
theorem dX4_readLine_45 : decode cX4_readLine 45 = .ok (.aload_n 0, 1) := by decide +kernel
theorem dX4_readLine_46 : decode cX4_readLine 46 = .ok (.invokevirtual 82, 3) := by decide +kernel
theorem dX4_readLine_49 : decode cX4_readLine 49 = .ok (.ireturn, 1) := by decide +kernel
theorem dX4_readLine_50 : decode cX4_readLine 50 = .ok (.aload_n 0, 1) := by decide +kernel
theorem dX4_readLine_51 : decode cX4_readLine 51 = .ok (.invokevirtual 85, 3) := by decide +kernel
theorem dX4_readLine_54 : decode cX4_readLine 54 = .ok (.ireturn, 1) := by decide +kernel
theorem dX4_readLine_55 : decode cX4_readLine 55 = .ok (.aload_n 0, 1) := by decide +kernel
theorem dX4_readLine_56 : decode cX4_readLine 56 = .ok (.invokevirtual 88, 3) := by decide +kernel
theorem dX4_readLine_59 : decode cX4_readLine 59 = .ok (.ireturn, 1) := by decide +kernel
theorem dX4_readLine_60 : decode cX4_readLine 60 = .ok (.aload_n 0, 1) := by decide +kernel
theorem dX4_readLine_61 : decode cX4_readLine 61 = .ok (.invokevirtual 91, 3) := by decide +kernel
theorem dX4_readLine_64 : decode cX4_readLine 64 = .ok (.ireturn, 1) := by decide +kernel
theorem dX4_readLine_65 : decode cX4_readLine 65 = .ok (.aload_n 0, 1) := by decide +kernel
theorem dX4_readLine_66 : decode cX4_readLine 66 = .ok (.getfield 48, 3) := by decide +kernel
theorem dX4_readLine_69 : decode cX4_readLine 69 = .ok (.iconst 1, 1) := by decide +kernel
theorem dX4_readLine_70 : decode cX4_readLine 70 = .ok (.invokevirtual 94, 3) := by decide +kernel
theorem dX4_readLine_73 : decode cX4_readLine 73 = .ok (.ireturn, 1) := by decide +kernel
theorem dX4_readLines_0 : decode cX4_readLines 0 = .ok (.aload_n 0, 1) := by decide +kernel
theorem dX4_readLines_1 : decode cX4_readLines 1 = .ok (.getfield 48, 3) := by decide +kernel
theorem dX4_readLines_4 : decode cX4_readLines 4 = .ok (.sipush 900, 3) := by decide +kernel
theorem dX4_readLines_7 : decode cX4_readLines 7 = .ok (.invokevirtual 52, 3) := by decide +kernel
theorem dX4_readLines_10 : decode cX4_readLines 10 = .ok (.aload_n 0, 1) := by decide +kernel
theorem dX4_readLines_11 : decode cX4_readLines 11 = .ok (.getfield 12, 3) := by decide +kernel
theorem dX4_readLines_14 : decode cX4_readLines 14 = .ok (.invokevirtual 58, 3) := by decide +kernel
theorem dX4_readLines_17 : decode cX4_readLines 17 = .ok (.aload_n 0, 1) := by decide +kernel
theorem dX4_readLines_18 : decode cX4_readLines 18 = .ok (.getfield 21, 3) := by decide +kernel
theorem dX4_readLines_21 : decode cX4_readLines 21 = .ok (.invokevirtual 61, 3) := by decide +kernel
theorem dX4_readLines_24 : decode cX4_readLines 24 = .ok (.aload_n 0, 1) := by decide +kernel
theorem dX4_readLines_25 : decode cX4_readLines 25 = .ok (.iconst 0, 1) := by decide +kernel
theorem dX4_readLines_26 : decode cX4_readLines 26 = .ok (.putfield 37, 3) := by decide +kernel
theorem dX4_readLines_29 : decode cX4_readLines 29 = .ok (.aload_n 0, 1) := by decide +kernel
theorem dX4_readLines_30 : decode cX4_readLines 30 = .ok (.iconst 0, 1) := by decide +kernel
theorem dX4_readLines_31 : decode cX4_readLines 31 = .ok (.putfield 41, 3) := by decide +kernel
theorem dX4_readLines_34 : decode cX4_readLines 34 = .ok (.iconst 0, 1) := by decide +kernel
theorem dX4_readLines_35 : decode cX4_readLines 35 = .ok (.istore_n 1, 1) := by decide +kernel
theorem dX4_readLines_36 : decode cX4_readLines 36 = .ok (.iload_n 1, 1) := by decide +kernel
theorem dX4_readLines_37 : decode cX4_readLines 37 = .ok (.sipush 900, 3) := by decide +kernel
theorem dX4_readLines_40 : decode cX4_readLines 40 = .ok (.if_icmp .ge 47, 3) := by decide +kernel
theorem dX4_readLines_43 : decode cX4_readLines 43 = .ok (.aload_n 0, 1) := by decide +kernel
theorem dX4_readLines_44 : decode cX4_readLines 44 = .ok (.getfield 48, 3) := by decide +kernel
theorem dX4_readLines_47 : decode cX4_readLines 47 = .ok (.invokevirtual 62, 3) := by decide +kernel
theorem dX4_readLines_50 : decode cX4_readLines 50 = .ok (.aload_n 0, 1) := by decide +kernel
theorem dX4_readLines_51 : decode cX4_readLines 51 = .ok (.getfield 48, 3) := by decide +kernel
theorem dX4_readLines_54 : decode cX4_readLines 54 = .ok (.getfield 65, 3) := by decide +kernel
theorem dX4_readLines_57 : decode cX4_readLines 57 = .ok (.ifCond .eq 22, 3) := by decide +kernel
theorem dX4_readLines_60 : decode cX4_readLines 60 = .ok (.aload_n 0, 1) := by decide +kernel
theorem dX4_readLines_61 : decode cX4_readLines 61 = .ok (.invokevirtual 68, 3) := by decide +kernel
theorem dX4_readLines_64 : decode cX4_readLines 64 = .ok (.ifCond .eq 15, 3) := by decide +kernel
theorem dX4_readLines_67 : decode cX4_readLines 67 = .ok (.aload_n 0, 1) := by decide +kernel
theorem dX4_readLines_68 : decode cX4_readLines 68 = .ok (.getfield 48, 3) := by decide +kernel
theorem dX4_readLines_71 : decode cX4_readLines 71 = .ok (.bipush 59, 2) := by decide +kernel
theorem dX4_readLines_73 : decode cX4_readLines 73 = .ok (.invokevirtual 72, 3) := by decide +kernel
theorem dX4_readLines_76 : decode cX4_readLines 76 = .ok (.ifCond .ne 5, 3) := by decide +kernel
theorem dX4_readLines_79 : decode cX4_readLines 79 = .ok (.iload_n 1, 1) := by decide +kernel
theorem dX4_readLines_80 : decode cX4_readLines 80 = .ok (.ireturn, 1) := by decide +kernel
theorem dX4_readLines_81 : decode cX4_readLines 81 = .ok (.iinc 1 1, 3) := by decide +kernel
theorem dX4_readLines_84 : decode cX4_readLines 84 = .ok (.goto (-48), 3) := by decide +kernel
theorem dX4_readLines_87 : decode cX4_readLines 87 = .ok (.sipush 900, 3) := by decide +kernel
theorem dX4_readLines_90 : decode cX4_readLines 90 = .ok (.ireturn, 1) := by decide +kernel
theorem dX4_readNewName_0 : decode cX4_readNewName 0 = .ok (.aload_n 0, 1) := by decide +kernel
theorem dX4_readNewName_1 : decode cX4_readNewName 1 = .ok (.getfield 48, 3) := by decide +kernel
theorem dX4_readNewName_4 : decode cX4_readNewName 4 = .ok (.invokevirtual 160, 3) := by decide +kernel
theorem dX4_readNewName_7 : decode cX4_readNewName 7 = .ok (.ifCond .ne 5, 3) := by decide +kernel
theorem dX4_readNewName_10 : decode cX4_readNewName 10 = .ok (.iconst 0, 1) := by decide +kernel
theorem dX4_readNewName_11 : decode cX4_readNewName 11 = .ok (.ireturn, 1) := by decide +kernel
theorem dX4_readNewName_12 : decode cX4_readNewName 12 = .ok (.aload_n 0, 1) := by decide +kernel
theorem dX4_readNewName_13 : decode cX4_readNewName 13 = .ok (.getfield 12, 3) := by decide +kernel
theorem dX4_readNewName_16 : decode cX4_readNewName 16 = .ok (.aload_n 0, 1) := by decide +kernel
theorem dX4_readNewName_17 : decode cX4_readNewName 17 = .ok (.getfield 48, 3) := by decide +kernel
