theorem dX4_readNewName_20 : decode cX4_readNewName 20 = .ok (.getfield 102, 3) := by decide +kernel
theorem dX4_readNewName_23 : decode cX4_readNewName 23 = .ok (.invokevirtual 163, 3) := by decide +kernel
theorem dX4_readNewName_26 : decode cX4_readNewName 26 = .ok (.iconst (-1), 1) := by decide +kernel
theorem dX4_readNewName_27 : decode cX4_readNewName 27 = .ok (.if_icmp .ne 21, 3) := by decide +kernel
theorem dX4_readNewName_30 : decode cX4_readNewName 30 = .ok (.aload_n 0, 1) := by decide +kernel
theorem dX4_readNewName_31 : decode cX4_readNewName 31 = .ok (.getfield 12, 3) := by decide +kernel
theorem dX4_readNewName_34 : decode cX4_readNewName 34 = .ok (.aload_n 0, 1) := by decide +kernel
theorem dX4_readNewName_35 : decode cX4_readNewName 35 = .ok (.getfield 48, 3) := by decide +kernel
theorem dX4_readNewName_38 : decode cX4_readNewName 38 = .ok (.getfield 102, 3) := by decide +kernel
theorem dX4_readNewName_41 : decode cX4_readNewName 41 = .ok (.invokevirtual 167, 3) := by decide +kernel
theorem dX4_readNewName_44 : decode cX4_readNewName 44 = .ok (.iconst (-1), 1) := by decide +kernel
theorem dX4_readNewName_45 : decode cX4_readNewName 45 = .ok (.if_icmp .eq 7, 3) := by decide +kernel
theorem dX4_readNewName_48 : decode cX4_readNewName 48 = .ok (.iconst 1, 1) := by decide +kernel
theorem dX4_readNewName_49 : decode cX4_readNewName 49 = .ok (.goto 4, 3) := by decide +kernel
theorem dX4_readNewName_52 : decode cX4_readNewName 52 = .ok (.iconst 0, 1) := by decide +kernel
theorem dX4_readNewName_53 : decode cX4_readNewName 53 = .ok (.istore_n 1, 1) := by decide +kernel
theorem dX4_readNewName_54 : decode cX4_readNewName 54 = .ok (.iload_n 1, 1) := by decide +kernel
theorem dX4_readNewName_55 : decode cX4_readNewName 55 = .ok (.ifCond .eq 14, 3) := by decide +kernel
theorem dX4_readNewName_58 : decode cX4_readNewName 58 = .ok (.aload_n 0, 1) := by decide +kernel
theorem dX4_readNewName_59 : decode cX4_readNewName 59 = .ok (.getfield 48, 3) := by decide +kernel
theorem dX4_readNewName_62 : decode cX4_readNewName 62 = .ok (.iconst 3, 1) := by decide +kernel
theorem dX4_readNewName_63 : decode cX4_readNewName 63 = .ok (.invokevirtual 94, 3) := by decide +kernel
theorem dX4_readNewName_66 : decode cX4_readNewName 66 = .ok (.ifCond .eq 7, 3) := by decide +kernel
theorem dX4_readNewName_69 : decode cX4_readNewName 69 = .ok (.iconst 1, 1) := by decide +kernel
theorem dX4_readNewName_70 : decode cX4_readNewName 70 = .ok (.goto 4, 3) := by decide +kernel
theorem dX4_readNewName_73 : decode cX4_readNewName 73 = .ok (.iconst 0, 1) := by decide +kernel
theorem dX4_readNewName_74 : decode cX4_readNewName 74 = .ok (.ireturn, 1) := by decide +kernel
theorem dX4_readPerson_0 : decode cX4_readPerson 0 = .ok (.aload_n 0, 1) := by decide +kernel
theorem dX4_readPerson_1 : decode cX4_readPerson 1 = .ok (.getfield 12, 3) := by decide +kernel
theorem dX4_readPerson_4 : decode cX4_readPerson 4 = .ok (.getfield 139, 3) := by decide +kernel
theorem dX4_readPerson_7 : decode cX4_readPerson 7 = .ok (.istore_n 1, 1) := by decide +kernel
theorem dX4_readPerson_8 : decode cX4_readPerson 8 = .ok (.iload_n 1, 1) := by decide +kernel
theorem dX4_readPerson_9 : decode cX4_readPerson 9 = .ok (.bipush 6, 2) := by decide +kernel
theorem dX4_readPerson_11 : decode cX4_readPerson 11 = .ok (.if_icmp .lt 12, 3) := by decide +kernel
theorem dX4_readPerson_14 : decode cX4_readPerson 14 = .ok (.aload_n 0, 1) := by decide +kernel
theorem dX4_readPerson_15 : decode cX4_readPerson 15 = .ok (.getfield 48, 3) := by decide +kernel
theorem dX4_readPerson_18 : decode cX4_readPerson 18 = .ok (.iconst 4, 1) := by decide +kernel
theorem dX4_readPerson_19 : decode cX4_readPerson 19 = .ok (.invokevirtual 94, 3) := by decide +kernel
theorem dX4_readPerson_22 : decode cX4_readPerson 22 = .ok (.ireturn, 1) := by decide +kernel
theorem dX4_readPerson_23 : decode cX4_readPerson 23 = .ok (.aload_n 0, 1) := by decide +kernel
theorem dX4_readPerson_24 : decode cX4_readPerson 24 = .ok (.invokevirtual 123, 3) := by decide +kernel
theorem dX4_readPerson_27 : decode cX4_readPerson 27 = .ok (.ifCond .ne 5, 3) := by decide +kernel
theorem dX4_readPerson_30 : decode cX4_readPerson 30 = .ok (.iconst 0, 1) := by decide +kernel
theorem dX4_readPerson_31 : decode cX4_readPerson 31 = .ok (.ireturn, 1) := by decide +kernel
theorem dX4_readPerson_32 : decode cX4_readPerson 32 = .ok (.aload_n 0, 1) := by decide +kernel
theorem dX4_readPerson_33 : decode cX4_readPerson 33 = .ok (.getfield 12, 3) := by decide +kernel
theorem dX4_readPerson_36 : decode cX4_readPerson 36 = .ok (.getfield 142, 3) := by decide +kernel
theorem dX4_readPerson_39 : decode cX4_readPerson 39 = .ok (.iload_n 1, 1) := by decide +kernel
theorem dX4_readPerson_40 : decode cX4_readPerson 40 = .ok (.aload_n 0, 1) := by decide +kernel
theorem dX4_readPerson_41 : decode cX4_readPerson 41 = .ok (.getfield 48, 3) := by decide +kernel
theorem dX4_readPerson_44 : decode cX4_readPerson 44 = .ok (.getfield 102, 3) := by decide +kernel
theorem dX4_readPerson_47 : decode cX4_readPerson 47 = .ok (.lastore, 1) := by decide +kernel
theorem dX4_readPerson_48 : decode cX4_readPerson 48 = .ok (.aload_n 0, 1) := by decide +kernel
theorem dX4_readPerson_49 : decode cX4_readPerson 49 = .ok (.iconst 1, 1) := by decide +kernel
theorem dX4_readPerson_50 : decode cX4_readPerson 50 = .ok (.invokevirtual 112, 3) := by decide +kernel
theorem dX4_readPerson_53 : decode cX4_readPerson 53 = .ok (.ifCond .ne 5, 3) := by decide +kernel
theorem dX4_readPerson_56 : decode cX4_readPerson 56 = .ok (.iconst 0, 1) := by decide +kernel
theorem dX4_readPerson_57 : decode cX4_readPerson 57 = .ok (.ireturn, 1) := by decide +kernel
theorem dX4_readPerson_58 : decode cX4_readPerson 58 = .ok (.aload_n 0, 1) := by decide +kernel
theorem dX4_readPerson_59 : decode cX4_readPerson 59 = .ok (.getfield 21, 3) := by decide +kernel
theorem dX4_readPerson_62 : decode cX4_readPerson 62 = .ok (.getfield 145, 3) := by decide +kernel
theorem dX4_readPerson_65 : decode cX4_readPerson 65 = .ok (.iload_n 1, 1) := by decide +kernel
theorem dX4_readPerson_66 : decode cX4_readPerson 66 = .ok (.aload_n 0, 1) := by decide +kernel
theorem dX4_readPerson_67 : decode cX4_readPerson 67 = .ok (.getfield 44, 3) := by decide +kernel
theorem dX4_readPerson_70 : decode cX4_readPerson 70 = .ok (.iastore, 1) := by decide +kernel
theorem dX4_readPerson_71 : decode cX4_readPerson 71 = .ok (.aload_n 0, 1) := by decide +kernel
theorem dX4_readPerson_72 : decode cX4_readPerson 72 = .ok (.getfield 12, 3) := by decide +kernel
theorem dX4_readPerson_75 : decode cX4_readPerson 75 = .ok (.dup, 1) := by decide +kernel
theorem dX4_readPerson_76 : decode cX4_readPerson 76 = .ok (.getfield 139, 3) := by decide +kernel
theorem dX4_readPerson_79 : decode cX4_readPerson 79 = .ok (.iconst 1, 1) := by decide +kernel
theorem dX4_readPerson_80 : decode cX4_readPerson 80 = .ok (.iadd, 1) := by decide +kernel
theorem dX4_readPerson_81 : decode cX4_readPerson 81 = .ok (.putfield 139, 3) := by decide +kernel
theorem dX4_readPerson_84 : decode cX4_readPerson 84 = .ok (.iconst 1, 1) := by decide +kernel
theorem dX4_readPerson_85 : decode cX4_readPerson 85 = .ok (.ireturn, 1) := by decide +kernel
theorem dX4_readSpot_0 : decode cX4_readSpot 0 = .ok (.aload_n 0, 1) := by decide +kernel
theorem dX4_readSpot_1 : decode cX4_readSpot 1 = .ok (.iconst 1, 1) := by decide +kernel
theorem dX4_readSpot_2 : decode cX4_readSpot 2 = .ok (.putfield 41, 3) := by decide +kernel
theorem dX4_readSpot_5 : decode cX4_readSpot 5 = .ok (.aload_n 0, 1) := by decide +kernel
theorem dX4_readSpot_6 : decode cX4_readSpot 6 = .ok (.getfield 48, 3) := by decide +kernel
theorem dX4_readSpot_9 : decode cX4_readSpot 9 = .ok (.iconst 0, 1) := by decide +kernel
theorem dX4_readSpot_10 : decode cX4_readSpot 10 = .ok (.aload_n 0, 1) := by decide +kernel
theorem dX4_readSpot_11 : decode cX4_readSpot 11 = .ok (.getfield 12, 3) := by decide +kernel
theorem dX4_readSpot_14 : decode cX4_readSpot 14 = .ok (.getfield 106, 3) := by decide +kernel
theorem dX4_readSpot_17 : decode cX4_readSpot 17 = .ok (.iconst 1, 1) := by decide +kernel
theorem dX4_readSpot_18 : decode cX4_readSpot 18 = .ok (.isub, 1) := by decide +kernel
theorem dX4_readSpot_19 : decode cX4_readSpot 19 = .ok (.invokevirtual 98, 3) := by decide +kernel
theorem dX4_readSpot_22 : decode cX4_readSpot 22 = .ok (.ifCond .ne 5, 3) := by decide +kernel
theorem dX4_readSpot_25 : decode cX4_readSpot 25 = .ok (.iconst 0, 1) := by decide +kernel
theorem dX4_readSpot_26 : decode cX4_readSpot 26 = .ok (.ireturn, 1) := by decide +kernel
theorem dX4_readSpot_27 : decode cX4_readSpot 27 = .ok (.aload_n 0, 1) := by decide +kernel
theorem dX4_readSpot_28 : decode cX4_readSpot 28 = .ok (.getfield 48, 3) := by decide +kernel
theorem dX4_readSpot_31 : decode cX4_readSpot 31 = .ok (.getfield 102, 3) := by decide +kernel
theorem dX4_readSpot_34 : decode cX4_readSpot 34 = .ok (.l2i, 1) := by decide +kernel
theorem dX4_readSpot_35 : decode cX4_readSpot 35 = .ok (.istore_n 2, 1) := by decide +kernel
theorem dX4_readSpot_36 : decode cX4_readSpot 36 = .ok (.aload_n 0, 1) := by decide +kernel
theorem dX4_readSpot_37 : decode cX4_readSpot 37 = .ok (.getfield 48, 3) := by decide +kernel
theorem dX4_readSpot_40 : decode cX4_readSpot 40 = .ok (.iconst 0, 1) := by decide +kernel
theorem dX4_readSpot_41 : decode cX4_readSpot 41 = .ok (.aload_n 0, 1) := by decide +kernel
theorem dX4_readSpot_42 : decode cX4_readSpot 42 = .ok (.getfield 12, 3) := by decide +kernel
theorem dX4_readSpot_45 : decode cX4_readSpot 45 = .ok (.getfield 109, 3) := by decide +kernel
theorem dX4_readSpot_48 : decode cX4_readSpot 48 = .ok (.iconst 1, 1) := by decide +kernel
theorem dX4_readSpot_49 : decode cX4_readSpot 49 = .ok (.isub, 1) := by decide +kernel
theorem dX4_readSpot_50 : decode cX4_readSpot 50 = .ok (.invokevirtual 98, 3) := by decide +kernel
theorem dX4_readSpot_53 : decode cX4_readSpot 53 = .ok (.ifCond .ne 5, 3) := by decide +kernel
theorem dX4_readSpot_56 : decode cX4_readSpot 56 = .ok (.iconst 0, 1) := by decide +kernel
theorem dX4_readSpot_57 : decode cX4_readSpot 57 = .ok (.ireturn, 1) := by decide +kernel
theorem dX4_readSpot_58 : decode cX4_readSpot 58 = .ok (.aload_n 0, 1) := by decide +kernel
theorem dX4_readSpot_59 : decode cX4_readSpot 59 = .ok (.bipush 8, 2) := by decide +kernel
theorem dX4_readSpot_61 : decode cX4_readSpot 61 = .ok (.aload_n 0, 1) := by decide +kernel
theorem dX4_readSpot_62 : decode cX4_readSpot 62 = .ok (.getfield 48, 3) := by decide +kernel
theorem dX4_readSpot_65 : decode cX4_readSpot 65 = .ok (.getfield 102, 3) := by decide +kernel
theorem dX4_readSpot_68 : decode cX4_readSpot 68 = .ok (.l2i, 1) := by decide +kernel
theorem dX4_readSpot_69 : decode cX4_readSpot 69 = .ok (.imul, 1) := by decide +kernel
theorem dX4_readSpot_70 : decode cX4_readSpot 70 = .ok (.iload_n 2, 1) := by decide +kernel
theorem dX4_readSpot_71 : decode cX4_readSpot 71 = .ok (.iadd, 1) := by decide +kernel
theorem dX4_readSpot_72 : decode cX4_readSpot 72 = .ok (.putfield 44, 3) := by decide +kernel
theorem dX4_readSpot_75 : decode cX4_readSpot 75 = .ok (.aload_n 0, 1) := by decide +kernel
theorem dX4_readSpot_76 : decode cX4_readSpot 76 = .ok (.getfield 33, 3) := by decide +kernel
theorem dX4_readSpot_79 : decode cX4_readSpot 79 = .ok (.aload_n 0, 1) := by decide +kernel
theorem dX4_readSpot_80 : decode cX4_readSpot 80 = .ok (.getfield 44, 3) := by decide +kernel
theorem dX4_readSpot_83 : decode cX4_readSpot 83 = .ok (.invokevirtual 170, 3) := by decide +kernel
theorem dX4_readSpot_86 : decode cX4_readSpot 86 = .ok (.ifCond .gt 21, 3) := by decide +kernel
theorem dX4_readSpot_89 : decode cX4_readSpot 89 = .ok (.iload_n 1, 1) := by decide +kernel
theorem dX4_readSpot_90 : decode cX4_readSpot 90 = .ok (.ifCond .ne 26, 3) := by decide +kernel
theorem dX4_readSpot_93 : decode cX4_readSpot 93 = .ok (.aload_n 0, 1) := by decide +kernel
theorem dX4_readSpot_94 : decode cX4_readSpot 94 = .ok (.getfield 33, 3) := by decide +kernel
theorem dX4_readSpot_97 : decode cX4_readSpot 97 = .ok (.aload_n 0, 1) := by decide +kernel
theorem dX4_readSpot_98 : decode cX4_readSpot 98 = .ok (.getfield 44, 3) := by decide +kernel
theorem dX4_readSpot_101 : decode cX4_readSpot 101 = .ok (.invokevirtual 174, 3) := by decide +kernel
theorem dX4_readSpot_104 : decode cX4_readSpot 104 = .ok (.ifCond .eq 12, 3) := by decide +kernel
theorem dX4_readSpot_107 : decode cX4_readSpot 107 = .ok (.aload_n 0, 1) := by decide +kernel
theorem dX4_readSpot_108 : decode cX4_readSpot 108 = .ok (.getfield 48, 3) := by decide +kernel
theorem dX4_readSpot_111 : decode cX4_readSpot 111 = .ok (.iconst 3, 1) := by decide +kernel
theorem dX4_readSpot_112 : decode cX4_readSpot 112 = .ok (.invokevirtual 94, 3) := by decide +kernel
theorem dX4_readSpot_115 : decode cX4_readSpot 115 = .ok (.ireturn, 1) := by decide +kernel
theorem dX4_readSpot_116 : decode cX4_readSpot 116 = .ok (.iconst 1, 1) := by decide +kernel
theorem dX4_readSpot_117 : decode cX4_readSpot 117 = .ok (.ireturn, 1) := by decide +kernel
theorem dX4_readStones_0 : decode cX4_readStones 0 = .ok (.aload_n 0, 1) := by decide +kernel
theorem dX4_readStones_1 : decode cX4_readStones 1 = .ok (.iconst 0, 1) := by decide +kernel
theorem dX4_readStones_2 : decode cX4_readStones 2 = .ok (.invokevirtual 112, 3) := by decide +kernel
theorem dX4_readStones_5 : decode cX4_readStones 5 = .ok (.ifCond .eq 16, 3) := by decide +kernel
theorem dX4_readStones_8 : decode cX4_readStones 8 = .ok (.aload_n 0, 1) := by decide +kernel
theorem dX4_readStones_9 : decode cX4_readStones 9 = .ok (.getfield 48, 3) := by decide +kernel
theorem dX4_readStones_12 : decode cX4_readStones 12 = .ok (.iconst 1, 1) := by decide +kernel
theorem dX4_readStones_13 : decode cX4_readStones 13 = .ok (.bipush 9, 2) := by decide +kernel
theorem dX4_readStones_15 : decode cX4_readStones 15 = .ok (.invokevirtual 98, 3) := by decide +kernel
theorem dX4_readStones_18 : decode cX4_readStones 18 = .ok (.ifCond .ne 5, 3) := by decide +kernel
theorem dX4_readStones_21 : decode cX4_readStones 21 = .ok (.iconst 0, 1) := by decide +kernel
theorem dX4_readStones_22 : decode cX4_readStones 22 = .ok (.ireturn, 1) := by decide +kernel
theorem dX4_readStones_23 : decode cX4_readStones 23 = .ok (.aload_n 0, 1) := by decide +kernel
theorem dX4_readStones_24 : decode cX4_readStones 24 = .ok (.getfield 21, 3) := by decide +kernel
theorem dX4_readStones_27 : decode cX4_readStones 27 = .ok (.getfield 116, 3) := by decide +kernel
theorem dX4_readStones_30 : decode cX4_readStones 30 = .ok (.aload_n 0, 1) := by decide +kernel
theorem dX4_readStones_31 : decode cX4_readStones 31 = .ok (.getfield 44, 3) := by decide +kernel
theorem dX4_readStones_34 : decode cX4_readStones 34 = .ok (.aload_n 0, 1) := by decide +kernel
theorem dX4_readStones_35 : decode cX4_readStones 35 = .ok (.getfield 48, 3) := by decide +kernel
theorem dX4_readStones_38 : decode cX4_readStones 38 = .ok (.getfield 102, 3) := by decide +kernel
theorem dX4_readStones_41 : decode cX4_readStones 41 = .ok (.l2i, 1) := by decide +kernel
theorem dX4_readStones_42 : decode cX4_readStones 42 = .ok (.iastore, 1) := by decide +kernel
theorem dX4_readStones_43 : decode cX4_readStones 43 = .ok (.iconst 1, 1) := by decide +kernel
theorem dX4_readStones_44 : decode cX4_readStones 44 = .ok (.ireturn, 1) := by decide +kernel
theorem dX4_readSun_0 : decode cX4_readSun 0 = .ok (.aload_n 0, 1) := by decide +kernel
theorem dX4_readSun_1 : decode cX4_readSun 1 = .ok (.getfield 12, 3) := by decide +kernel
theorem dX4_readSun_4 : decode cX4_readSun 4 = .ok (.getfield 148, 3) := by decide +kernel
theorem dX4_readSun_7 : decode cX4_readSun 7 = .ok (.istore_n 1, 1) := by decide +kernel
theorem dX4_readSun_8 : decode cX4_readSun 8 = .ok (.iload_n 1, 1) := by decide +kernel
theorem dX4_readSun_9 : decode cX4_readSun 9 = .ok (.bipush 8, 2) := by decide +kernel
theorem dX4_readSun_11 : decode cX4_readSun 11 = .ok (.if_icmp .lt 12, 3) := by decide +kernel
theorem dX4_readSun_14 : decode cX4_readSun 14 = .ok (.aload_n 0, 1) := by decide +kernel
theorem dX4_readSun_15 : decode cX4_readSun 15 = .ok (.getfield 48, 3) := by decide +kernel
theorem dX4_readSun_18 : decode cX4_readSun 18 = .ok (.iconst 4, 1) := by decide +kernel
theorem dX4_readSun_19 : decode cX4_readSun 19 = .ok (.invokevirtual 94, 3) := by decide +kernel
theorem dX4_readSun_22 : decode cX4_readSun 22 = .ok (.ireturn, 1) := by decide +kernel
theorem dX4_readSun_23 : decode cX4_readSun 23 = .ok (.aload_n 0, 1) := by decide +kernel
theorem dX4_readSun_24 : decode cX4_readSun 24 = .ok (.getfield 48, 3) := by decide +kernel
theorem dX4_readSun_27 : decode cX4_readSun 27 = .ok (.invokevirtual 151, 3) := by decide +kernel
theorem dX4_readSun_30 : decode cX4_readSun 30 = .ok (.ifCond .ne 5, 3) := by decide +kernel
theorem dX4_readSun_33 : decode cX4_readSun 33 = .ok (.iconst 0, 1) := by decide +kernel
theorem dX4_readSun_34 : decode cX4_readSun 34 = .ok (.ireturn, 1) := by decide +kernel
theorem dX4_readSun_35 : decode cX4_readSun 35 = .ok (.aload_n 0, 1) := by decide +kernel
theorem dX4_readSun_36 : decode cX4_readSun 36 = .ok (.getfield 12, 3) := by decide +kernel
theorem dX4_readSun_39 : decode cX4_readSun 39 = .ok (.getfield 154, 3) := by decide +kernel
theorem dX4_readSun_42 : decode cX4_readSun 42 = .ok (.iload_n 1, 1) := by decide +kernel
theorem dX4_readSun_43 : decode cX4_readSun 43 = .ok (.aload_n 0, 1) := by decide +kernel
theorem dX4_readSun_44 : decode cX4_readSun 44 = .ok (.getfield 48, 3) := by decide +kernel
theorem dX4_readSun_47 : decode cX4_readSun 47 = .ok (.getfield 76, 3) := by decide +kernel
theorem dX4_readSun_50 : decode cX4_readSun 50 = .ok (.iconst 5, 1) := by decide +kernel
theorem dX4_readSun_51 : decode cX4_readSun 51 = .ok (.isub, 1) := by decide +kernel
theorem dX4_readSun_52 : decode cX4_readSun 52 = .ok (.iastore, 1) := by decide +kernel
theorem dX4_readSun_53 : decode cX4_readSun 53 = .ok (.aload_n 0, 1) := by decide +kernel
theorem dX4_readSun_54 : decode cX4_readSun 54 = .ok (.getfield 48, 3) := by decide +kernel
theorem dX4_readSun_57 : decode cX4_readSun 57 = .ok (.iconst 1, 1) := by decide +kernel
theorem dX4_readSun_58 : decode cX4_readSun 58 = .ok (.bipush 9, 2) := by decide +kernel
theorem dX4_readSun_60 : decode cX4_readSun 60 = .ok (.invokevirtual 98, 3) := by decide +kernel
theorem dX4_readSun_63 : decode cX4_readSun 63 = .ok (.ifCond .ne 5, 3) := by decide +kernel
theorem dX4_readSun_66 : decode cX4_readSun 66 = .ok (.iconst 0, 1) := by decide +kernel
theorem dX4_readSun_67 : decode cX4_readSun 67 = .ok (.ireturn, 1) := by decide +kernel
theorem dX4_readSun_68 : decode cX4_readSun 68 = .ok (.aload_n 0, 1) := by decide +kernel
theorem dX4_readSun_69 : decode cX4_readSun 69 = .ok (.getfield 12, 3) := by decide +kernel
theorem dX4_readSun_72 : decode cX4_readSun 72 = .ok (.getfield 157, 3) := by decide +kernel
theorem dX4_readSun_75 : decode cX4_readSun 75 = .ok (.iload_n 1, 1) := by decide +kernel
theorem dX4_readSun_76 : decode cX4_readSun 76 = .ok (.aload_n 0, 1) := by decide +kernel
theorem dX4_readSun_77 : decode cX4_readSun 77 = .ok (.getfield 48, 3) := by decide +kernel
theorem dX4_readSun_80 : decode cX4_readSun 80 = .ok (.getfield 102, 3) := by decide +kernel
theorem dX4_readSun_83 : decode cX4_readSun 83 = .ok (.l2i, 1) := by decide +kernel
theorem dX4_readSun_84 : decode cX4_readSun 84 = .ok (.iastore, 1) := by decide +kernel
theorem dX4_readSun_85 : decode cX4_readSun 85 = .ok (.aload_n 0, 1) := by decide +kernel
theorem dX4_readSun_86 : decode cX4_readSun 86 = .ok (.getfield 12, 3) := by decide +kernel
theorem dX4_readSun_89 : decode cX4_readSun 89 = .ok (.dup, 1) := by decide +kernel
theorem dX4_readSun_90 : decode cX4_readSun 90 = .ok (.getfield 148, 3) := by decide +kernel
theorem dX4_readSun_93 : decode cX4_readSun 93 = .ok (.iconst 1, 1) := by decide +kernel
theorem dX4_readSun_94 : decode cX4_readSun 94 = .ok (.iadd, 1) := by decide +kernel
theorem dX4_readSun_95 : decode cX4_readSun 95 = .ok (.putfield 148, 3) := by decide +kernel
theorem dX4_readSun_98 : decode cX4_readSun 98 = .ok (.iconst 1, 1) := by decide +kernel
theorem dX4_readSun_99 : decode cX4_readSun 99 = .ok (.ireturn, 1) := by decide +kernel
theorem dX5_clear_0 : decode cX5_clear 0 = .ok (.aload_n 0, 1) := by decide +kernel
theorem dX5_clear_1 : decode cX5_clear 1 = .ok (.iconst 5, 1) := by decide +kernel
theorem dX5_clear_2 : decode cX5_clear 2 = .ok (.putfield 11, 3) := by decide +kernel
theorem dX5_clear_5 : decode cX5_clear 5 = .ok (.aload_n 0, 1) := by decide +kernel
theorem dX5_clear_6 : decode cX5_clear 6 = .ok (.iconst 5, 1) := by decide +kernel
theorem dX5_clear_7 : decode cX5_clear 7 = .ok (.putfield 15, 3) := by decide +kernel
theorem dX5_clear_10 : decode cX5_clear 10 = .ok (.aload_n 0, 1) := by decide +kernel
theorem dX5_clear_11 : decode cX5_clear 11 = .ok (.iconst 0, 1) := by decide +kernel
theorem dX5_clear_12 : decode cX5_clear 12 = .ok (.putfield 18, 3) := by decide +kernel
theorem dX5_clear_15 : decode cX5_clear 15 = .ok (.aload_n 0, 1) := by decide +kernel
theorem dX5_clear_16 : decode cX5_clear 16 = .ok (.iconst 0, 1) := by decide +kernel
theorem dX5_clear_17 : decode cX5_clear 17 = .ok (.putfield 21, 3) := by decide +kernel
theorem dX5_clear_20 : decode cX5_clear 20 = .ok (.aload_n 0, 1) := by decide +kernel
theorem dX5_clear_21 : decode cX5_clear 21 = .ok (.iconst 0, 1) := by decide +kernel
theorem dX5_clear_22 : decode cX5_clear 22 = .ok (.putfield 24, 3) := by decide +kernel
theorem dX5_clear_25 : decode cX5_clear 25 = .ok (.return_, 1) := by decide +kernel
theorem dX5_copyFrom_0 : decode cX5_copyFrom 0 = .ok (.aload_n 0, 1) := by decide +kernel
theorem dX5_copyFrom_1 : decode cX5_copyFrom 1 = .ok (.aload_n 1, 1) := by decide +kernel
theorem dX5_copyFrom_2 : decode cX5_copyFrom 2 = .ok (.getfield 11, 3) := by decide +kernel
theorem dX5_copyFrom_5 : decode cX5_copyFrom 5 = .ok (.putfield 11, 3) := by decide +kernel
theorem dX5_copyFrom_8 : decode cX5_copyFrom 8 = .ok (.aload_n 0, 1) := by decide +kernel
theorem dX5_copyFrom_9 : decode cX5_copyFrom 9 = .ok (.aload_n 1, 1) := by decide +kernel
theorem dX5_copyFrom_10 : decode cX5_copyFrom 10 = .ok (.getfield 15, 3) := by decide +kernel
theorem dX5_copyFrom_13 : decode cX5_copyFrom 13 = .ok (.putfield 15, 3) := by decide +kernel
theorem dX5_copyFrom_16 : decode cX5_copyFrom 16 = .ok (.aload_n 0, 1) := by decide +kernel
theorem dX5_copyFrom_17 : decode cX5_copyFrom 17 = .ok (.aload_n 1, 1) := by decide +kernel
theorem dX5_copyFrom_18 : decode cX5_copyFrom 18 = .ok (.getfield 18, 3) := by decide +kernel
theorem dX5_copyFrom_21 : decode cX5_copyFrom 21 = .ok (.putfield 18, 3) := by decide +kernel
theorem dX5_copyFrom_24 : decode cX5_copyFrom 24 = .ok (.aload_n 0, 1) := by decide +kernel
theorem dX5_copyFrom_25 : decode cX5_copyFrom 25 = .ok (.aload_n 1, 1) := by decide +kernel
theorem dX5_copyFrom_26 : decode cX5_copyFrom 26 = .ok (.getfield 21, 3) := by decide +kernel
theorem dX5_copyFrom_29 : decode cX5_copyFrom 29 = .ok (.putfield 21, 3) := by decide +kernel
theorem dX5_copyFrom_32 : decode cX5_copyFrom 32 = .ok (.aload_n 0, 1) := by decide +kernel
theorem dX5_copyFrom_33 : decode cX5_copyFrom 33 = .ok (.aload_n 1, 1) := by decide +kernel
theorem dX5_copyFrom_34 : decode cX5_copyFrom 34 = .ok (.getfield 24, 3) := by decide +kernel
theorem dX5_copyFrom_37 : decode cX5_copyFrom 37 = .ok (.putfield 24, 3) := by decide +kernel
theorem dX5_copyFrom_40 : decode cX5_copyFrom 40 = .ok (.aload_n 1, 1) := by decide +kernel
theorem dX5_copyFrom_41 : decode cX5_copyFrom 41 = .ok (.getfield 27, 3) := by decide +kernel
theorem dX5_copyFrom_44 : decode cX5_copyFrom 44 = .ok (.aload_n 0, 1) := by decide +kernel
theorem dX5_copyFrom_45 : decode cX5_copyFrom 45 = .ok (.getfield 27, 3) := by decide +kernel
theorem dX5_copyFrom_48 : decode cX5_copyFrom 48 = .ok (.invokestatic 47, 3) := by decide +kernel
theorem dX5_copyFrom_51 : decode cX5_copyFrom 51 = .ok (.aload_n 1, 1) := by decide +kernel
theorem dX5_copyFrom_52 : decode cX5_copyFrom 52 = .ok (.getfield 31, 3) := by decide +kernel
theorem dX5_copyFrom_55 : decode cX5_copyFrom 55 = .ok (.aload_n 0, 1) := by decide +kernel
theorem dX5_copyFrom_56 : decode cX5_copyFrom 56 = .ok (.getfield 31, 3) := by decide +kernel
theorem dX5_copyFrom_59 : decode cX5_copyFrom 59 = .ok (.invokestatic 47, 3) := by decide +kernel
theorem dX5_copyFrom_62 : decode cX5_copyFrom 62 = .ok (.aload_n 1, 1) := by decide +kernel
theorem dX5_copyFrom_63 : decode cX5_copyFrom 63 = .ok (.getfield 34, 3) := by decide +kernel
theorem dX5_copyFrom_66 : decode cX5_copyFrom 66 = .ok (.aload_n 0, 1) := by decide +kernel
theorem dX5_copyFrom_67 : decode cX5_copyFrom 67 = .ok (.getfield 34, 3) := by decide +kernel
theorem dX5_copyFrom_70 : decode cX5_copyFrom 70 = .ok (.invokestatic 51, 3) := by decide +kernel
theorem dX5_copyFrom_73 : decode cX5_copyFrom 73 = .ok (.aload_n 1, 1) := by decide +kernel
theorem dX5_copyFrom_74 : decode cX5_copyFrom 74 = .ok (.getfield 38, 3) := by decide +kernel
theorem dX5_copyFrom_77 : decode cX5_copyFrom 77 = .ok (.aload_n 0, 1) := by decide +kernel
theorem dX5_copyFrom_78 : decode cX5_copyFrom 78 = .ok (.getfield 38, 3) := by decide +kernel
theorem dX5_copyFrom_81 : decode cX5_copyFrom 81 = .ok (.invokestatic 51, 3) := by decide +kernel
theorem dX5_copyFrom_84 : decode cX5_copyFrom 84 = .ok (.aload_n 1, 1) := by decide +kernel
theorem dX5_copyFrom_85 : decode cX5_copyFrom 85 = .ok (.getfield 41, 3) := by decide +kernel
theorem dX5_copyFrom_88 : decode cX5_copyFrom 88 = .ok (.aload_n 0, 1) := by decide +kernel
theorem dX5_copyFrom_89 : decode cX5_copyFrom 89 = .ok (.getfield 41, 3) := by decide +kernel
theorem dX5_copyFrom_92 : decode cX5_copyFrom 92 = .ok (.invokestatic 47, 3) := by decide +kernel
theorem dX5_copyFrom_95 : decode cX5_copyFrom 95 = .ok (.aload_n 1, 1) := by decide +kernel
theorem dX5_copyFrom_96 : decode cX5_copyFrom 96 = .ok (.getfield 44, 3) := by decide +kernel
theorem dX5_copyFrom_99 : decode cX5_copyFrom 99 = .ok (.aload_n 0, 1) := by decide +kernel
theorem dX5_copyFrom_100 : decode cX5_copyFrom 100 = .ok (.getfield 44, 3) := by decide +kernel
theorem dX5_copyFrom_103 : decode cX5_copyFrom 103 = .ok (.invokestatic 47, 3) := by decide +kernel
theorem dX5_copyFrom_106 : decode cX5_copyFrom 106 = .ok (.return_, 1) := by decide +kernel
theorem dX5_hasCell_0 : decode cX5_hasCell 0 = .ok (.iload_n 1, 1) := by decide +kernel
theorem dX5_hasCell_1 : decode cX5_hasCell 1 = .ok (.ifCond .lt 27, 3) := by decide +kernel
theorem dX5_hasCell_4 : decode cX5_hasCell 4 = .ok (.iload_n 1, 1) := by decide +kernel
theorem dX5_hasCell_5 : decode cX5_hasCell 5 = .ok (.aload_n 0, 1) := by decide +kernel
theorem dX5_hasCell_6 : decode cX5_hasCell 6 = .ok (.getfield 11, 3) := by decide +kernel
theorem dX5_hasCell_9 : decode cX5_hasCell 9 = .ok (.if_icmp .ge 19, 3) := by decide +kernel
theorem dX5_hasCell_12 : decode cX5_hasCell 12 = .ok (.iload_n 2, 1) := by decide +kernel
theorem dX5_hasCell_13 : decode cX5_hasCell 13 = .ok (.ifCond .lt 15, 3) := by decide +kernel
theorem dX5_hasCell_16 : decode cX5_hasCell 16 = .ok (.iload_n 2, 1) := by decide +kernel
theorem dX5_hasCell_17 : decode cX5_hasCell 17 = .ok (.aload_n 0, 1) := by decide +kernel
theorem dX5_hasCell_18 : decode cX5_hasCell 18 = .ok (.getfield 15, 3) := by decide +kernel
theorem dX5_hasCell_21 : decode cX5_hasCell 21 = .ok (.if_icmp .ge 7, 3) := by decide +kernel
theorem dX5_hasCell_24 : decode cX5_hasCell 24 = .ok (.iconst 1, 1) := by decide +kernel
theorem dX5_hasCell_25 : decode cX5_hasCell 25 = .ok (.goto 4, 3) := by decide +kernel
theorem dX5_hasCell_28 : decode cX5_hasCell 28 = .ok (.iconst 0, 1) := by decide +kernel
theorem dX5_hasCell_29 : decode cX5_hasCell 29 = .ok (.ireturn, 1) := by decide +kernel
theorem dX5_hasHouse_0 : decode cX5_hasHouse 0 = .ok (.iload_n 1, 1) := by decide +kernel
theorem dX5_hasHouse_1 : decode cX5_hasHouse 1 = .ok (.ifCond .lt 20, 3) := by decide +kernel
theorem dX5_hasHouse_4 : decode cX5_hasHouse 4 = .ok (.iload_n 1, 1) := by decide +kernel
theorem dX5_hasHouse_5 : decode cX5_hasHouse 5 = .ok (.aload_n 0, 1) := by decide +kernel
theorem dX5_hasHouse_6 : decode cX5_hasHouse 6 = .ok (.getfield 18, 3) := by decide +kernel
theorem dX5_hasHouse_9 : decode cX5_hasHouse 9 = .ok (.if_icmp .ge 12, 3) := by decide +kernel
theorem dX5_hasHouse_12 : decode cX5_hasHouse 12 = .ok (.iload_n 1, 1) := by decide +kernel
theorem dX5_hasHouse_13 : decode cX5_hasHouse 13 = .ok (.iconst 5, 1) := by decide +kernel
theorem dX5_hasHouse_14 : decode cX5_hasHouse 14 = .ok (.if_icmp .ge 7, 3) := by decide +kernel
theorem dX5_hasHouse_17 : decode cX5_hasHouse 17 = .ok (.iconst 1, 1) := by decide +kernel
theorem dX5_hasHouse_18 : decode cX5_hasHouse 18 = .ok (.goto 4, 3) := by decide +kernel
theorem dX5_hasHouse_21 : decode cX5_hasHouse 21 = .ok (.iconst 0, 1) := by decide +kernel
theorem dX5_hasHouse_22 : decode cX5_hasHouse 22 = .ok (.ireturn, 1) := by decide +kernel
theorem dX5_hasPerson_0 : decode cX5_hasPerson 0 = .ok (.iload_n 1, 1) := by decide +kernel
theorem dX5_hasPerson_1 : decode cX5_hasPerson 1 = .ok (.ifCond .lt 21, 3) := by decide +kernel
theorem dX5_hasPerson_4 : decode cX5_hasPerson 4 = .ok (.iload_n 1, 1) := by decide +kernel
theorem dX5_hasPerson_5 : decode cX5_hasPerson 5 = .ok (.aload_n 0, 1) := by decide +kernel
theorem dX5_hasPerson_6 : decode cX5_hasPerson 6 = .ok (.getfield 21, 3) := by decide +kernel
theorem dX5_hasPerson_9 : decode cX5_hasPerson 9 = .ok (.if_icmp .ge 13, 3) := by decide +kernel
theorem dX5_hasPerson_12 : decode cX5_hasPerson 12 = .ok (.iload_n 1, 1) := by decide +kernel
theorem dX5_hasPerson_13 : decode cX5_hasPerson 13 = .ok (.bipush 6, 2) := by decide +kernel
theorem dX5_hasPerson_15 : decode cX5_hasPerson 15 = .ok (.if_icmp .ge 7, 3) := by decide +kernel
theorem dX5_hasPerson_18 : decode cX5_hasPerson 18 = .ok (.iconst 1, 1) := by decide +kernel
theorem dX5_hasPerson_19 : decode cX5_hasPerson 19 = .ok (.goto 4, 3) := by decide +kernel
theorem dX5_hasPerson_22 : decode cX5_hasPerson 22 = .ok (.iconst 0, 1) := by decide +kernel
theorem dX5_hasPerson_23 : decode cX5_hasPerson 23 = .ok (.ireturn, 1) := by decide +kernel
theorem dX5_hasShadow_0 : decode cX5_hasShadow 0 = .ok (.iload_n 1, 1) := by decide +kernel
theorem dX5_hasShadow_1 : decode cX5_hasShadow 1 = .ok (.ifCond .lt 38, 3) := by decide +kernel
theorem dX5_hasShadow_4 : decode cX5_hasShadow 4 = .ok (.iload_n 1, 1) := by decide +kernel
theorem dX5_hasShadow_5 : decode cX5_hasShadow 5 = .ok (.aload_n 0, 1) := by decide +kernel
theorem dX5_hasShadow_6 : decode cX5_hasShadow 6 = .ok (.getfield 18, 3) := by decide +kernel
theorem dX5_hasShadow_9 : decode cX5_hasShadow 9 = .ok (.if_icmp .ge 30, 3) := by decide +kernel
theorem dX5_hasShadow_12 : decode cX5_hasShadow 12 = .ok (.iload_n 1, 1) := by decide +kernel
theorem dX5_hasShadow_13 : decode cX5_hasShadow 13 = .ok (.iconst 5, 1) := by decide +kernel
theorem dX5_hasShadow_14 : decode cX5_hasShadow 14 = .ok (.if_icmp .ge 25, 3) := by decide +kernel
theorem dX5_hasShadow_17 : decode cX5_hasShadow 17 = .ok (.iload_n 2, 1) := by decide +kernel
theorem dX5_hasShadow_18 : decode cX5_hasShadow 18 = .ok (.ifCond .lt 21, 3) := by decide +kernel
theorem dX5_hasShadow_21 : decode cX5_hasShadow 21 = .ok (.iload_n 2, 1) := by decide +kernel
theorem dX5_hasShadow_22 : decode cX5_hasShadow 22 = .ok (.aload_n 0, 1) := by decide +kernel
theorem dX5_hasShadow_23 : decode cX5_hasShadow 23 = .ok (.getfield 24, 3) := by decide +kernel
theorem dX5_hasShadow_26 : decode cX5_hasShadow 26 = .ok (.if_icmp .ge 13, 3) := by decide +kernel
theorem dX5_hasShadow_29 : decode cX5_hasShadow 29 = .ok (.iload_n 2, 1) := by decide +kernel
theorem dX5_hasShadow_30 : decode cX5_hasShadow 30 = .ok (.bipush 8, 2) := by decide +kernel
theorem dX5_hasShadow_32 : decode cX5_hasShadow 32 = .ok (.if_icmp .ge 7, 3) := by decide +kernel
theorem dX5_hasShadow_35 : decode cX5_hasShadow 35 = .ok (.iconst 1, 1) := by decide +kernel
theorem dX5_hasShadow_36 : decode cX5_hasShadow 36 = .ok (.goto 4, 3) := by decide +kernel
theorem dX5_hasShadow_39 : decode cX5_hasShadow 39 = .ok (.iconst 0, 1) := by decide +kernel
theorem dX5_hasShadow_40 : decode cX5_hasShadow 40 = .ok (.ireturn, 1) := by decide +kernel
theorem dX5_houseNamed_0 : decode cX5_houseNamed 0 = .ok (.iconst 0, 1) := by decide +kernel
theorem dX5_houseNamed_1 : decode cX5_houseNamed 1 = .ok (.istore_n 3, 1) := by decide +kernel
theorem dX5_houseNamed_2 : decode cX5_houseNamed 2 = .ok (.iload_n 3, 1) := by decide +kernel
theorem dX5_houseNamed_3 : decode cX5_houseNamed 3 = .ok (.aload_n 0, 1) := by decide +kernel
theorem dX5_houseNamed_4 : decode cX5_houseNamed 4 = .ok (.getfield 18, 3) := by decide +kernel
theorem dX5_houseNamed_7 : decode cX5_houseNamed 7 = .ok (.if_icmp .ge 27, 3) := by decide +kernel
theorem dX5_houseNamed_10 : decode cX5_houseNamed 10 = .ok (.iload_n 3, 1) := by decide +kernel
theorem dX5_houseNamed_11 : decode cX5_houseNamed 11 = .ok (.iconst 5, 1) := by decide +kernel
theorem dX5_houseNamed_12 : decode cX5_houseNamed 12 = .ok (.if_icmp .ge 22, 3) := by decide +kernel
theorem dX5_houseNamed_15 : decode cX5_houseNamed 15 = .ok (.aload_n 0, 1) := by decide +kernel
theorem dX5_houseNamed_16 : decode cX5_houseNamed 16 = .ok (.getfield 34, 3) := by decide +kernel
theorem dX5_houseNamed_19 : decode cX5_houseNamed 19 = .ok (.iload_n 3, 1) := by decide +kernel
theorem dX5_houseNamed_20 : decode cX5_houseNamed 20 = .ok (.laload, 1) := by decide +kernel
theorem dX5_houseNamed_21 : decode cX5_houseNamed 21 = .ok (.lload_n 1, 1) := by decide +kernel
theorem dX5_houseNamed_22 : decode cX5_houseNamed 22 = .ok (.lcmp, 1) := by decide +kernel
theorem dX5_houseNamed_23 : decode cX5_houseNamed 23 = .ok (.ifCond .ne 5, 3) := by decide +kernel
theorem dX5_houseNamed_26 : decode cX5_houseNamed 26 = .ok (.iload_n 3, 1) := by decide +kernel
theorem dX5_houseNamed_27 : decode cX5_houseNamed 27 = .ok (.ireturn, 1) := by decide +kernel
theorem dX5_houseNamed_28 : decode cX5_houseNamed 28 = .ok (.iinc 3 1, 3) := by decide +kernel
theorem dX5_houseNamed_31 : decode cX5_houseNamed 31 = .ok (.goto (-29), 3) := by decide +kernel
theorem dX5_houseNamed_34 : decode cX5_houseNamed 34 = .ok (.iconst (-1), 1) := by decide +kernel
theorem dX5_houseNamed_35 : decode cX5_houseNamed 35 = .ok (.ireturn, 1) := by decide +kernel
theorem dX5_houseOn_0 : decode cX5_houseOn 0 = .ok (.iconst 0, 1) := by decide +kernel
theorem dX5_houseOn_1 : decode cX5_houseOn 1 = .ok (.istore_n 2, 1) := by decide +kernel
theorem dX5_houseOn_2 : decode cX5_houseOn 2 = .ok (.iload_n 2, 1) := by decide +kernel
theorem dX5_houseOn_3 : decode cX5_houseOn 3 = .ok (.aload_n 0, 1) := by decide +kernel
theorem dX5_houseOn_4 : decode cX5_houseOn 4 = .ok (.getfield 18, 3) := by decide +kernel
theorem dX5_houseOn_7 : decode cX5_houseOn 7 = .ok (.if_icmp .ge 26, 3) := by decide +kernel
theorem dX5_houseOn_10 : decode cX5_houseOn 10 = .ok (.iload_n 2, 1) := by decide +kernel
theorem dX5_houseOn_11 : decode cX5_houseOn 11 = .ok (.iconst 5, 1) := by decide +kernel
theorem dX5_houseOn_12 : decode cX5_houseOn 12 = .ok (.if_icmp .ge 21, 3) := by decide +kernel
theorem dX5_houseOn_15 : decode cX5_houseOn 15 = .ok (.aload_n 0, 1) := by decide +kernel
theorem dX5_houseOn_16 : decode cX5_houseOn 16 = .ok (.getfield 27, 3) := by decide +kernel
theorem dX5_houseOn_19 : decode cX5_houseOn 19 = .ok (.iload_n 2, 1) := by decide +kernel
theorem dX5_houseOn_20 : decode cX5_houseOn 20 = .ok (.iaload, 1) := by decide +kernel
theorem dX5_houseOn_21 : decode cX5_houseOn 21 = .ok (.iload_n 1, 1) := by decide +kernel
theorem dX5_houseOn_22 : decode cX5_houseOn 22 = .ok (.if_icmp .ne 5, 3) := by decide +kernel
theorem dX5_houseOn_25 : decode cX5_houseOn 25 = .ok (.iload_n 2, 1) := by decide +kernel
theorem dX5_houseOn_26 : decode cX5_houseOn 26 = .ok (.ireturn, 1) := by decide +kernel
theorem dX5_houseOn_27 : decode cX5_houseOn 27 = .ok (.iinc 2 1, 3) := by decide +kernel
theorem dX5_houseOn_30 : decode cX5_houseOn 30 = .ok (.goto (-28), 3) := by decide +kernel
theorem dX5_houseOn_33 : decode cX5_houseOn 33 = .ok (.iconst (-1), 1) := by decide +kernel
theorem dX5_houseOn_34 : decode cX5_houseOn 34 = .ok (.ireturn, 1) := by decide +kernel
theorem dX5_personNamed_0 : decode cX5_personNamed 0 = .ok (.iconst 0, 1) := by decide +kernel
theorem dX5_personNamed_1 : decode cX5_personNamed 1 = .ok (.istore_n 3, 1) := by decide +kernel
theorem dX5_personNamed_2 : decode cX5_personNamed 2 = .ok (.iload_n 3, 1) := by decide +kernel
theorem dX5_personNamed_3 : decode cX5_personNamed 3 = .ok (.aload_n 0, 1) := by decide +kernel
theorem dX5_personNamed_4 : decode cX5_personNamed 4 = .ok (.getfield 21, 3) := by decide +kernel
theorem dX5_personNamed_7 : decode cX5_personNamed 7 = .ok (.if_icmp .ge 28, 3) := by decide +kernel
theorem dX5_personNamed_10 : decode cX5_personNamed 10 = .ok (.iload_n 3, 1) := by decide +kernel
theorem dX5_personNamed_11 : decode cX5_personNamed 11 = .ok (.bipush 6, 2) := by decide +kernel
theorem dX5_personNamed_13 : decode cX5_personNamed 13 = .ok (.if_icmp .ge 22, 3) := by decide +kernel
theorem dX5_personNamed_16 : decode cX5_personNamed 16 = .ok (.aload_n 0, 1) := by decide +kernel
theorem dX5_personNamed_17 : decode cX5_personNamed 17 = .ok (.getfield 38, 3) := by decide +kernel
theorem dX5_personNamed_20 : decode cX5_personNamed 20 = .ok (.iload_n 3, 1) := by decide +kernel
theorem dX5_personNamed_21 : decode cX5_personNamed 21 = .ok (.laload, 1) := by decide +kernel
theorem dX5_personNamed_22 : decode cX5_personNamed 22 = .ok (.lload_n 1, 1) := by decide +kernel
theorem dX5_personNamed_23 : decode cX5_personNamed 23 = .ok (.lcmp, 1) := by decide +kernel
theorem dX5_personNamed_24 : decode cX5_personNamed 24 = .ok (.ifCond .ne 5, 3) := by decide +kernel
theorem dX5_personNamed_27 : decode cX5_personNamed 27 = .ok (.iload_n 3, 1) := by decide +kernel
theorem dX5_personNamed_28 : decode cX5_personNamed 28 = .ok (.ireturn, 1) := by decide +kernel
theorem dX5_personNamed_29 : decode cX5_personNamed 29 = .ok (.iinc 3 1, 3) := by decide +kernel
theorem dX5_personNamed_32 : decode cX5_personNamed 32 = .ok (.goto (-30), 3) := by decide +kernel
theorem dX5_personNamed_35 : decode cX5_personNamed 35 = .ok (.iconst (-1), 1) := by decide +kernel
theorem dX5_personNamed_36 : decode cX5_personNamed 36 = .ok (.ireturn, 1) := by decide +kernel
theorem dX5_spotFrom_0 : decode cX5_spotFrom 0 = .ok (.iload_n 1, 1) := by decide +kernel
theorem dX5_spotFrom_1 : decode cX5_spotFrom 1 = .ok (.ifCond .lt 18, 3) := by decide +kernel
theorem dX5_spotFrom_4 : decode cX5_spotFrom 4 = .ok (.iload_n 1, 1) := by decide +kernel
theorem dX5_spotFrom_5 : decode cX5_spotFrom 5 = .ok (.bipush 64, 2) := by decide +kernel
theorem dX5_spotFrom_7 : decode cX5_spotFrom 7 = .ok (.if_icmp .ge 12, 3) := by decide +kernel
theorem dX5_spotFrom_10 : decode cX5_spotFrom 10 = .ok (.iload_n 2, 1) := by decide +kernel
theorem dX5_spotFrom_11 : decode cX5_spotFrom 11 = .ok (.ifCond .lt 8, 3) := by decide +kernel
theorem dX5_spotFrom_14 : decode cX5_spotFrom 14 = .ok (.iload_n 2, 1) := by decide +kernel
theorem dX5_spotFrom_15 : decode cX5_spotFrom 15 = .ok (.iconst 4, 1) := by decide +kernel
theorem dX5_spotFrom_16 : decode cX5_spotFrom 16 = .ok (.if_icmp .lt 5, 3) := by decide +kernel
theorem dX5_spotFrom_19 : decode cX5_spotFrom 19 = .ok (.iconst (-1), 1) := by decide +kernel
theorem dX5_spotFrom_20 : decode cX5_spotFrom 20 = .ok (.ireturn, 1) := by decide +kernel
theorem dX5_spotFrom_21 : decode cX5_spotFrom 21 = .ok (.iload_n 1, 1) := by decide +kernel
theorem dX5_spotFrom_22 : decode cX5_spotFrom 22 = .ok (.bipush 8, 2) := by decide +kernel
theorem dX5_spotFrom_24 : decode cX5_spotFrom 24 = .ok (.irem, 1) := by decide +kernel
theorem dX5_spotFrom_25 : decode cX5_spotFrom 25 = .ok (.iload_n 3, 1) := by decide +kernel
theorem dX5_spotFrom_26 : decode cX5_spotFrom 26 = .ok (.getstatic 55, 3) := by decide +kernel
theorem dX5_spotFrom_29 : decode cX5_spotFrom 29 = .ok (.iload_n 2, 1) := by decide +kernel
theorem dX5_spotFrom_30 : decode cX5_spotFrom 30 = .ok (.iaload, 1) := by decide +kernel
theorem dX5_spotFrom_31 : decode cX5_spotFrom 31 = .ok (.imul, 1) := by decide +kernel
theorem dX5_spotFrom_32 : decode cX5_spotFrom 32 = .ok (.iadd, 1) := by decide +kernel
theorem dX5_spotFrom_33 : decode cX5_spotFrom 33 = .ok (.istore 4, 2) := by decide +kernel
theorem dX5_spotFrom_35 : decode cX5_spotFrom 35 = .ok (.iload_n 1, 1) := by decide +kernel
theorem dX5_spotFrom_36 : decode cX5_spotFrom 36 = .ok (.bipush 8, 2) := by decide +kernel
theorem dX5_spotFrom_38 : decode cX5_spotFrom 38 = .ok (.idiv, 1) := by decide +kernel
theorem dX5_spotFrom_39 : decode cX5_spotFrom 39 = .ok (.iload_n 3, 1) := by decide +kernel
theorem dX5_spotFrom_40 : decode cX5_spotFrom 40 = .ok (.getstatic 58, 3) := by decide +kernel
theorem dX5_spotFrom_43 : decode cX5_spotFrom 43 = .ok (.iload_n 2, 1) := by decide +kernel
theorem dX5_spotFrom_44 : decode cX5_spotFrom 44 = .ok (.iaload, 1) := by decide +kernel
theorem dX5_spotFrom_45 : decode cX5_spotFrom 45 = .ok (.imul, 1) := by decide +kernel
theorem dX5_spotFrom_46 : decode cX5_spotFrom 46 = .ok (.iadd, 1) := by decide +kernel
theorem dX5_spotFrom_47 : decode cX5_spotFrom 47 = .ok (.istore 5, 2) := by decide +kernel
theorem dX5_spotFrom_49 : decode cX5_spotFrom 49 = .ok (.iload 4, 2) := by decide +kernel
theorem dX5_spotFrom_51 : decode cX5_spotFrom 51 = .ok (.ifCond .lt 37, 3) := by decide +kernel
theorem dX5_spotFrom_54 : decode cX5_spotFrom 54 = .ok (.iload 4, 2) := by decide +kernel
theorem dX5_spotFrom_56 : decode cX5_spotFrom 56 = .ok (.aload_n 0, 1) := by decide +kernel
theorem dX5_spotFrom_57 : decode cX5_spotFrom 57 = .ok (.getfield 11, 3) := by decide +kernel
theorem dX5_spotFrom_60 : decode cX5_spotFrom 60 = .ok (.if_icmp .ge 28, 3) := by decide +kernel
theorem dX5_spotFrom_63 : decode cX5_spotFrom 63 = .ok (.iload 5, 2) := by decide +kernel
theorem dX5_spotFrom_65 : decode cX5_spotFrom 65 = .ok (.ifCond .lt 23, 3) := by decide +kernel
theorem dX5_spotFrom_68 : decode cX5_spotFrom 68 = .ok (.iload 5, 2) := by decide +kernel
theorem dX5_spotFrom_70 : decode cX5_spotFrom 70 = .ok (.aload_n 0, 1) := by decide +kernel
theorem dX5_spotFrom_71 : decode cX5_spotFrom 71 = .ok (.getfield 15, 3) := by decide +kernel
theorem dX5_spotFrom_74 : decode cX5_spotFrom 74 = .ok (.if_icmp .ge 14, 3) := by decide +kernel
theorem dX5_spotFrom_77 : decode cX5_spotFrom 77 = .ok (.bipush 8, 2) := by decide +kernel
theorem dX5_spotFrom_79 : decode cX5_spotFrom 79 = .ok (.iload 5, 2) := by decide +kernel
theorem dX5_spotFrom_81 : decode cX5_spotFrom 81 = .ok (.imul, 1) := by decide +kernel
theorem dX5_spotFrom_82 : decode cX5_spotFrom 82 = .ok (.iload 4, 2) := by decide +kernel
theorem dX5_spotFrom_84 : decode cX5_spotFrom 84 = .ok (.iadd, 1) := by decide +kernel
theorem dX5_spotFrom_85 : decode cX5_spotFrom 85 = .ok (.goto 4, 3) := by decide +kernel
theorem dX5_spotFrom_88 : decode cX5_spotFrom 88 = .ok (.iconst (-1), 1) := by decide +kernel
theorem dX5_spotFrom_89 : decode cX5_spotFrom 89 = .ok (.ireturn, 1) := by decide +kernel
theorem dX5_stepsAlong_0 : decode cX5_stepsAlong 0 = .ok (.aload_n 0, 1) := by decide +kernel
theorem dX5_stepsAlong_1 : decode cX5_stepsAlong 1 = .ok (.iload_n 1, 1) := by decide +kernel
theorem dX5_stepsAlong_2 : decode cX5_stepsAlong 2 = .ok (.iload_n 2, 1) := by decide +kernel
theorem dX5_stepsAlong_3 : decode cX5_stepsAlong 3 = .ok (.invokevirtual 61, 3) := by decide +kernel
theorem dX5_stepsAlong_6 : decode cX5_stepsAlong 6 = .ok (.ifCond .ne 5, 3) := by decide +kernel
theorem dX5_stepsAlong_9 : decode cX5_stepsAlong 9 = .ok (.iconst 0, 1) := by decide +kernel
theorem dX5_stepsAlong_10 : decode cX5_stepsAlong 10 = .ok (.ireturn, 1) := by decide +kernel
theorem dX5_stepsAlong_11 : decode cX5_stepsAlong 11 = .ok (.aload_n 0, 1) := by decide +kernel
theorem dX5_stepsAlong_12 : decode cX5_stepsAlong 12 = .ok (.getfield 41, 3) := by decide +kernel
theorem dX5_stepsAlong_15 : decode cX5_stepsAlong 15 = .ok (.iload_n 2, 1) := by decide +kernel
theorem dX5_stepsAlong_16 : decode cX5_stepsAlong 16 = .ok (.iaload, 1) := by decide +kernel
theorem dX5_stepsAlong_17 : decode cX5_stepsAlong 17 = .ok (.istore 4, 2) := by decide +kernel
theorem dX5_stepsAlong_19 : decode cX5_stepsAlong 19 = .ok (.iload 4, 2) := by decide +kernel
theorem dX5_stepsAlong_21 : decode cX5_stepsAlong 21 = .ok (.ifCond .lt 9, 3) := by decide +kernel
theorem dX5_stepsAlong_24 : decode cX5_stepsAlong 24 = .ok (.iload 4, 2) := by decide +kernel
theorem dX5_stepsAlong_26 : decode cX5_stepsAlong 26 = .ok (.iconst 4, 1) := by decide +kernel
theorem dX5_stepsAlong_27 : decode cX5_stepsAlong 27 = .ok (.if_icmp .lt 5, 3) := by decide +kernel
theorem dX5_stepsAlong_30 : decode cX5_stepsAlong 30 = .ok (.iconst 0, 1) := by decide +kernel
theorem dX5_stepsAlong_31 : decode cX5_stepsAlong 31 = .ok (.ireturn, 1) := by decide +kernel
theorem dX5_stepsAlong_32 : decode cX5_stepsAlong 32 = .ok (.iload_n 3, 1) := by decide +kernel
theorem dX5_stepsAlong_33 : decode cX5_stepsAlong 33 = .ok (.bipush 8, 2) := by decide +kernel
theorem dX5_stepsAlong_35 : decode cX5_stepsAlong 35 = .ok (.irem, 1) := by decide +kernel
theorem dX5_stepsAlong_36 : decode cX5_stepsAlong 36 = .ok (.aload_n 0, 1) := by decide +kernel
theorem dX5_stepsAlong_37 : decode cX5_stepsAlong 37 = .ok (.getfield 27, 3) := by decide +kernel
theorem dX5_stepsAlong_40 : decode cX5_stepsAlong 40 = .ok (.iload_n 1, 1) := by decide +kernel
theorem dX5_stepsAlong_41 : decode cX5_stepsAlong 41 = .ok (.iaload, 1) := by decide +kernel
theorem dX5_stepsAlong_42 : decode cX5_stepsAlong 42 = .ok (.bipush 8, 2) := by decide +kernel
theorem dX5_stepsAlong_44 : decode cX5_stepsAlong 44 = .ok (.irem, 1) := by decide +kernel
theorem dX5_stepsAlong_45 : decode cX5_stepsAlong 45 = .ok (.isub, 1) := by decide +kernel
theorem dX5_stepsAlong_46 : decode cX5_stepsAlong 46 = .ok (.istore 5, 2) := by decide +kernel
theorem dX5_stepsAlong_48 : decode cX5_stepsAlong 48 = .ok (.iload_n 3, 1) := by decide +kernel
theorem dX5_stepsAlong_49 : decode cX5_stepsAlong 49 = .ok (.bipush 8, 2) := by decide +kernel
theorem dX5_stepsAlong_51 : decode cX5_stepsAlong 51 = .ok (.idiv, 1) := by decide +kernel
theorem dX5_stepsAlong_52 : decode cX5_stepsAlong 52 = .ok (.aload_n 0, 1) := by decide +kernel
theorem dX5_stepsAlong_53 : decode cX5_stepsAlong 53 = .ok (.getfield 27, 3) := by decide +kernel
theorem dX5_stepsAlong_56 : decode cX5_stepsAlong 56 = .ok (.iload_n 1, 1) := by decide +kernel
theorem dX5_stepsAlong_57 : decode cX5_stepsAlong 57 = .ok (.iaload, 1) := by decide +kernel
theorem dX5_stepsAlong_58 : decode cX5_stepsAlong 58 = .ok (.bipush 8, 2) := by decide +kernel
theorem dX5_stepsAlong_60 : decode cX5_stepsAlong 60 = .ok (.idiv, 1) := by decide +kernel
theorem dX5_stepsAlong_61 : decode cX5_stepsAlong 61 = .ok (.isub, 1) := by decide +kernel
theorem dX5_stepsAlong_62 : decode cX5_stepsAlong 62 = .ok (.istore 6, 2) := by decide +kernel
theorem dX5_stepsAlong_64 : decode cX5_stepsAlong 64 = .ok (.iload 5, 2) := by decide +kernel
theorem dX5_stepsAlong_66 : decode cX5_stepsAlong 66 = .ok (.getstatic 58, 3) := by decide +kernel
theorem dX5_stepsAlong_69 : decode cX5_stepsAlong 69 = .ok (.iload 4, 2) := by decide +kernel
theorem dX5_stepsAlong_71 : decode cX5_stepsAlong 71 = .ok (.iaload, 1) := by decide +kernel
theorem dX5_stepsAlong_72 : decode cX5_stepsAlong 72 = .ok (.imul, 1) := by decide +kernel
theorem dX5_stepsAlong_73 : decode cX5_stepsAlong 73 = .ok (.iload 6, 2) := by decide +kernel
theorem dX5_stepsAlong_75 : decode cX5_stepsAlong 75 = .ok (.getstatic 55, 3) := by decide +kernel
theorem dX5_stepsAlong_78 : decode cX5_stepsAlong 78 = .ok (.iload 4, 2) := by decide +kernel
theorem dX5_stepsAlong_80 : decode cX5_stepsAlong 80 = .ok (.iaload, 1) := by decide +kernel
theorem dX5_stepsAlong_81 : decode cX5_stepsAlong 81 = .ok (.imul, 1) := by decide +kernel
theorem dX5_stepsAlong_82 : decode cX5_stepsAlong 82 = .ok (.iadd, 1) := by decide +kernel
theorem dX5_stepsAlong_83 : decode cX5_stepsAlong 83 = .ok (.istore 7, 2) := by decide +kernel
theorem dX5_stepsAlong_85 : decode cX5_stepsAlong 85 = .ok (.iload 7, 2) := by decide +kernel
theorem dX5_stepsAlong_87 : decode cX5_stepsAlong 87 = .ok (.ifCond .ne 25, 3) := by decide +kernel
theorem dX5_stepsAlong_90 : decode cX5_stepsAlong 90 = .ok (.iload 5, 2) := by decide +kernel
theorem dX5_stepsAlong_92 : decode cX5_stepsAlong 92 = .ok (.getstatic 55, 3) := by decide +kernel
theorem dX5_stepsAlong_95 : decode cX5_stepsAlong 95 = .ok (.iload 4, 2) := by decide +kernel
theorem dX5_stepsAlong_97 : decode cX5_stepsAlong 97 = .ok (.iaload, 1) := by decide +kernel
theorem dX5_stepsAlong_98 : decode cX5_stepsAlong 98 = .ok (.imul, 1) := by decide +kernel
theorem dX5_stepsAlong_99 : decode cX5_stepsAlong 99 = .ok (.iload 6, 2) := by decide +kernel
theorem dX5_stepsAlong_101 : decode cX5_stepsAlong 101 = .ok (.getstatic 58, 3) := by decide +kernel
theorem dX5_stepsAlong_104 : decode cX5_stepsAlong 104 = .ok (.iload 4, 2) := by decide +kernel
theorem dX5_stepsAlong_106 : decode cX5_stepsAlong 106 = .ok (.iaload, 1) := by decide +kernel
theorem dX5_stepsAlong_107 : decode cX5_stepsAlong 107 = .ok (.imul, 1) := by decide +kernel
theorem dX5_stepsAlong_108 : decode cX5_stepsAlong 108 = .ok (.iadd, 1) := by decide +kernel
theorem dX5_stepsAlong_109 : decode cX5_stepsAlong 109 = .ok (.goto 4, 3) := by decide +kernel
theorem dX5_stepsAlong_112 : decode cX5_stepsAlong 112 = .ok (.iconst 0, 1) := by decide +kernel
theorem dX5_stepsAlong_113 : decode cX5_stepsAlong 113 = .ok (.ireturn, 1) := by decide +kernel
theorem dX6_addNumber_0 : decode cX6_addNumber 0 = .ok (.bipush 24, 2) := by decide +kernel
theorem dX6_addNumber_2 : decode cX6_addNumber 2 = .ok (.istore_n 2, 1) := by decide +kernel
theorem dX6_addNumber_3 : decode cX6_addNumber 3 = .ok (.iload_n 2, 1) := by decide +kernel
theorem dX6_addNumber_4 : decode cX6_addNumber 4 = .ok (.ifCond .lt 47, 3) := by decide +kernel
theorem dX6_addNumber_7 : decode cX6_addNumber 7 = .ok (.aload_n 0, 1) := by decide +kernel
theorem dX6_addNumber_8 : decode cX6_addNumber 8 = .ok (.getfield 19, 3) := by decide +kernel
theorem dX6_addNumber_11 : decode cX6_addNumber 11 = .ok (.aload_n 0, 1) := by decide +kernel
theorem dX6_addNumber_12 : decode cX6_addNumber 12 = .ok (.getfield 11, 3) := by decide +kernel
theorem dX6_addNumber_15 : decode cX6_addNumber 15 = .ok (.arraylength, 1) := by decide +kernel
theorem dX6_addNumber_16 : decode cX6_addNumber 16 = .ok (.if_icmp .ge 29, 3) := by decide +kernel
theorem dX6_addNumber_19 : decode cX6_addNumber 19 = .ok (.aload_n 0, 1) := by decide +kernel
theorem dX6_addNumber_20 : decode cX6_addNumber 20 = .ok (.getfield 11, 3) := by decide +kernel
theorem dX6_addNumber_23 : decode cX6_addNumber 23 = .ok (.aload_n 0, 1) := by decide +kernel
theorem dX6_addNumber_24 : decode cX6_addNumber 24 = .ok (.getfield 19, 3) := by decide +kernel
theorem dX6_addNumber_27 : decode cX6_addNumber 27 = .ok (.iload_n 1, 1) := by decide +kernel
theorem dX6_addNumber_28 : decode cX6_addNumber 28 = .ok (.iload_n 2, 1) := by decide +kernel
theorem dX6_addNumber_29 : decode cX6_addNumber 29 = .ok (.iushr, 1) := by decide +kernel
theorem dX6_addNumber_30 : decode cX6_addNumber 30 = .ok (.sipush 255, 3) := by decide +kernel
theorem dX6_addNumber_33 : decode cX6_addNumber 33 = .ok (.iand, 1) := by decide +kernel
theorem dX6_addNumber_34 : decode cX6_addNumber 34 = .ok (.iastore, 1) := by decide +kernel
theorem dX6_addNumber_35 : decode cX6_addNumber 35 = .ok (.aload_n 0, 1) := by decide +kernel
theorem dX6_addNumber_36 : decode cX6_addNumber 36 = .ok (.dup, 1) := by decide +kernel
theorem dX6_addNumber_37 : decode cX6_addNumber 37 = .ok (.getfield 19, 3) := by decide +kernel
theorem dX6_addNumber_40 : decode cX6_addNumber 40 = .ok (.iconst 1, 1) := by decide +kernel
theorem dX6_addNumber_41 : decode cX6_addNumber 41 = .ok (.iadd, 1) := by decide +kernel
theorem dX6_addNumber_42 : decode cX6_addNumber 42 = .ok (.putfield 19, 3) := by decide +kernel
theorem dX6_addNumber_45 : decode cX6_addNumber 45 = .ok (.iinc 2 (-8), 3) := by decide +kernel
theorem dX6_addNumber_48 : decode cX6_addNumber 48 = .ok (.goto (-45), 3) := by decide +kernel
theorem dX6_addNumber_51 : decode cX6_addNumber 51 = .ok (.return_, 1) := by decide +kernel
theorem dX6_beginText_0 : decode cX6_beginText 0 = .ok (.aload_n 0, 1) := by decide +kernel
theorem dX6_beginText_1 : decode cX6_beginText 1 = .ok (.iload_n 1, 1) := by decide +kernel
theorem dX6_beginText_2 : decode cX6_beginText 2 = .ok (.putfield 23, 3) := by decide +kernel
theorem dX6_beginText_5 : decode cX6_beginText 5 = .ok (.aload_n 0, 1) := by decide +kernel
theorem dX6_beginText_6 : decode cX6_beginText 6 = .ok (.iconst 0, 1) := by decide +kernel
theorem dX6_beginText_7 : decode cX6_beginText 7 = .ok (.putfield 26, 3) := by decide +kernel
theorem dX6_beginText_10 : decode cX6_beginText 10 = .ok (.aload_n 0, 1) := by decide +kernel
theorem dX6_beginText_11 : decode cX6_beginText 11 = .ok (.iconst 0, 1) := by decide +kernel
theorem dX6_beginText_12 : decode cX6_beginText 12 = .ok (.putfield 42, 3) := by decide +kernel
theorem dX6_beginText_15 : decode cX6_beginText 15 = .ok (.aload_n 0, 1) := by decide +kernel
theorem dX6_beginText_16 : decode cX6_beginText 16 = .ok (.iconst 0, 1) := by decide +kernel
theorem dX6_beginText_17 : decode cX6_beginText 17 = .ok (.putfield 45, 3) := by decide +kernel
theorem dX6_beginText_20 : decode cX6_beginText 20 = .ok (.return_, 1) := by decide +kernel
theorem dX6_byteOn_0 : decode cX6_byteOn 0 = .ok (.iload_n 1, 1) := by decide +kernel
theorem dX6_byteOn_1 : decode cX6_byteOn 1 = .ok (.ifCond .lt 29, 3) := by decide +kernel
theorem dX6_byteOn_4 : decode cX6_byteOn 4 = .ok (.iload_n 1, 1) := by decide +kernel
theorem dX6_byteOn_5 : decode cX6_byteOn 5 = .ok (.aload_n 0, 1) := by decide +kernel
theorem dX6_byteOn_6 : decode cX6_byteOn 6 = .ok (.getfield 19, 3) := by decide +kernel
theorem dX6_byteOn_9 : decode cX6_byteOn 9 = .ok (.if_icmp .ge 21, 3) := by decide +kernel
theorem dX6_byteOn_12 : decode cX6_byteOn 12 = .ok (.iload_n 1, 1) := by decide +kernel
theorem dX6_byteOn_13 : decode cX6_byteOn 13 = .ok (.aload_n 0, 1) := by decide +kernel
theorem dX6_byteOn_14 : decode cX6_byteOn 14 = .ok (.getfield 11, 3) := by decide +kernel
theorem dX6_byteOn_17 : decode cX6_byteOn 17 = .ok (.arraylength, 1) := by decide +kernel
theorem dX6_byteOn_18 : decode cX6_byteOn 18 = .ok (.if_icmp .ge 12, 3) := by decide +kernel
theorem dX6_byteOn_21 : decode cX6_byteOn 21 = .ok (.aload_n 0, 1) := by decide +kernel
theorem dX6_byteOn_22 : decode cX6_byteOn 22 = .ok (.getfield 11, 3) := by decide +kernel
theorem dX6_byteOn_25 : decode cX6_byteOn 25 = .ok (.iload_n 1, 1) := by decide +kernel
theorem dX6_byteOn_26 : decode cX6_byteOn 26 = .ok (.iaload, 1) := by decide +kernel
theorem dX6_byteOn_27 : decode cX6_byteOn 27 = .ok (.goto 4, 3) := by decide +kernel
theorem dX6_byteOn_30 : decode cX6_byteOn 30 = .ok (.iconst 0, 1) := by decide +kernel
theorem dX6_byteOn_31 : decode cX6_byteOn 31 = .ok (.ireturn, 1) := by decide +kernel
theorem dX6_fail_0 : decode cX6_fail 0 = .ok (.aload_n 0, 1) := by decide +kernel
theorem dX6_fail_1 : decode cX6_fail 1 = .ok (.getfield 42, 3) := by decide +kernel
theorem dX6_fail_4 : decode cX6_fail 4 = .ok (.ifCond .ne 16, 3) := by decide +kernel
theorem dX6_fail_7 : decode cX6_fail 7 = .ok (.aload_n 0, 1) := by decide +kernel
theorem dX6_fail_8 : decode cX6_fail 8 = .ok (.iload_n 1, 1) := by decide +kernel
theorem dX6_fail_9 : decode cX6_fail 9 = .ok (.putfield 42, 3) := by decide +kernel
theorem dX6_fail_12 : decode cX6_fail 12 = .ok (.aload_n 0, 1) := by decide +kernel
theorem dX6_fail_13 : decode cX6_fail 13 = .ok (.aload_n 0, 1) := by decide +kernel
theorem dX6_fail_14 : decode cX6_fail 14 = .ok (.getfield 29, 3) := by decide +kernel
theorem dX6_fail_17 : decode cX6_fail 17 = .ok (.putfield 45, 3) := by decide +kernel
theorem dX6_fail_20 : decode cX6_fail 20 = .ok (.iconst 0, 1) := by decide +kernel
theorem dX6_fail_21 : decode cX6_fail 21 = .ok (.ireturn, 1) := by decide +kernel
theorem dX6_hasRoom_0 : decode cX6_hasRoom 0 = .ok (.aload_n 0, 1) := by decide +kernel
theorem dX6_hasRoom_1 : decode cX6_hasRoom 1 = .ok (.getfield 19, 3) := by decide +kernel
theorem dX6_hasRoom_4 : decode cX6_hasRoom 4 = .ok (.iload_n 1, 1) := by decide +kernel
theorem dX6_hasRoom_5 : decode cX6_hasRoom 5 = .ok (.iadd, 1) := by decide +kernel
theorem dX6_hasRoom_6 : decode cX6_hasRoom 6 = .ok (.sipush 940, 3) := by decide +kernel
theorem dX6_hasRoom_9 : decode cX6_hasRoom 9 = .ok (.if_icmp .gt 7, 3) := by decide +kernel
theorem dX6_hasRoom_12 : decode cX6_hasRoom 12 = .ok (.iconst 1, 1) := by decide +kernel
theorem dX6_hasRoom_13 : decode cX6_hasRoom 13 = .ok (.goto 4, 3) := by decide +kernel
theorem dX6_hasRoom_16 : decode cX6_hasRoom 16 = .ok (.iconst 0, 1) := by decide +kernel
theorem dX6_hasRoom_17 : decode cX6_hasRoom 17 = .ok (.ireturn, 1) := by decide +kernel
theorem dX6_isSign_0 : decode cX6_isSign 0 = .ok (.aload_n 0, 1) := by decide +kernel
theorem dX6_isSign_1 : decode cX6_isSign 1 = .ok (.getfield 32, 3) := by decide +kernel
theorem dX6_isSign_4 : decode cX6_isSign 4 = .ok (.iconst 3, 1) := by decide +kernel
theorem dX6_isSign_5 : decode cX6_isSign 5 = .ok (.if_icmp .ne 17, 3) := by decide +kernel
theorem dX6_isSign_8 : decode cX6_isSign 8 = .ok (.aload_n 0, 1) := by decide +kernel
theorem dX6_isSign_9 : decode cX6_isSign 9 = .ok (.getfield 35, 3) := by decide +kernel
theorem dX6_isSign_12 : decode cX6_isSign 12 = .ok (.iload_n 1, 1) := by decide +kernel
theorem dX6_isSign_13 : decode cX6_isSign 13 = .ok (.i2l, 1) := by decide +kernel
theorem dX6_isSign_14 : decode cX6_isSign 14 = .ok (.lcmp, 1) := by decide +kernel
theorem dX6_isSign_15 : decode cX6_isSign 15 = .ok (.ifCond .ne 7, 3) := by decide +kernel
theorem dX6_isSign_18 : decode cX6_isSign 18 = .ok (.iconst 1, 1) := by decide +kernel
theorem dX6_isSign_19 : decode cX6_isSign 19 = .ok (.goto 4, 3) := by decide +kernel
theorem dX6_isSign_22 : decode cX6_isSign 22 = .ok (.iconst 0, 1) := by decide +kernel
theorem dX6_isSign_23 : decode cX6_isSign 23 = .ok (.ireturn, 1) := by decide +kernel
theorem dX6_readRun_0 : decode cX6_readRun 0 = .ok (.iconst 0, 1) := by decide +kernel
theorem dX6_readRun_1 : decode cX6_readRun 1 = .ok (.istore_n 1, 1) := by decide +kernel
theorem dX6_readRun_2 : decode cX6_readRun 2 = .ok (.iconst 0, 1) := by decide +kernel
theorem dX6_readRun_3 : decode cX6_readRun 3 = .ok (.istore_n 2, 1) := by decide +kernel
theorem dX6_readRun_4 : decode cX6_readRun 4 = .ok (.lconst 0, 1) := by decide +kernel
theorem dX6_readRun_5 : decode cX6_readRun 5 = .ok (.lstore_n 3, 1) := by decide +kernel
theorem dX6_readRun_6 : decode cX6_readRun 6 = .ok (.iconst 0, 1) := by decide +kernel
theorem dX6_readRun_7 : decode cX6_readRun 7 = .ok (.istore 5, 2) := by decide +kernel
theorem dX6_readRun_9 : decode cX6_readRun 9 = .ok (.aload_n 0, 1) := by decide +kernel
theorem dX6_readRun_10 : decode cX6_readRun 10 = .ok (.getfield 26, 3) := by decide +kernel
theorem dX6_readRun_13 : decode cX6_readRun 13 = .ok (.aload_n 0, 1) := by decide +kernel
theorem dX6_readRun_14 : decode cX6_readRun 14 = .ok (.getfield 19, 3) := by decide +kernel
theorem dX6_readRun_17 : decode cX6_readRun 17 = .ok (.if_icmp .ge 104, 3) := by decide +kernel
theorem dX6_readRun_20 : decode cX6_readRun 20 = .ok (.aload_n 0, 1) := by decide +kernel
theorem dX6_readRun_21 : decode cX6_readRun 21 = .ok (.getfield 26, 3) := by decide +kernel
theorem dX6_readRun_24 : decode cX6_readRun 24 = .ok (.aload_n 0, 1) := by decide +kernel
theorem dX6_readRun_25 : decode cX6_readRun 25 = .ok (.getfield 11, 3) := by decide +kernel
theorem dX6_readRun_28 : decode cX6_readRun 28 = .ok (.arraylength, 1) := by decide +kernel
theorem dX6_readRun_29 : decode cX6_readRun 29 = .ok (.if_icmp .ge 92, 3) := by decide +kernel
theorem dX6_readRun_32 : decode cX6_readRun 32 = .ok (.aload_n 0, 1) := by decide +kernel
theorem dX6_readRun_33 : decode cX6_readRun 33 = .ok (.getfield 11, 3) := by decide +kernel
theorem dX6_readRun_36 : decode cX6_readRun 36 = .ok (.aload_n 0, 1) := by decide +kernel
theorem dX6_readRun_37 : decode cX6_readRun 37 = .ok (.getfield 26, 3) := by decide +kernel
theorem dX6_readRun_40 : decode cX6_readRun 40 = .ok (.iaload, 1) := by decide +kernel
theorem dX6_readRun_41 : decode cX6_readRun 41 = .ok (.istore 6, 2) := by decide +kernel
theorem dX6_readRun_43 : decode cX6_readRun 43 = .ok (.iload 6, 2) := by decide +kernel
theorem dX6_readRun_45 : decode cX6_readRun 45 = .ok (.bipush 97, 2) := by decide +kernel
theorem dX6_readRun_47 : decode cX6_readRun 47 = .ok (.if_icmp .lt 31, 3) := by decide +kernel
theorem dX6_readRun_50 : decode cX6_readRun 50 = .ok (.iload 6, 2) := by decide +kernel
theorem dX6_readRun_52 : decode cX6_readRun 52 = .ok (.bipush 122, 2) := by decide +kernel
theorem dX6_readRun_54 : decode cX6_readRun 54 = .ok (.if_icmp .gt 24, 3) := by decide +kernel
theorem dX6_readRun_57 : decode cX6_readRun 57 = .ok (.iinc 1 1, 3) := by decide +kernel
theorem dX6_readRun_60 : decode cX6_readRun 60 = .ok (.lload_n 3, 1) := by decide +kernel
theorem dX6_readRun_61 : decode cX6_readRun 61 = .ok (.ldc2_w 68, 3) := by decide +kernel
theorem dX6_readRun_64 : decode cX6_readRun 64 = .ok (.lmul, 1) := by decide +kernel
theorem dX6_readRun_65 : decode cX6_readRun 65 = .ok (.iload 6, 2) := by decide +kernel
theorem dX6_readRun_67 : decode cX6_readRun 67 = .ok (.bipush 97, 2) := by decide +kernel
theorem dX6_readRun_69 : decode cX6_readRun 69 = .ok (.isub, 1) := by decide +kernel
theorem dX6_readRun_70 : decode cX6_readRun 70 = .ok (.iconst 1, 1) := by decide +kernel
theorem dX6_readRun_71 : decode cX6_readRun 71 = .ok (.iadd, 1) := by decide +kernel
theorem dX6_readRun_72 : decode cX6_readRun 72 = .ok (.i2l, 1) := by decide +kernel
theorem dX6_readRun_73 : decode cX6_readRun 73 = .ok (.ladd, 1) := by decide +kernel
theorem dX6_readRun_74 : decode cX6_readRun 74 = .ok (.lstore_n 3, 1) := by decide +kernel
theorem dX6_readRun_75 : decode cX6_readRun 75 = .ok (.goto 33, 3) := by decide +kernel
theorem dX6_readRun_78 : decode cX6_readRun 78 = .ok (.iload 6, 2) := by decide +kernel
theorem dX6_readRun_80 : decode cX6_readRun 80 = .ok (.bipush 48, 2) := by decide +kernel
theorem dX6_readRun_82 : decode cX6_readRun 82 = .ok (.if_icmp .lt 39, 3) := by decide +kernel
theorem dX6_readRun_85 : decode cX6_readRun 85 = .ok (.iload 6, 2) := by decide +kernel
theorem dX6_readRun_87 : decode cX6_readRun 87 = .ok (.bipush 57, 2) := by decide +kernel
theorem dX6_readRun_89 : decode cX6_readRun 89 = .ok (.if_icmp .gt 32, 3) := by decide +kernel
theorem dX6_readRun_92 : decode cX6_readRun 92 = .ok (.iinc 2 1, 3) := by decide +kernel
theorem dX6_readRun_95 : decode cX6_readRun 95 = .ok (.iload 5, 2) := by decide +kernel
theorem dX6_readRun_97 : decode cX6_readRun 97 = .ok (.bipush 10, 2) := by decide +kernel
theorem dX6_readRun_99 : decode cX6_readRun 99 = .ok (.imul, 1) := by decide +kernel
theorem dX6_readRun_100 : decode cX6_readRun 100 = .ok (.iload 6, 2) := by decide +kernel
theorem dX6_readRun_102 : decode cX6_readRun 102 = .ok (.bipush 48, 2) := by decide +kernel
theorem dX6_readRun_104 : decode cX6_readRun 104 = .ok (.isub, 1) := by decide +kernel
theorem dX6_readRun_105 : decode cX6_readRun 105 = .ok (.iadd, 1) := by decide +kernel
theorem dX6_readRun_106 : decode cX6_readRun 106 = .ok (.istore 5, 2) := by decide +kernel
theorem dX6_readRun_108 : decode cX6_readRun 108 = .ok (.aload_n 0, 1) := by decide +kernel
theorem dX6_readRun_109 : decode cX6_readRun 109 = .ok (.dup, 1) := by decide +kernel
theorem dX6_readRun_110 : decode cX6_readRun 110 = .ok (.getfield 26, 3) := by decide +kernel
theorem dX6_readRun_113 : decode cX6_readRun 113 = .ok (.iconst 1, 1) := by decide +kernel
theorem dX6_readRun_114 : decode cX6_readRun 114 = .ok (.iadd, 1) := by decide +kernel
theorem dX6_readRun_115 : decode cX6_readRun 115 = .ok (.putfield 26, 3) := by decide +kernel
theorem dX6_readRun_118 : decode cX6_readRun 118 = .ok (.goto (-109), 3) := by decide +kernel
theorem dX6_readRun_121 : decode cX6_readRun 121 = .ok (.iload_n 2, 1) := by decide +kernel
theorem dX6_readRun_122 : decode cX6_readRun 122 = .ok (.ifCond .ne 71, 3) := by decide +kernel
theorem dX6_readRun_125 : decode cX6_readRun 125 = .ok (.iload_n 1, 1) := by decide +kernel
theorem dX6_readRun_126 : decode cX6_readRun 126 = .ok (.bipush 7, 2) := by decide +kernel
theorem dX6_readRun_128 : decode cX6_readRun 128 = .ok (.if_icmp .gt 65, 3) := by decide +kernel
theorem dX6_readRun_131 : decode cX6_readRun 131 = .ok (.aload_n 0, 1) := by decide +kernel
theorem dX6_readRun_132 : decode cX6_readRun 132 = .ok (.iconst 1, 1) := by decide +kernel
theorem dX6_readRun_133 : decode cX6_readRun 133 = .ok (.putfield 32, 3) := by decide +kernel
theorem dX6_readRun_136 : decode cX6_readRun 136 = .ok (.aload_n 0, 1) := by decide +kernel
theorem dX6_readRun_137 : decode cX6_readRun 137 = .ok (.lload_n 3, 1) := by decide +kernel
theorem dX6_readRun_138 : decode cX6_readRun 138 = .ok (.putfield 35, 3) := by decide +kernel
theorem dX6_readRun_141 : decode cX6_readRun 141 = .ok (.iconst 0, 1) := by decide +kernel
theorem dX6_readRun_142 : decode cX6_readRun 142 = .ok (.istore 6, 2) := by decide +kernel
theorem dX6_readRun_144 : decode cX6_readRun 144 = .ok (.iload 6, 2) := by decide +kernel
theorem dX6_readRun_146 : decode cX6_readRun 146 = .ok (.aload_n 0, 1) := by decide +kernel
theorem dX6_readRun_147 : decode cX6_readRun 147 = .ok (.getfield 15, 3) := by decide +kernel
theorem dX6_readRun_150 : decode cX6_readRun 150 = .ok (.arraylength, 1) := by decide +kernel
theorem dX6_readRun_151 : decode cX6_readRun 151 = .ok (.if_icmp .ge 39, 3) := by decide +kernel
theorem dX6_readRun_154 : decode cX6_readRun 154 = .ok (.aload_n 0, 1) := by decide +kernel
theorem dX6_readRun_155 : decode cX6_readRun 155 = .ok (.getfield 39, 3) := by decide +kernel
theorem dX6_readRun_158 : decode cX6_readRun 158 = .ok (.iconst (-1), 1) := by decide +kernel
theorem dX6_readRun_159 : decode cX6_readRun 159 = .ok (.if_icmp .ne 31, 3) := by decide +kernel
theorem dX6_readRun_162 : decode cX6_readRun 162 = .ok (.aload_n 0, 1) := by decide +kernel
theorem dX6_readRun_163 : decode cX6_readRun 163 = .ok (.aload_n 0, 1) := by decide +kernel
theorem dX6_readRun_164 : decode cX6_readRun 164 = .ok (.getfield 15, 3) := by decide +kernel
theorem dX6_readRun_167 : decode cX6_readRun 167 = .ok (.iload 6, 2) := by decide +kernel
theorem dX6_readRun_169 : decode cX6_readRun 169 = .ok (.laload, 1) := by decide +kernel
theorem dX6_readRun_170 : decode cX6_readRun 170 = .ok (.lload_n 3, 1) := by decide +kernel
theorem dX6_readRun_171 : decode cX6_readRun 171 = .ok (.lcmp, 1) := by decide +kernel
theorem dX6_readRun_172 : decode cX6_readRun 172 = .ok (.ifCond .ne 8, 3) := by decide +kernel
theorem dX6_readRun_175 : decode cX6_readRun 175 = .ok (.iload 6, 2) := by decide +kernel
theorem dX6_readRun_177 : decode cX6_readRun 177 = .ok (.goto 4, 3) := by decide +kernel
theorem dX6_readRun_180 : decode cX6_readRun 180 = .ok (.iconst (-1), 1) := by decide +kernel
theorem dX6_readRun_181 : decode cX6_readRun 181 = .ok (.putfield 39, 3) := by decide +kernel
theorem dX6_readRun_184 : decode cX6_readRun 184 = .ok (.iinc 6 1, 3) := by decide +kernel
theorem dX6_readRun_187 : decode cX6_readRun 187 = .ok (.goto (-43), 3) := by decide +kernel
theorem dX6_readRun_190 : decode cX6_readRun 190 = .ok (.goto 32, 3) := by decide +kernel
theorem dX6_readRun_193 : decode cX6_readRun 193 = .ok (.iload_n 1, 1) := by decide +kernel
theorem dX6_readRun_194 : decode cX6_readRun 194 = .ok (.ifCond .ne 23, 3) := by decide +kernel
theorem dX6_readRun_197 : decode cX6_readRun 197 = .ok (.iload_n 2, 1) := by decide +kernel
theorem dX6_readRun_198 : decode cX6_readRun 198 = .ok (.iconst 3, 1) := by decide +kernel
theorem dX6_readRun_199 : decode cX6_readRun 199 = .ok (.if_icmp .gt 18, 3) := by decide +kernel
theorem dX6_readRun_202 : decode cX6_readRun 202 = .ok (.aload_n 0, 1) := by decide +kernel
theorem dX6_readRun_203 : decode cX6_readRun 203 = .ok (.iconst 2, 1) := by decide +kernel
theorem dX6_readRun_204 : decode cX6_readRun 204 = .ok (.putfield 32, 3) := by decide +kernel
theorem dX6_readRun_207 : decode cX6_readRun 207 = .ok (.aload_n 0, 1) := by decide +kernel
theorem dX6_readRun_208 : decode cX6_readRun 208 = .ok (.iload 5, 2) := by decide +kernel
theorem dX6_readRun_210 : decode cX6_readRun 210 = .ok (.i2l, 1) := by decide +kernel
theorem dX6_readRun_211 : decode cX6_readRun 211 = .ok (.putfield 35, 3) := by decide +kernel
theorem dX6_readRun_214 : decode cX6_readRun 214 = .ok (.goto 8, 3) := by decide +kernel
theorem dX6_readRun_217 : decode cX6_readRun 217 = .ok (.aload_n 0, 1) := by decide +kernel
theorem dX6_readRun_218 : decode cX6_readRun 218 = .ok (.iconst 4, 1) := by decide +kernel
theorem dX6_readRun_219 : decode cX6_readRun 219 = .ok (.putfield 32, 3) := by decide +kernel
theorem dX6_readRun_222 : decode cX6_readRun 222 = .ok (.return_, 1) := by decide +kernel
theorem dX6_step_0 : decode cX6_step 0 = .ok (.aload_n 0, 1) := by decide +kernel
theorem dX6_step_1 : decode cX6_step 1 = .ok (.getfield 26, 3) := by decide +kernel
theorem dX6_step_4 : decode cX6_step 4 = .ok (.aload_n 0, 1) := by decide +kernel
theorem dX6_step_5 : decode cX6_step 5 = .ok (.getfield 19, 3) := by decide +kernel
theorem dX6_step_8 : decode cX6_step 8 = .ok (.if_icmp .ge 59, 3) := by decide +kernel
theorem dX6_step_11 : decode cX6_step 11 = .ok (.aload_n 0, 1) := by decide +kernel
theorem dX6_step_12 : decode cX6_step 12 = .ok (.getfield 26, 3) := by decide +kernel
theorem dX6_step_15 : decode cX6_step 15 = .ok (.aload_n 0, 1) := by decide +kernel
theorem dX6_step_16 : decode cX6_step 16 = .ok (.getfield 11, 3) := by decide +kernel
theorem dX6_step_19 : decode cX6_step 19 = .ok (.arraylength, 1) := by decide +kernel
theorem dX6_step_20 : decode cX6_step 20 = .ok (.if_icmp .ge 47, 3) := by decide +kernel
theorem dX6_step_23 : decode cX6_step 23 = .ok (.aload_n 0, 1) := by decide +kernel
theorem dX6_step_24 : decode cX6_step 24 = .ok (.getfield 11, 3) := by decide +kernel
theorem dX6_step_27 : decode cX6_step 27 = .ok (.aload_n 0, 1) := by decide +kernel
theorem dX6_step_28 : decode cX6_step 28 = .ok (.getfield 26, 3) := by decide +kernel
theorem dX6_step_31 : decode cX6_step 31 = .ok (.iaload, 1) := by decide +kernel
theorem dX6_step_32 : decode cX6_step 32 = .ok (.bipush 32, 2) := by decide +kernel
theorem dX6_step_34 : decode cX6_step 34 = .ok (.if_icmp .eq 20, 3) := by decide +kernel
theorem dX6_step_37 : decode cX6_step 37 = .ok (.aload_n 0, 1) := by decide +kernel
theorem dX6_step_38 : decode cX6_step 38 = .ok (.getfield 11, 3) := by decide +kernel
theorem dX6_step_41 : decode cX6_step 41 = .ok (.aload_n 0, 1) := by decide +kernel
theorem dX6_step_42 : decode cX6_step 42 = .ok (.getfield 26, 3) := by decide +kernel
theorem dX6_step_45 : decode cX6_step 45 = .ok (.iaload, 1) := by decide +kernel
theorem dX6_step_46 : decode cX6_step 46 = .ok (.bipush 10, 2) := by decide +kernel
theorem dX6_step_48 : decode cX6_step 48 = .ok (.if_icmp .eq 6, 3) := by decide +kernel
theorem dX6_step_51 : decode cX6_step 51 = .ok (.goto 16, 3) := by decide +kernel
theorem dX6_step_54 : decode cX6_step 54 = .ok (.aload_n 0, 1) := by decide +kernel
theorem dX6_step_55 : decode cX6_step 55 = .ok (.dup, 1) := by decide +kernel
theorem dX6_step_56 : decode cX6_step 56 = .ok (.getfield 26, 3) := by decide +kernel
theorem dX6_step_59 : decode cX6_step 59 = .ok (.iconst 1, 1) := by decide +kernel
theorem dX6_step_60 : decode cX6_step 60 = .ok (.iadd, 1) := by decide +kernel
theorem dX6_step_61 : decode cX6_step 61 = .ok (.putfield 26, 3) := by decide +kernel
theorem dX6_step_64 : decode cX6_step 64 = .ok (.goto (-64), 3) := by decide +kernel
theorem dX6_step_67 : decode cX6_step 67 = .ok (.aload_n 0, 1) := by decide +kernel
theorem dX6_step_68 : decode cX6_step 68 = .ok (.aload_n 0, 1) := by decide +kernel
theorem dX6_step_69 : decode cX6_step 69 = .ok (.getfield 26, 3) := by decide +kernel
theorem dX6_step_72 : decode cX6_step 72 = .ok (.putfield 29, 3) := by decide +kernel
theorem dX6_step_75 : decode cX6_step 75 = .ok (.aload_n 0, 1) := by decide +kernel
theorem dX6_step_76 : decode cX6_step 76 = .ok (.lconst 0, 1) := by decide +kernel
theorem dX6_step_77 : decode cX6_step 77 = .ok (.putfield 35, 3) := by decide +kernel
theorem dX6_step_80 : decode cX6_step 80 = .ok (.aload_n 0, 1) := by decide +kernel
theorem dX6_step_81 : decode cX6_step 81 = .ok (.iconst (-1), 1) := by decide +kernel
theorem dX6_step_82 : decode cX6_step 82 = .ok (.putfield 39, 3) := by decide +kernel
theorem dX6_step_85 : decode cX6_step 85 = .ok (.aload_n 0, 1) := by decide +kernel
theorem dX6_step_86 : decode cX6_step 86 = .ok (.getfield 26, 3) := by decide +kernel
theorem dX6_step_89 : decode cX6_step 89 = .ok (.aload_n 0, 1) := by decide +kernel
theorem dX6_step_90 : decode cX6_step 90 = .ok (.getfield 23, 3) := by decide +kernel
theorem dX6_step_93 : decode cX6_step 93 = .ok (.if_icmp .lt 28, 3) := by decide +kernel
theorem dX6_step_96 : decode cX6_step 96 = .ok (.aload_n 0, 1) := by decide +kernel
theorem dX6_step_97 : decode cX6_step 97 = .ok (.getfield 19, 3) := by decide +kernel
theorem dX6_step_100 : decode cX6_step 100 = .ok (.aload_n 0, 1) := by decide +kernel
theorem dX6_step_101 : decode cX6_step 101 = .ok (.getfield 23, 3) := by decide +kernel
theorem dX6_step_104 : decode cX6_step 104 = .ok (.if_icmp .le 17, 3) := by decide +kernel
theorem dX6_step_107 : decode cX6_step 107 = .ok (.aload_n 0, 1) := by decide +kernel
theorem dX6_step_108 : decode cX6_step 108 = .ok (.aload_n 0, 1) := by decide +kernel
theorem dX6_step_109 : decode cX6_step 109 = .ok (.getfield 23, 3) := by decide +kernel
theorem dX6_step_112 : decode cX6_step 112 = .ok (.putfield 29, 3) := by decide +kernel
theorem dX6_step_115 : decode cX6_step 115 = .ok (.aload_n 0, 1) := by decide +kernel
theorem dX6_step_116 : decode cX6_step 116 = .ok (.iconst 4, 1) := by decide +kernel
theorem dX6_step_117 : decode cX6_step 117 = .ok (.putfield 32, 3) := by decide +kernel
theorem dX6_step_120 : decode cX6_step 120 = .ok (.return_, 1) := by decide +kernel
theorem dX6_step_121 : decode cX6_step 121 = .ok (.aload_n 0, 1) := by decide +kernel
theorem dX6_step_122 : decode cX6_step 122 = .ok (.getfield 26, 3) := by decide +kernel
theorem dX6_step_125 : decode cX6_step 125 = .ok (.aload_n 0, 1) := by decide +kernel
theorem dX6_step_126 : decode cX6_step 126 = .ok (.getfield 19, 3) := by decide +kernel
theorem dX6_step_129 : decode cX6_step 129 = .ok (.if_icmp .ge 15, 3) := by decide +kernel
theorem dX6_step_132 : decode cX6_step 132 = .ok (.aload_n 0, 1) := by decide +kernel
theorem dX6_step_133 : decode cX6_step 133 = .ok (.getfield 26, 3) := by decide +kernel
theorem dX6_step_136 : decode cX6_step 136 = .ok (.aload_n 0, 1) := by decide +kernel
theorem dX6_step_137 : decode cX6_step 137 = .ok (.getfield 11, 3) := by decide +kernel
theorem dX6_step_140 : decode cX6_step 140 = .ok (.arraylength, 1) := by decide +kernel
theorem dX6_step_141 : decode cX6_step 141 = .ok (.if_icmp .lt 9, 3) := by decide +kernel
theorem dX6_step_144 : decode cX6_step 144 = .ok (.aload_n 0, 1) := by decide +kernel
theorem dX6_step_145 : decode cX6_step 145 = .ok (.iconst 0, 1) := by decide +kernel
theorem dX6_step_146 : decode cX6_step 146 = .ok (.putfield 32, 3) := by decide +kernel
theorem dX6_step_149 : decode cX6_step 149 = .ok (.return_, 1) := by decide +kernel
theorem dX6_step_150 : decode cX6_step 150 = .ok (.aload_n 0, 1) := by decide +kernel
theorem dX6_step_151 : decode cX6_step 151 = .ok (.getfield 11, 3) := by decide +kernel
theorem dX6_step_154 : decode cX6_step 154 = .ok (.aload_n 0, 1) := by decide +kernel
theorem dX6_step_155 : decode cX6_step 155 = .ok (.getfield 26, 3) := by decide +kernel
theorem dX6_step_158 : decode cX6_step 158 = .ok (.iaload, 1) := by decide +kernel
theorem dX6_step_159 : decode cX6_step 159 = .ok (.istore_n 1, 1) := by decide +kernel
theorem dX6_step_160 : decode cX6_step 160 = .ok (.iload_n 1, 1) := by decide +kernel
theorem dX6_step_161 : decode cX6_step 161 = .ok (.bipush 97, 2) := by decide +kernel
theorem dX6_step_163 : decode cX6_step 163 = .ok (.if_icmp .lt 9, 3) := by decide +kernel
theorem dX6_step_166 : decode cX6_step 166 = .ok (.iload_n 1, 1) := by decide +kernel
theorem dX6_step_167 : decode cX6_step 167 = .ok (.bipush 122, 2) := by decide +kernel
theorem dX6_step_169 : decode cX6_step 169 = .ok (.if_icmp .le 15, 3) := by decide +kernel
theorem dX6_step_172 : decode cX6_step 172 = .ok (.iload_n 1, 1) := by decide +kernel
theorem dX6_step_173 : decode cX6_step 173 = .ok (.bipush 48, 2) := by decide +kernel
theorem dX6_step_175 : decode cX6_step 175 = .ok (.if_icmp .lt 14, 3) := by decide +kernel
theorem dX6_step_178 : decode cX6_step 178 = .ok (.iload_n 1, 1) := by decide +kernel
theorem dX6_step_179 : decode cX6_step 179 = .ok (.bipush 57, 2) := by decide +kernel
theorem dX6_step_181 : decode cX6_step 181 = .ok (.if_icmp .gt 8, 3) := by decide +kernel
theorem dX6_step_184 : decode cX6_step 184 = .ok (.aload_n 0, 1) := by decide +kernel
theorem dX6_step_185 : decode cX6_step 185 = .ok (.invokevirtual 70, 3) := by decide +kernel
theorem dX6_step_188 : decode cX6_step 188 = .ok (.return_, 1) := by decide +kernel
theorem dX6_step_189 : decode cX6_step 189 = .ok (.aload_n 0, 1) := by decide +kernel
theorem dX6_step_190 : decode cX6_step 190 = .ok (.dup, 1) := by decide +kernel
theorem dX6_step_191 : decode cX6_step 191 = .ok (.getfield 26, 3) := by decide +kernel
theorem dX6_step_194 : decode cX6_step 194 = .ok (.iconst 1, 1) := by decide +kernel
theorem dX6_step_195 : decode cX6_step 195 = .ok (.iadd, 1) := by decide +kernel
theorem dX6_step_196 : decode cX6_step 196 = .ok (.putfield 26, 3) := by decide +kernel
theorem dX6_step_199 : decode cX6_step 199 = .ok (.aload_n 0, 1) := by decide +kernel
theorem dX6_step_200 : decode cX6_step 200 = .ok (.iload_n 1, 1) := by decide +kernel
theorem dX6_step_201 : decode cX6_step 201 = .ok (.i2l, 1) := by decide +kernel
theorem dX6_step_202 : decode cX6_step 202 = .ok (.putfield 35, 3) := by decide +kernel
theorem dX6_step_205 : decode cX6_step 205 = .ok (.aload_n 0, 1) := by decide +kernel
theorem dX6_step_206 : decode cX6_step 206 = .ok (.iload_n 1, 1) := by decide +kernel
theorem dX6_step_207 : decode cX6_step 207 = .ok (.bipush 59, 2) := by decide +kernel
theorem dX6_step_209 : decode cX6_step 209 = .ok (.if_icmp .eq 33, 3) := by decide +kernel
theorem dX6_step_212 : decode cX6_step 212 = .ok (.iload_n 1, 1) := by decide +kernel
theorem dX6_step_213 : decode cX6_step 213 = .ok (.bipush 60, 2) := by decide +kernel
theorem dX6_step_215 : decode cX6_step 215 = .ok (.if_icmp .eq 27, 3) := by decide +kernel
theorem dX6_step_218 : decode cX6_step 218 = .ok (.iload_n 1, 1) := by decide +kernel
theorem dX6_step_219 : decode cX6_step 219 = .ok (.bipush 61, 2) := by decide +kernel
theorem dX6_step_221 : decode cX6_step 221 = .ok (.if_icmp .eq 21, 3) := by decide +kernel
theorem dX6_step_224 : decode cX6_step 224 = .ok (.iload_n 1, 1) := by decide +kernel
theorem dX6_step_225 : decode cX6_step 225 = .ok (.bipush 62, 2) := by decide +kernel
theorem dX6_step_227 : decode cX6_step 227 = .ok (.if_icmp .eq 15, 3) := by decide +kernel
theorem dX6_step_230 : decode cX6_step 230 = .ok (.iload_n 1, 1) := by decide +kernel
theorem dX6_step_231 : decode cX6_step 231 = .ok (.bipush 40, 2) := by decide +kernel
theorem dX6_step_233 : decode cX6_step 233 = .ok (.if_icmp .eq 9, 3) := by decide +kernel
theorem dX6_step_236 : decode cX6_step 236 = .ok (.iload_n 1, 1) := by decide +kernel
theorem dX6_step_237 : decode cX6_step 237 = .ok (.bipush 41, 2) := by decide +kernel
theorem dX6_step_239 : decode cX6_step 239 = .ok (.if_icmp .ne 7, 3) := by decide +kernel
theorem dX6_step_242 : decode cX6_step 242 = .ok (.iconst 3, 1) := by decide +kernel
theorem dX6_step_243 : decode cX6_step 243 = .ok (.goto 4, 3) := by decide +kernel
theorem dX6_step_246 : decode cX6_step 246 = .ok (.iconst 4, 1) := by decide +kernel
theorem dX6_step_247 : decode cX6_step 247 = .ok (.putfield 32, 3) := by decide +kernel
theorem dX6_step_250 : decode cX6_step 250 = .ok (.return_, 1) := by decide +kernel
theorem dX6_wantName_0 : decode cX6_wantName 0 = .ok (.aload_n 0, 1) := by decide +kernel
theorem dX6_wantName_1 : decode cX6_wantName 1 = .ok (.invokevirtual 73, 3) := by decide +kernel
theorem dX6_wantName_4 : decode cX6_wantName 4 = .ok (.aload_n 0, 1) := by decide +kernel
theorem dX6_wantName_5 : decode cX6_wantName 5 = .ok (.getfield 32, 3) := by decide +kernel
theorem dX6_wantName_8 : decode cX6_wantName 8 = .ok (.iconst 1, 1) := by decide +kernel
theorem dX6_wantName_9 : decode cX6_wantName 9 = .ok (.if_icmp .ne 11, 3) := by decide +kernel
theorem dX6_wantName_12 : decode cX6_wantName 12 = .ok (.aload_n 0, 1) := by decide +kernel
theorem dX6_wantName_13 : decode cX6_wantName 13 = .ok (.getfield 39, 3) := by decide +kernel
theorem dX6_wantName_16 : decode cX6_wantName 16 = .ok (.iconst (-1), 1) := by decide +kernel
theorem dX6_wantName_17 : decode cX6_wantName 17 = .ok (.if_icmp .eq 11, 3) := by decide +kernel
theorem dX6_wantName_20 : decode cX6_wantName 20 = .ok (.aload_n 0, 1) := by decide +kernel
theorem dX6_wantName_21 : decode cX6_wantName 21 = .ok (.iconst 1, 1) := by decide +kernel
theorem dX6_wantName_22 : decode cX6_wantName 22 = .ok (.invokevirtual 80, 3) := by decide +kernel
theorem dX6_wantName_25 : decode cX6_wantName 25 = .ok (.ifCond .eq 7, 3) := by decide +kernel
theorem dX6_wantName_28 : decode cX6_wantName 28 = .ok (.iconst 1, 1) := by decide +kernel
theorem dX6_wantName_29 : decode cX6_wantName 29 = .ok (.goto 4, 3) := by decide +kernel
theorem dX6_wantName_32 : decode cX6_wantName 32 = .ok (.iconst 0, 1) := by decide +kernel
theorem dX6_wantName_33 : decode cX6_wantName 33 = .ok (.ireturn, 1) := by decide +kernel
theorem dX6_wantNumber_0 : decode cX6_wantNumber 0 = .ok (.aload_n 0, 1) := by decide +kernel
theorem dX6_wantNumber_1 : decode cX6_wantNumber 1 = .ok (.invokevirtual 73, 3) := by decide +kernel
theorem dX6_wantNumber_4 : decode cX6_wantNumber 4 = .ok (.aload_n 0, 1) := by decide +kernel
theorem dX6_wantNumber_5 : decode cX6_wantNumber 5 = .ok (.getfield 32, 3) := by decide +kernel
theorem dX6_wantNumber_8 : decode cX6_wantNumber 8 = .ok (.iconst 2, 1) := by decide +kernel
theorem dX6_wantNumber_9 : decode cX6_wantNumber 9 = .ok (.if_icmp .eq 9, 3) := by decide +kernel
theorem dX6_wantNumber_12 : decode cX6_wantNumber 12 = .ok (.aload_n 0, 1) := by decide +kernel
theorem dX6_wantNumber_13 : decode cX6_wantNumber 13 = .ok (.iconst 1, 1) := by decide +kernel
theorem dX6_wantNumber_14 : decode cX6_wantNumber 14 = .ok (.invokevirtual 80, 3) := by decide +kernel
theorem dX6_wantNumber_17 : decode cX6_wantNumber 17 = .ok (.ireturn, 1) := by decide +kernel
theorem dX6_wantNumber_18 : decode cX6_wantNumber 18 = .ok (.aload_n 0, 1) := by decide +kernel
theorem dX6_wantNumber_19 : decode cX6_wantNumber 19 = .ok (.getfield 35, 3) := by decide +kernel
theorem dX6_wantNumber_22 : decode cX6_wantNumber 22 = .ok (.iload_n 1, 1) := by decide +kernel
theorem dX6_wantNumber_23 : decode cX6_wantNumber 23 = .ok (.i2l, 1) := by decide +kernel
theorem dX6_wantNumber_24 : decode cX6_wantNumber 24 = .ok (.lcmp, 1) := by decide +kernel
theorem dX6_wantNumber_25 : decode cX6_wantNumber 25 = .ok (.ifCond .lt 13, 3) := by decide +kernel
theorem dX6_wantNumber_28 : decode cX6_wantNumber 28 = .ok (.aload_n 0, 1) := by decide +kernel
theorem dX6_wantNumber_29 : decode cX6_wantNumber 29 = .ok (.getfield 35, 3) := by decide +kernel
theorem dX6_wantNumber_32 : decode cX6_wantNumber 32 = .ok (.iload_n 2, 1) := by decide +kernel
theorem dX6_wantNumber_33 : decode cX6_wantNumber 33 = .ok (.i2l, 1) := by decide +kernel
theorem dX6_wantNumber_34 : decode cX6_wantNumber 34 = .ok (.lcmp, 1) := by decide +kernel
theorem dX6_wantNumber_35 : decode cX6_wantNumber 35 = .ok (.ifCond .le 11, 3) := by decide +kernel
theorem dX6_wantNumber_38 : decode cX6_wantNumber 38 = .ok (.aload_n 0, 1) := by decide +kernel
theorem dX6_wantNumber_39 : decode cX6_wantNumber 39 = .ok (.iconst 2, 1) := by decide +kernel
theorem dX6_wantNumber_40 : decode cX6_wantNumber 40 = .ok (.invokevirtual 80, 3) := by decide +kernel
theorem dX6_wantNumber_43 : decode cX6_wantNumber 43 = .ok (.ifCond .eq 7, 3) := by decide +kernel
theorem dX6_wantNumber_46 : decode cX6_wantNumber 46 = .ok (.iconst 1, 1) := by decide +kernel
theorem dX6_wantNumber_47 : decode cX6_wantNumber 47 = .ok (.goto 4, 3) := by decide +kernel
theorem dX6_wantNumber_50 : decode cX6_wantNumber 50 = .ok (.iconst 0, 1) := by decide +kernel
theorem dX6_wantNumber_51 : decode cX6_wantNumber 51 = .ok (.ireturn, 1) := by decide +kernel
theorem dX6_wantSide_0 : decode cX6_wantSide 0 = .ok (.aload_n 0, 1) := by decide +kernel
theorem dX6_wantSide_1 : decode cX6_wantSide 1 = .ok (.invokevirtual 73, 3) := by decide +kernel
theorem dX6_wantSide_4 : decode cX6_wantSide 4 = .ok (.aload_n 0, 1) := by decide +kernel
theorem dX6_wantSide_5 : decode cX6_wantSide 5 = .ok (.getfield 39, 3) := by decide +kernel
theorem dX6_wantSide_8 : decode cX6_wantSide 8 = .ok (.iconst 5, 1) := by decide +kernel
theorem dX6_wantSide_9 : decode cX6_wantSide 9 = .ok (.if_icmp .lt 12, 3) := by decide +kernel
theorem dX6_wantSide_12 : decode cX6_wantSide 12 = .ok (.aload_n 0, 1) := by decide +kernel
theorem dX6_wantSide_13 : decode cX6_wantSide 13 = .ok (.getfield 39, 3) := by decide +kernel
theorem dX6_wantSide_16 : decode cX6_wantSide 16 = .ok (.bipush 8, 2) := by decide +kernel
theorem dX6_wantSide_18 : decode cX6_wantSide 18 = .ok (.if_icmp .le 11, 3) := by decide +kernel
theorem dX6_wantSide_21 : decode cX6_wantSide 21 = .ok (.aload_n 0, 1) := by decide +kernel
theorem dX6_wantSide_22 : decode cX6_wantSide 22 = .ok (.iconst 1, 1) := by decide +kernel
theorem dX6_wantSide_23 : decode cX6_wantSide 23 = .ok (.invokevirtual 80, 3) := by decide +kernel
theorem dX6_wantSide_26 : decode cX6_wantSide 26 = .ok (.ifCond .eq 7, 3) := by decide +kernel
theorem dX6_wantSide_29 : decode cX6_wantSide 29 = .ok (.iconst 1, 1) := by decide +kernel
theorem dX6_wantSide_30 : decode cX6_wantSide 30 = .ok (.goto 4, 3) := by decide +kernel
theorem dX6_wantSide_33 : decode cX6_wantSide 33 = .ok (.iconst 0, 1) := by decide +kernel
theorem dX6_wantSide_34 : decode cX6_wantSide 34 = .ok (.ireturn, 1) := by decide +kernel
theorem dX6_wantSign_0 : decode cX6_wantSign 0 = .ok (.aload_n 0, 1) := by decide +kernel
theorem dX6_wantSign_1 : decode cX6_wantSign 1 = .ok (.invokevirtual 73, 3) := by decide +kernel
theorem dX6_wantSign_4 : decode cX6_wantSign 4 = .ok (.aload_n 0, 1) := by decide +kernel
theorem dX6_wantSign_5 : decode cX6_wantSign 5 = .ok (.iload_n 1, 1) := by decide +kernel
theorem dX6_wantSign_6 : decode cX6_wantSign 6 = .ok (.invokevirtual 76, 3) := by decide +kernel
theorem dX6_wantSign_9 : decode cX6_wantSign 9 = .ok (.ifCond .ne 11, 3) := by decide +kernel
theorem dX6_wantSign_12 : decode cX6_wantSign 12 = .ok (.aload_n 0, 1) := by decide +kernel
theorem dX6_wantSign_13 : decode cX6_wantSign 13 = .ok (.iconst 1, 1) := by decide +kernel
theorem dX6_wantSign_14 : decode cX6_wantSign 14 = .ok (.invokevirtual 80, 3) := by decide +kernel
theorem dX6_wantSign_17 : decode cX6_wantSign 17 = .ok (.ifCond .eq 7, 3) := by decide +kernel
theorem dX6_wantSign_20 : decode cX6_wantSign 20 = .ok (.iconst 1, 1) := by decide +kernel
theorem dX6_wantSign_21 : decode cX6_wantSign 21 = .ok (.goto 4, 3) := by decide +kernel
theorem dX6_wantSign_24 : decode cX6_wantSign 24 = .ok (.iconst 0, 1) := by decide +kernel
theorem dX6_wantSign_25 : decode cX6_wantSign 25 = .ok (.ireturn, 1) := by decide +kernel
theorem dX7_allStones_0 : decode cX7_allStones 0 = .ok (.iconst 0, 1) := by decide +kernel
theorem dX7_allStones_1 : decode cX7_allStones 1 = .ok (.istore_n 1, 1) := by decide +kernel
theorem dX7_allStones_2 : decode cX7_allStones 2 = .ok (.iconst 0, 1) := by decide +kernel
theorem dX7_allStones_3 : decode cX7_allStones 3 = .ok (.istore_n 2, 1) := by decide +kernel
theorem dX7_allStones_4 : decode cX7_allStones 4 = .ok (.iload_n 2, 1) := by decide +kernel
theorem dX7_allStones_5 : decode cX7_allStones 5 = .ok (.aload_n 0, 1) := by decide +kernel
theorem dX7_allStones_6 : decode cX7_allStones 6 = .ok (.getfield 9, 3) := by decide +kernel
theorem dX7_allStones_9 : decode cX7_allStones 9 = .ok (.arraylength, 1) := by decide +kernel
theorem dX7_allStones_10 : decode cX7_allStones 10 = .ok (.if_icmp .ge 18, 3) := by decide +kernel
theorem dX7_allStones_13 : decode cX7_allStones 13 = .ok (.iload_n 1, 1) := by decide +kernel
theorem dX7_allStones_14 : decode cX7_allStones 14 = .ok (.aload_n 0, 1) := by decide +kernel
theorem dX7_allStones_15 : decode cX7_allStones 15 = .ok (.getfield 9, 3) := by decide +kernel
theorem dX7_allStones_18 : decode cX7_allStones 18 = .ok (.iload_n 2, 1) := by decide +kernel
theorem dX7_allStones_19 : decode cX7_allStones 19 = .ok (.iaload, 1) := by decide +kernel
theorem dX7_allStones_20 : decode cX7_allStones 20 = .ok (.iadd, 1) := by decide +kernel
theorem dX7_allStones_21 : decode cX7_allStones 21 = .ok (.istore_n 1, 1) := by decide +kernel
theorem dX7_allStones_22 : decode cX7_allStones 22 = .ok (.iinc 2 1, 3) := by decide +kernel
theorem dX7_allStones_25 : decode cX7_allStones 25 = .ok (.goto (-21), 3) := by decide +kernel
theorem dX7_allStones_28 : decode cX7_allStones 28 = .ok (.iload_n 1, 1) := by decide +kernel
theorem dX7_allStones_29 : decode cX7_allStones 29 = .ok (.ireturn, 1) := by decide +kernel
theorem dX7_allWealth_0 : decode cX7_allWealth 0 = .ok (.iconst 0, 1) := by decide +kernel
theorem dX7_allWealth_1 : decode cX7_allWealth 1 = .ok (.istore_n 1, 1) := by decide +kernel
theorem dX7_allWealth_2 : decode cX7_allWealth 2 = .ok (.iconst 0, 1) := by decide +kernel
theorem dX7_allWealth_3 : decode cX7_allWealth 3 = .ok (.istore_n 2, 1) := by decide +kernel
theorem dX7_allWealth_4 : decode cX7_allWealth 4 = .ok (.iload_n 2, 1) := by decide +kernel
theorem dX7_allWealth_5 : decode cX7_allWealth 5 = .ok (.aload_n 0, 1) := by decide +kernel
theorem dX7_allWealth_6 : decode cX7_allWealth 6 = .ok (.getfield 18, 3) := by decide +kernel
theorem dX7_allWealth_9 : decode cX7_allWealth 9 = .ok (.arraylength, 1) := by decide +kernel
theorem dX7_allWealth_10 : decode cX7_allWealth 10 = .ok (.if_icmp .ge 18, 3) := by decide +kernel
theorem dX7_allWealth_13 : decode cX7_allWealth 13 = .ok (.iload_n 1, 1) := by decide +kernel
theorem dX7_allWealth_14 : decode cX7_allWealth 14 = .ok (.aload_n 0, 1) := by decide +kernel
theorem dX7_allWealth_15 : decode cX7_allWealth 15 = .ok (.getfield 18, 3) := by decide +kernel
theorem dX7_allWealth_18 : decode cX7_allWealth 18 = .ok (.iload_n 2, 1) := by decide +kernel
theorem dX7_allWealth_19 : decode cX7_allWealth 19 = .ok (.iaload, 1) := by decide +kernel
theorem dX7_allWealth_20 : decode cX7_allWealth 20 = .ok (.iadd, 1) := by decide +kernel
theorem dX7_allWealth_21 : decode cX7_allWealth 21 = .ok (.istore_n 1, 1) := by decide +kernel
theorem dX7_allWealth_22 : decode cX7_allWealth 22 = .ok (.iinc 2 1, 3) := by decide +kernel
theorem dX7_allWealth_25 : decode cX7_allWealth 25 = .ok (.goto (-21), 3) := by decide +kernel
theorem dX7_allWealth_28 : decode cX7_allWealth 28 = .ok (.iload_n 1, 1) := by decide +kernel
theorem dX7_allWealth_29 : decode cX7_allWealth 29 = .ok (.ireturn, 1) := by decide +kernel
theorem dX7_clear_0 : decode cX7_clear 0 = .ok (.iconst 0, 1) := by decide +kernel
theorem dX7_clear_1 : decode cX7_clear 1 = .ok (.istore_n 1, 1) := by decide +kernel
theorem dX7_clear_2 : decode cX7_clear 2 = .ok (.iload_n 1, 1) := by decide +kernel
theorem dX7_clear_3 : decode cX7_clear 3 = .ok (.aload_n 0, 1) := by decide +kernel
theorem dX7_clear_4 : decode cX7_clear 4 = .ok (.getfield 9, 3) := by decide +kernel
theorem dX7_clear_7 : decode cX7_clear 7 = .ok (.arraylength, 1) := by decide +kernel
theorem dX7_clear_8 : decode cX7_clear 8 = .ok (.if_icmp .ge 16, 3) := by decide +kernel
theorem dX7_clear_11 : decode cX7_clear 11 = .ok (.aload_n 0, 1) := by decide +kernel
theorem dX7_clear_12 : decode cX7_clear 12 = .ok (.getfield 9, 3) := by decide +kernel
theorem dX7_clear_15 : decode cX7_clear 15 = .ok (.iload_n 1, 1) := by decide +kernel
theorem dX7_clear_16 : decode cX7_clear 16 = .ok (.iconst 0, 1) := by decide +kernel
theorem dX7_clear_17 : decode cX7_clear 17 = .ok (.iastore, 1) := by decide +kernel
theorem dX7_clear_18 : decode cX7_clear 18 = .ok (.iinc 1 1, 3) := by decide +kernel
theorem dX7_clear_21 : decode cX7_clear 21 = .ok (.goto (-19), 3) := by decide +kernel
theorem dX7_clear_24 : decode cX7_clear 24 = .ok (.iconst 0, 1) := by decide +kernel
theorem dX7_clear_25 : decode cX7_clear 25 = .ok (.istore_n 1, 1) := by decide +kernel
theorem dX7_clear_26 : decode cX7_clear 26 = .ok (.iload_n 1, 1) := by decide +kernel
theorem dX7_clear_27 : decode cX7_clear 27 = .ok (.aload_n 0, 1) := by decide +kernel
theorem dX7_clear_28 : decode cX7_clear 28 = .ok (.getfield 18, 3) := by decide +kernel
theorem dX7_clear_31 : decode cX7_clear 31 = .ok (.arraylength, 1) := by decide +kernel
theorem dX7_clear_32 : decode cX7_clear 32 = .ok (.if_icmp .ge 16, 3) := by decide +kernel
theorem dX7_clear_35 : decode cX7_clear 35 = .ok (.aload_n 0, 1) := by decide +kernel
theorem dX7_clear_36 : decode cX7_clear 36 = .ok (.getfield 18, 3) := by decide +kernel
theorem dX7_clear_39 : decode cX7_clear 39 = .ok (.iload_n 1, 1) := by decide +kernel
theorem dX7_clear_40 : decode cX7_clear 40 = .ok (.iconst 0, 1) := by decide +kernel
theorem dX7_clear_41 : decode cX7_clear 41 = .ok (.iastore, 1) := by decide +kernel
theorem dX7_clear_42 : decode cX7_clear 42 = .ok (.iinc 1 1, 3) := by decide +kernel
theorem dX7_clear_45 : decode cX7_clear 45 = .ok (.goto (-19), 3) := by decide +kernel
theorem dX7_clear_48 : decode cX7_clear 48 = .ok (.aload_n 0, 1) := by decide +kernel
theorem dX7_clear_49 : decode cX7_clear 49 = .ok (.iconst 0, 1) := by decide +kernel
theorem dX7_clear_50 : decode cX7_clear 50 = .ok (.putfield 24, 3) := by decide +kernel
theorem dX7_clear_53 : decode cX7_clear 53 = .ok (.aload_n 0, 1) := by decide +kernel
theorem dX7_clear_54 : decode cX7_clear 54 = .ok (.iconst 0, 1) := by decide +kernel
theorem dX7_clear_55 : decode cX7_clear 55 = .ok (.putfield 28, 3) := by decide +kernel
theorem dX7_clear_58 : decode cX7_clear 58 = .ok (.aload_n 0, 1) := by decide +kernel
theorem dX7_clear_59 : decode cX7_clear 59 = .ok (.iconst 0, 1) := by decide +kernel
theorem dX7_clear_60 : decode cX7_clear 60 = .ok (.putfield 31, 3) := by decide +kernel
theorem dX7_clear_63 : decode cX7_clear 63 = .ok (.aload_n 0, 1) := by decide +kernel
theorem dX7_clear_64 : decode cX7_clear 64 = .ok (.iconst 0, 1) := by decide +kernel
theorem dX7_clear_65 : decode cX7_clear 65 = .ok (.putfield 34, 3) := by decide +kernel
theorem dX7_clear_68 : decode cX7_clear 68 = .ok (.aload_n 0, 1) := by decide +kernel
theorem dX7_clear_69 : decode cX7_clear 69 = .ok (.iconst 0, 1) := by decide +kernel
theorem dX7_clear_70 : decode cX7_clear 70 = .ok (.putfield 37, 3) := by decide +kernel
theorem dX7_clear_73 : decode cX7_clear 73 = .ok (.return_, 1) := by decide +kernel
theorem dX7_copyFrom_0 : decode cX7_copyFrom 0 = .ok (.aload_n 1, 1) := by decide +kernel
theorem dX7_copyFrom_1 : decode cX7_copyFrom 1 = .ok (.getfield 9, 3) := by decide +kernel
theorem dX7_copyFrom_4 : decode cX7_copyFrom 4 = .ok (.aload_n 0, 1) := by decide +kernel
theorem dX7_copyFrom_5 : decode cX7_copyFrom 5 = .ok (.getfield 9, 3) := by decide +kernel
theorem dX7_copyFrom_8 : decode cX7_copyFrom 8 = .ok (.invokestatic 40, 3) := by decide +kernel
theorem dX7_copyFrom_11 : decode cX7_copyFrom 11 = .ok (.aload_n 1, 1) := by decide +kernel
theorem dX7_copyFrom_12 : decode cX7_copyFrom 12 = .ok (.getfield 15, 3) := by decide +kernel
theorem dX7_copyFrom_15 : decode cX7_copyFrom 15 = .ok (.aload_n 0, 1) := by decide +kernel
theorem dX7_copyFrom_16 : decode cX7_copyFrom 16 = .ok (.getfield 15, 3) := by decide +kernel
theorem dX7_copyFrom_19 : decode cX7_copyFrom 19 = .ok (.invokestatic 40, 3) := by decide +kernel
theorem dX7_copyFrom_22 : decode cX7_copyFrom 22 = .ok (.aload_n 1, 1) := by decide +kernel
theorem dX7_copyFrom_23 : decode cX7_copyFrom 23 = .ok (.getfield 18, 3) := by decide +kernel
theorem dX7_copyFrom_26 : decode cX7_copyFrom 26 = .ok (.aload_n 0, 1) := by decide +kernel
theorem dX7_copyFrom_27 : decode cX7_copyFrom 27 = .ok (.getfield 18, 3) := by decide +kernel
theorem dX7_copyFrom_30 : decode cX7_copyFrom 30 = .ok (.invokestatic 40, 3) := by decide +kernel
theorem dX7_copyFrom_33 : decode cX7_copyFrom 33 = .ok (.aload_n 1, 1) := by decide +kernel
theorem dX7_copyFrom_34 : decode cX7_copyFrom 34 = .ok (.getfield 21, 3) := by decide +kernel
theorem dX7_copyFrom_37 : decode cX7_copyFrom 37 = .ok (.aload_n 0, 1) := by decide +kernel
theorem dX7_copyFrom_38 : decode cX7_copyFrom 38 = .ok (.getfield 21, 3) := by decide +kernel
theorem dX7_copyFrom_41 : decode cX7_copyFrom 41 = .ok (.invokestatic 40, 3) := by decide +kernel
theorem dX7_copyFrom_44 : decode cX7_copyFrom 44 = .ok (.aload_n 0, 1) := by decide +kernel
theorem dX7_copyFrom_45 : decode cX7_copyFrom 45 = .ok (.aload_n 1, 1) := by decide +kernel
theorem dX7_copyFrom_46 : decode cX7_copyFrom 46 = .ok (.getfield 24, 3) := by decide +kernel
theorem dX7_copyFrom_49 : decode cX7_copyFrom 49 = .ok (.putfield 24, 3) := by decide +kernel
theorem dX7_copyFrom_52 : decode cX7_copyFrom 52 = .ok (.aload_n 0, 1) := by decide +kernel
theorem dX7_copyFrom_53 : decode cX7_copyFrom 53 = .ok (.aload_n 1, 1) := by decide +kernel
theorem dX7_copyFrom_54 : decode cX7_copyFrom 54 = .ok (.getfield 28, 3) := by decide +kernel
theorem dX7_copyFrom_57 : decode cX7_copyFrom 57 = .ok (.putfield 28, 3) := by decide +kernel
theorem dX7_copyFrom_60 : decode cX7_copyFrom 60 = .ok (.aload_n 0, 1) := by decide +kernel
theorem dX7_copyFrom_61 : decode cX7_copyFrom 61 = .ok (.aload_n 1, 1) := by decide +kernel
theorem dX7_copyFrom_62 : decode cX7_copyFrom 62 = .ok (.getfield 31, 3) := by decide +kernel
theorem dX7_copyFrom_65 : decode cX7_copyFrom 65 = .ok (.putfield 31, 3) := by decide +kernel
theorem dX7_copyFrom_68 : decode cX7_copyFrom 68 = .ok (.aload_n 0, 1) := by decide +kernel
theorem dX7_copyFrom_69 : decode cX7_copyFrom 69 = .ok (.aload_n 1, 1) := by decide +kernel
theorem dX7_copyFrom_70 : decode cX7_copyFrom 70 = .ok (.getfield 34, 3) := by decide +kernel
theorem dX7_copyFrom_73 : decode cX7_copyFrom 73 = .ok (.putfield 34, 3) := by decide +kernel
theorem dX7_copyFrom_76 : decode cX7_copyFrom 76 = .ok (.aload_n 0, 1) := by decide +kernel
theorem dX7_copyFrom_77 : decode cX7_copyFrom 77 = .ok (.aload_n 1, 1) := by decide +kernel
theorem dX7_copyFrom_78 : decode cX7_copyFrom 78 = .ok (.getfield 37, 3) := by decide +kernel
theorem dX7_copyFrom_81 : decode cX7_copyFrom 81 = .ok (.putfield 37, 3) := by decide +kernel
theorem dX7_copyFrom_84 : decode cX7_copyFrom 84 = .ok (.return_, 1) := by decide +kernel
theorem dX7_isBuried_0 : decode cX7_isBuried 0 = .ok (.aload_n 0, 1) := by decide +kernel
theorem dX7_isBuried_1 : decode cX7_isBuried 1 = .ok (.getfield 24, 3) := by decide +kernel
theorem dX7_isBuried_4 : decode cX7_isBuried 4 = .ok (.iload_n 1, 1) := by decide +kernel
theorem dX7_isBuried_5 : decode cX7_isBuried 5 = .ok (.ishr, 1) := by decide +kernel
theorem dX7_isBuried_6 : decode cX7_isBuried 6 = .ok (.iconst 1, 1) := by decide +kernel
theorem dX7_isBuried_7 : decode cX7_isBuried 7 = .ok (.iand, 1) := by decide +kernel
theorem dX7_isBuried_8 : decode cX7_isBuried 8 = .ok (.iconst 1, 1) := by decide +kernel
theorem dX7_isBuried_9 : decode cX7_isBuried 9 = .ok (.if_icmp .ne 7, 3) := by decide +kernel
theorem dX7_isBuried_12 : decode cX7_isBuried 12 = .ok (.iconst 1, 1) := by decide +kernel
theorem dX7_isBuried_13 : decode cX7_isBuried 13 = .ok (.goto 4, 3) := by decide +kernel
theorem dX7_isBuried_16 : decode cX7_isBuried 16 = .ok (.iconst 0, 1) := by decide +kernel
theorem dX7_isBuried_17 : decode cX7_isBuried 17 = .ok (.ireturn, 1) := by decide +kernel
theorem dX8_add_0 : decode cX8_add 0 = .ok (.aload_n 0, 1) := by decide +kernel
theorem dX8_add_1 : decode cX8_add 1 = .ok (.getfield 21, 3) := by decide +kernel
theorem dX8_add_4 : decode cX8_add 4 = .ok (.aload_n 0, 1) := by decide +kernel
theorem dX8_add_5 : decode cX8_add 5 = .ok (.getfield 11, 3) := by decide +kernel
theorem dX8_add_8 : decode cX8_add 8 = .ok (.arraylength, 1) := by decide +kernel
theorem dX8_add_9 : decode cX8_add 9 = .ok (.if_icmp .ge 45, 3) := by decide +kernel
theorem dX8_add_12 : decode cX8_add 12 = .ok (.aload_n 0, 1) := by decide +kernel
theorem dX8_add_13 : decode cX8_add 13 = .ok (.getfield 21, 3) := by decide +kernel
theorem dX8_add_16 : decode cX8_add 16 = .ok (.aload_n 0, 1) := by decide +kernel
theorem dX8_add_17 : decode cX8_add 17 = .ok (.getfield 15, 3) := by decide +kernel
theorem dX8_add_20 : decode cX8_add 20 = .ok (.arraylength, 1) := by decide +kernel
theorem dX8_add_21 : decode cX8_add 21 = .ok (.if_icmp .ge 33, 3) := by decide +kernel
theorem dX8_add_24 : decode cX8_add 24 = .ok (.aload_n 0, 1) := by decide +kernel
theorem dX8_add_25 : decode cX8_add 25 = .ok (.getfield 11, 3) := by decide +kernel
theorem dX8_add_28 : decode cX8_add 28 = .ok (.aload_n 0, 1) := by decide +kernel
theorem dX8_add_29 : decode cX8_add 29 = .ok (.getfield 21, 3) := by decide +kernel
theorem dX8_add_32 : decode cX8_add 32 = .ok (.iload_n 1, 1) := by decide +kernel
theorem dX8_add_33 : decode cX8_add 33 = .ok (.iastore, 1) := by decide +kernel
theorem dX8_add_34 : decode cX8_add 34 = .ok (.aload_n 0, 1) := by decide +kernel
theorem dX8_add_35 : decode cX8_add 35 = .ok (.getfield 15, 3) := by decide +kernel
theorem dX8_add_38 : decode cX8_add 38 = .ok (.aload_n 0, 1) := by decide +kernel
theorem dX8_add_39 : decode cX8_add 39 = .ok (.getfield 21, 3) := by decide +kernel
theorem dX8_add_42 : decode cX8_add 42 = .ok (.iload_n 2, 1) := by decide +kernel
theorem dX8_add_43 : decode cX8_add 43 = .ok (.iastore, 1) := by decide +kernel
theorem dX8_add_44 : decode cX8_add 44 = .ok (.aload_n 0, 1) := by decide +kernel
theorem dX8_add_45 : decode cX8_add 45 = .ok (.dup, 1) := by decide +kernel
theorem dX8_add_46 : decode cX8_add 46 = .ok (.getfield 21, 3) := by decide +kernel
theorem dX8_add_49 : decode cX8_add 49 = .ok (.iconst 1, 1) := by decide +kernel
theorem dX8_add_50 : decode cX8_add 50 = .ok (.iadd, 1) := by decide +kernel
theorem dX8_add_51 : decode cX8_add 51 = .ok (.putfield 21, 3) := by decide +kernel
theorem dX8_add_54 : decode cX8_add 54 = .ok (.return_, 1) := by decide +kernel
theorem dX8_clear_0 : decode cX8_clear 0 = .ok (.aload_n 0, 1) := by decide +kernel
theorem dX8_clear_1 : decode cX8_clear 1 = .ok (.iconst 0, 1) := by decide +kernel
theorem dX8_clear_2 : decode cX8_clear 2 = .ok (.putfield 21, 3) := by decide +kernel
theorem dX8_clear_5 : decode cX8_clear 5 = .ok (.aload_n 0, 1) := by decide +kernel
theorem dX8_clear_6 : decode cX8_clear 6 = .ok (.iconst 0, 1) := by decide +kernel
theorem dX8_clear_7 : decode cX8_clear 7 = .ok (.putfield 25, 3) := by decide +kernel
theorem dX8_clear_10 : decode cX8_clear 10 = .ok (.return_, 1) := by decide +kernel
theorem dX8_copyFrom_0 : decode cX8_copyFrom 0 = .ok (.aload_n 1, 1) := by decide +kernel
theorem dX8_copyFrom_1 : decode cX8_copyFrom 1 = .ok (.getfield 11, 3) := by decide +kernel
theorem dX8_copyFrom_4 : decode cX8_copyFrom 4 = .ok (.aload_n 0, 1) := by decide +kernel
theorem dX8_copyFrom_5 : decode cX8_copyFrom 5 = .ok (.getfield 11, 3) := by decide +kernel
theorem dX8_copyFrom_8 : decode cX8_copyFrom 8 = .ok (.invokestatic 28, 3) := by decide +kernel
theorem dX8_copyFrom_11 : decode cX8_copyFrom 11 = .ok (.aload_n 1, 1) := by decide +kernel
theorem dX8_copyFrom_12 : decode cX8_copyFrom 12 = .ok (.getfield 15, 3) := by decide +kernel
theorem dX8_copyFrom_15 : decode cX8_copyFrom 15 = .ok (.aload_n 0, 1) := by decide +kernel
theorem dX8_copyFrom_16 : decode cX8_copyFrom 16 = .ok (.getfield 15, 3) := by decide +kernel
theorem dX8_copyFrom_19 : decode cX8_copyFrom 19 = .ok (.invokestatic 28, 3) := by decide +kernel
theorem dX8_copyFrom_22 : decode cX8_copyFrom 22 = .ok (.aload_n 0, 1) := by decide +kernel
theorem dX8_copyFrom_23 : decode cX8_copyFrom 23 = .ok (.aload_n 1, 1) := by decide +kernel
theorem dX8_copyFrom_24 : decode cX8_copyFrom 24 = .ok (.getfield 21, 3) := by decide +kernel
theorem dX8_copyFrom_27 : decode cX8_copyFrom 27 = .ok (.putfield 21, 3) := by decide +kernel
theorem dX8_copyFrom_30 : decode cX8_copyFrom 30 = .ok (.aload_n 0, 1) := by decide +kernel
theorem dX8_copyFrom_31 : decode cX8_copyFrom 31 = .ok (.aload_n 1, 1) := by decide +kernel
theorem dX8_copyFrom_32 : decode cX8_copyFrom 32 = .ok (.getfield 25, 3) := by decide +kernel
theorem dX8_copyFrom_35 : decode cX8_copyFrom 35 = .ok (.putfield 25, 3) := by decide +kernel
theorem dX8_copyFrom_38 : decode cX8_copyFrom 38 = .ok (.return_, 1) := by decide +kernel
theorem dX8_isCompared_0 : decode cX8_isCompared 0 = .ok (.iload_n 1, 1) := by decide +kernel
theorem dX8_isCompared_1 : decode cX8_isCompared 1 = .ok (.ifCond .ne 14, 3) := by decide +kernel
theorem dX8_isCompared_4 : decode cX8_isCompared 4 = .ok (.iload_n 0, 1) := by decide +kernel
theorem dX8_isCompared_5 : decode cX8_isCompared 5 = .ok (.iload_n 2, 1) := by decide +kernel
theorem dX8_isCompared_6 : decode cX8_isCompared 6 = .ok (.if_icmp .ge 7, 3) := by decide +kernel
theorem dX8_isCompared_9 : decode cX8_isCompared 9 = .ok (.iconst 1, 1) := by decide +kernel
theorem dX8_isCompared_10 : decode cX8_isCompared 10 = .ok (.goto 4, 3) := by decide +kernel
theorem dX8_isCompared_13 : decode cX8_isCompared 13 = .ok (.iconst 0, 1) := by decide +kernel
theorem dX8_isCompared_14 : decode cX8_isCompared 14 = .ok (.ireturn, 1) := by decide +kernel
theorem dX8_isCompared_15 : decode cX8_isCompared 15 = .ok (.iload_n 1, 1) := by decide +kernel
theorem dX8_isCompared_16 : decode cX8_isCompared 16 = .ok (.iconst 1, 1) := by decide +kernel
theorem dX8_isCompared_17 : decode cX8_isCompared 17 = .ok (.if_icmp .ne 16, 3) := by decide +kernel
theorem dX8_isCompared_20 : decode cX8_isCompared 20 = .ok (.iload_n 0, 1) := by decide +kernel
theorem dX8_isCompared_21 : decode cX8_isCompared 21 = .ok (.iload_n 2, 1) := by decide +kernel
theorem dX8_isCompared_22 : decode cX8_isCompared 22 = .ok (.if_icmp .ne 7, 3) := by decide +kernel
theorem dX8_isCompared_25 : decode cX8_isCompared 25 = .ok (.iconst 1, 1) := by decide +kernel
theorem dX8_isCompared_26 : decode cX8_isCompared 26 = .ok (.goto 17, 3) := by decide +kernel
theorem dX8_isCompared_29 : decode cX8_isCompared 29 = .ok (.iconst 0, 1) := by decide +kernel
theorem dX8_isCompared_30 : decode cX8_isCompared 30 = .ok (.goto 13, 3) := by decide +kernel
theorem dX8_isCompared_33 : decode cX8_isCompared 33 = .ok (.iload_n 0, 1) := by decide +kernel
theorem dX8_isCompared_34 : decode cX8_isCompared 34 = .ok (.iload_n 2, 1) := by decide +kernel
theorem dX8_isCompared_35 : decode cX8_isCompared 35 = .ok (.if_icmp .le 7, 3) := by decide +kernel
theorem dX8_isCompared_38 : decode cX8_isCompared 38 = .ok (.iconst 1, 1) := by decide +kernel
theorem dX8_isCompared_39 : decode cX8_isCompared 39 = .ok (.goto 4, 3) := by decide +kernel
theorem dX8_isCompared_42 : decode cX8_isCompared 42 = .ok (.iconst 0, 1) := by decide +kernel
theorem dX8_isCompared_43 : decode cX8_isCompared 43 = .ok (.ireturn, 1) := by decide +kernel
theorem dX8_isSo_0 : decode cX8_isSo 0 = .ok (.aload_n 0, 1) := by decide +kernel
theorem dX8_isSo_1 : decode cX8_isSo 1 = .ok (.aload_n 0, 1) := by decide +kernel
theorem dX8_isSo_2 : decode cX8_isSo 2 = .ok (.getfield 119, 3) := by decide +kernel
theorem dX8_isSo_5 : decode cX8_isSo 5 = .ok (.getfield 123, 3) := by decide +kernel
theorem dX8_isSo_8 : decode cX8_isSo 8 = .ok (.iload_n 3, 1) := by decide +kernel
theorem dX8_isSo_9 : decode cX8_isSo 9 = .ok (.iaload, 1) := by decide +kernel
theorem dX8_isSo_10 : decode cX8_isSo 10 = .ok (.invokevirtual 128, 3) := by decide +kernel
theorem dX8_isSo_13 : decode cX8_isSo 13 = .ok (.istore 4, 2) := by decide +kernel
theorem dX8_isSo_15 : decode cX8_isSo 15 = .ok (.iload_n 1, 1) := by decide +kernel
theorem dX8_isSo_16 : decode cX8_isSo 16 = .ok (.tableswitch 85 16 18 #[28, 49, 67], 28) := by decide +kernel
theorem dX8_isSo_44 : decode cX8_isSo 44 = .ok (.iload 4, 2) := by decide +kernel
theorem dX8_isSo_46 : decode cX8_isSo 46 = .ok (.aload_n 0, 1) := by decide +kernel
theorem dX8_isSo_47 : decode cX8_isSo 47 = .ok (.getfield 119, 3) := by decide +kernel
theorem dX8_isSo_50 : decode cX8_isSo 50 = .ok (.getfield 132, 3) := by decide +kernel
theorem dX8_isSo_53 : decode cX8_isSo 53 = .ok (.iconst (-1), 1) := by decide +kernel
theorem dX8_isSo_54 : decode cX8_isSo 54 = .ok (.ixor, 1) := by decide +kernel
theorem dX8_isSo_55 : decode cX8_isSo 55 = .ok (.iand, 1) := by decide +kernel
theorem dX8_isSo_56 : decode cX8_isSo 56 = .ok (.ifCond .eq 7, 3) := by decide +kernel
theorem dX8_isSo_59 : decode cX8_isSo 59 = .ok (.iconst 1, 1) := by decide +kernel
theorem dX8_isSo_60 : decode cX8_isSo 60 = .ok (.goto 4, 3) := by decide +kernel
theorem dX8_isSo_63 : decode cX8_isSo 63 = .ok (.iconst 0, 1) := by decide +kernel
theorem dX8_isSo_64 : decode cX8_isSo 64 = .ok (.ireturn, 1) := by decide +kernel
theorem dX8_isSo_65 : decode cX8_isSo 65 = .ok (.aload_n 0, 1) := by decide +kernel
theorem dX8_isSo_66 : decode cX8_isSo 66 = .ok (.getfield 119, 3) := by decide +kernel
theorem dX8_isSo_69 : decode cX8_isSo 69 = .ok (.getfield 135, 3) := by decide +kernel
theorem dX8_isSo_72 : decode cX8_isSo 72 = .ok (.iload_n 3, 1) := by decide +kernel
theorem dX8_isSo_73 : decode cX8_isSo 73 = .ok (.iaload, 1) := by decide +kernel
theorem dX8_isSo_74 : decode cX8_isSo 74 = .ok (.ifCond .ne 7, 3) := by decide +kernel
theorem dX8_isSo_77 : decode cX8_isSo 77 = .ok (.iconst 1, 1) := by decide +kernel
theorem dX8_isSo_78 : decode cX8_isSo 78 = .ok (.goto 4, 3) := by decide +kernel
theorem dX8_isSo_81 : decode cX8_isSo 81 = .ok (.iconst 0, 1) := by decide +kernel
theorem dX8_isSo_82 : decode cX8_isSo 82 = .ok (.ireturn, 1) := by decide +kernel
theorem dX8_isSo_83 : decode cX8_isSo 83 = .ok (.aload_n 0, 1) := by decide +kernel
theorem dX8_isSo_84 : decode cX8_isSo 84 = .ok (.getfield 119, 3) := by decide +kernel
theorem dX8_isSo_87 : decode cX8_isSo 87 = .ok (.getfield 135, 3) := by decide +kernel
theorem dX8_isSo_90 : decode cX8_isSo 90 = .ok (.iload_n 3, 1) := by decide +kernel
theorem dX8_isSo_91 : decode cX8_isSo 91 = .ok (.iaload, 1) := by decide +kernel
theorem dX8_isSo_92 : decode cX8_isSo 92 = .ok (.ifCond .le 7, 3) := by decide +kernel
theorem dX8_isSo_95 : decode cX8_isSo 95 = .ok (.iconst 1, 1) := by decide +kernel
theorem dX8_isSo_96 : decode cX8_isSo 96 = .ok (.goto 4, 3) := by decide +kernel
theorem dX8_isSo_99 : decode cX8_isSo 99 = .ok (.iconst 0, 1) := by decide +kernel
theorem dX8_isSo_100 : decode cX8_isSo 100 = .ok (.ireturn, 1) := by decide +kernel
theorem dX8_isSo_101 : decode cX8_isSo 101 = .ok (.iload 4, 2) := by decide +kernel
theorem dX8_isSo_103 : decode cX8_isSo 103 = .ok (.iload_n 2, 1) := by decide +kernel
theorem dX8_isSo_104 : decode cX8_isSo 104 = .ok (.ishr, 1) := by decide +kernel
theorem dX8_isSo_105 : decode cX8_isSo 105 = .ok (.iconst 1, 1) := by decide +kernel
theorem dX8_isSo_106 : decode cX8_isSo 106 = .ok (.iand, 1) := by decide +kernel
theorem dX8_isSo_107 : decode cX8_isSo 107 = .ok (.iconst 1, 1) := by decide +kernel
theorem dX8_isSo_108 : decode cX8_isSo 108 = .ok (.if_icmp .ne 7, 3) := by decide +kernel
theorem dX8_isSo_111 : decode cX8_isSo 111 = .ok (.iconst 1, 1) := by decide +kernel
theorem dX8_isSo_112 : decode cX8_isSo 112 = .ok (.goto 4, 3) := by decide +kernel
theorem dX8_isSo_115 : decode cX8_isSo 115 = .ok (.iconst 0, 1) := by decide +kernel
theorem dX8_isSo_116 : decode cX8_isSo 116 = .ok (.ireturn, 1) := by decide +kernel
theorem dX8_numberOf_0 : decode cX8_numberOf 0 = .ok (.iload_n 1, 1) := by decide +kernel
theorem dX8_numberOf_1 : decode cX8_numberOf 1 = .ok (.bipush 20, 2) := by decide +kernel
theorem dX8_numberOf_3 : decode cX8_numberOf 3 = .ok (.isub, 1) := by decide +kernel
theorem dX8_numberOf_4 : decode cX8_numberOf 4 = .ok (.tableswitch 64 0 2 #[28, 38, 51], 28) := by decide +kernel
theorem dX8_numberOf_32 : decode cX8_numberOf 32 = .ok (.aload_n 0, 1) := by decide +kernel
theorem dX8_numberOf_33 : decode cX8_numberOf 33 = .ok (.getfield 119, 3) := by decide +kernel
theorem dX8_numberOf_36 : decode cX8_numberOf 36 = .ok (.getfield 135, 3) := by decide +kernel
theorem dX8_numberOf_39 : decode cX8_numberOf 39 = .ok (.iload_n 2, 1) := by decide +kernel
theorem dX8_numberOf_40 : decode cX8_numberOf 40 = .ok (.iaload, 1) := by decide +kernel
theorem dX8_numberOf_41 : decode cX8_numberOf 41 = .ok (.ireturn, 1) := by decide +kernel
theorem dX8_numberOf_42 : decode cX8_numberOf 42 = .ok (.aload_n 0, 1) := by decide +kernel
theorem dX8_numberOf_43 : decode cX8_numberOf 43 = .ok (.getfield 119, 3) := by decide +kernel
theorem dX8_numberOf_46 : decode cX8_numberOf 46 = .ok (.getfield 123, 3) := by decide +kernel
theorem dX8_numberOf_49 : decode cX8_numberOf 49 = .ok (.iload_n 2, 1) := by decide +kernel
theorem dX8_numberOf_50 : decode cX8_numberOf 50 = .ok (.iaload, 1) := by decide +kernel
theorem dX8_numberOf_51 : decode cX8_numberOf 51 = .ok (.bipush 8, 2) := by decide +kernel
theorem dX8_numberOf_53 : decode cX8_numberOf 53 = .ok (.irem, 1) := by decide +kernel
theorem dX8_numberOf_54 : decode cX8_numberOf 54 = .ok (.ireturn, 1) := by decide +kernel
theorem dX8_numberOf_55 : decode cX8_numberOf 55 = .ok (.aload_n 0, 1) := by decide +kernel
theorem dX8_numberOf_56 : decode cX8_numberOf 56 = .ok (.getfield 119, 3) := by decide +kernel
theorem dX8_numberOf_59 : decode cX8_numberOf 59 = .ok (.getfield 123, 3) := by decide +kernel
theorem dX8_numberOf_62 : decode cX8_numberOf 62 = .ok (.iload_n 2, 1) := by decide +kernel
theorem dX8_numberOf_63 : decode cX8_numberOf 63 = .ok (.iaload, 1) := by decide +kernel
theorem dX8_numberOf_64 : decode cX8_numberOf 64 = .ok (.bipush 8, 2) := by decide +kernel
theorem dX8_numberOf_66 : decode cX8_numberOf 66 = .ok (.idiv, 1) := by decide +kernel
theorem dX8_numberOf_67 : decode cX8_numberOf 67 = .ok (.ireturn, 1) := by decide +kernel
theorem dX8_numberOf_68 : decode cX8_numberOf 68 = .ok (.iload_n 2, 1) := by decide +kernel
theorem dX8_numberOf_69 : decode cX8_numberOf 69 = .ok (.ireturn, 1) := by decide +kernel
theorem dX8_personsMeant_0 : decode cX8_personsMeant 0 = .ok (.iconst 0, 1) := by decide +kernel
theorem dX8_personsMeant_1 : decode cX8_personsMeant 1 = .ok (.istore_n 2, 1) := by decide +kernel
theorem dX8_personsMeant_2 : decode cX8_personsMeant 2 = .ok (.iconst 0, 1) := by decide +kernel
theorem dX8_personsMeant_3 : decode cX8_personsMeant 3 = .ok (.istore_n 3, 1) := by decide +kernel
theorem dX8_personsMeant_4 : decode cX8_personsMeant 4 = .ok (.iload_n 3, 1) := by decide +kernel
theorem dX8_personsMeant_5 : decode cX8_personsMeant 5 = .ok (.aload_n 0, 1) := by decide +kernel
theorem dX8_personsMeant_6 : decode cX8_personsMeant 6 = .ok (.getfield 21, 3) := by decide +kernel
theorem dX8_personsMeant_9 : decode cX8_personsMeant 9 = .ok (.if_icmp .ge 159, 3) := by decide +kernel
theorem dX8_personsMeant_12 : decode cX8_personsMeant 12 = .ok (.iload_n 3, 1) := by decide +kernel
theorem dX8_personsMeant_13 : decode cX8_personsMeant 13 = .ok (.aload_n 0, 1) := by decide +kernel
theorem dX8_personsMeant_14 : decode cX8_personsMeant 14 = .ok (.getfield 11, 3) := by decide +kernel
theorem dX8_personsMeant_17 : decode cX8_personsMeant 17 = .ok (.arraylength, 1) := by decide +kernel
theorem dX8_personsMeant_18 : decode cX8_personsMeant 18 = .ok (.if_icmp .ge 150, 3) := by decide +kernel
theorem dX8_personsMeant_21 : decode cX8_personsMeant 21 = .ok (.aload_n 0, 1) := by decide +kernel
theorem dX8_personsMeant_22 : decode cX8_personsMeant 22 = .ok (.getfield 11, 3) := by decide +kernel
theorem dX8_personsMeant_25 : decode cX8_personsMeant 25 = .ok (.iload_n 3, 1) := by decide +kernel
theorem dX8_personsMeant_26 : decode cX8_personsMeant 26 = .ok (.iaload, 1) := by decide +kernel
theorem dX8_personsMeant_27 : decode cX8_personsMeant 27 = .ok (.istore 4, 2) := by decide +kernel
theorem dX8_personsMeant_29 : decode cX8_personsMeant 29 = .ok (.iload 4, 2) := by decide +kernel
theorem dX8_personsMeant_31 : decode cX8_personsMeant 31 = .ok (.bipush 15, 2) := by decide +kernel
theorem dX8_personsMeant_33 : decode cX8_personsMeant 33 = .ok (.if_icmp .ne 29, 3) := by decide +kernel
theorem dX8_personsMeant_36 : decode cX8_personsMeant 36 = .ok (.iload_n 2, 1) := by decide +kernel
theorem dX8_personsMeant_37 : decode cX8_personsMeant 37 = .ok (.iconst 1, 1) := by decide +kernel
theorem dX8_personsMeant_38 : decode cX8_personsMeant 38 = .ok (.if_icmp .lt 24, 3) := by decide +kernel
theorem dX8_personsMeant_41 : decode cX8_personsMeant 41 = .ok (.aload_n 0, 1) := by decide +kernel
theorem dX8_personsMeant_42 : decode cX8_personsMeant 42 = .ok (.getfield 18, 3) := by decide +kernel
theorem dX8_personsMeant_45 : decode cX8_personsMeant 45 = .ok (.iload_n 2, 1) := by decide +kernel
theorem dX8_personsMeant_46 : decode cX8_personsMeant 46 = .ok (.iconst 1, 1) := by decide +kernel
theorem dX8_personsMeant_47 : decode cX8_personsMeant 47 = .ok (.isub, 1) := by decide +kernel
theorem dX8_personsMeant_48 : decode cX8_personsMeant 48 = .ok (.aload_n 0, 1) := by decide +kernel
theorem dX8_personsMeant_49 : decode cX8_personsMeant 49 = .ok (.getfield 18, 3) := by decide +kernel
theorem dX8_personsMeant_52 : decode cX8_personsMeant 52 = .ok (.iload_n 2, 1) := by decide +kernel
theorem dX8_personsMeant_53 : decode cX8_personsMeant 53 = .ok (.iconst 1, 1) := by decide +kernel
theorem dX8_personsMeant_54 : decode cX8_personsMeant 54 = .ok (.isub, 1) := by decide +kernel
theorem dX8_personsMeant_55 : decode cX8_personsMeant 55 = .ok (.iaload, 1) := by decide +kernel
theorem dX8_personsMeant_56 : decode cX8_personsMeant 56 = .ok (.iconst (-1), 1) := by decide +kernel
theorem dX8_personsMeant_57 : decode cX8_personsMeant 57 = .ok (.ixor, 1) := by decide +kernel
theorem dX8_personsMeant_58 : decode cX8_personsMeant 58 = .ok (.iastore, 1) := by decide +kernel
theorem dX8_personsMeant_59 : decode cX8_personsMeant 59 = .ok (.goto 103, 3) := by decide +kernel
theorem dX8_personsMeant_62 : decode cX8_personsMeant 62 = .ok (.iload 4, 2) := by decide +kernel
theorem dX8_personsMeant_64 : decode cX8_personsMeant 64 = .ok (.bipush 14, 2) := by decide +kernel
theorem dX8_personsMeant_66 : decode cX8_personsMeant 66 = .ok (.if_icmp .ne 31, 3) := by decide +kernel
theorem dX8_personsMeant_69 : decode cX8_personsMeant 69 = .ok (.iload_n 2, 1) := by decide +kernel
theorem dX8_personsMeant_70 : decode cX8_personsMeant 70 = .ok (.iconst 2, 1) := by decide +kernel
theorem dX8_personsMeant_71 : decode cX8_personsMeant 71 = .ok (.if_icmp .lt 26, 3) := by decide +kernel
theorem dX8_personsMeant_74 : decode cX8_personsMeant 74 = .ok (.iinc 2 (-1), 3) := by decide +kernel
theorem dX8_personsMeant_77 : decode cX8_personsMeant 77 = .ok (.aload_n 0, 1) := by decide +kernel
theorem dX8_personsMeant_78 : decode cX8_personsMeant 78 = .ok (.getfield 18, 3) := by decide +kernel
theorem dX8_personsMeant_81 : decode cX8_personsMeant 81 = .ok (.iload_n 2, 1) := by decide +kernel
theorem dX8_personsMeant_82 : decode cX8_personsMeant 82 = .ok (.iconst 1, 1) := by decide +kernel
theorem dX8_personsMeant_83 : decode cX8_personsMeant 83 = .ok (.isub, 1) := by decide +kernel
theorem dX8_personsMeant_84 : decode cX8_personsMeant 84 = .ok (.dup2, 1) := by decide +kernel
theorem dX8_personsMeant_85 : decode cX8_personsMeant 85 = .ok (.iaload, 1) := by decide +kernel
theorem dX8_personsMeant_86 : decode cX8_personsMeant 86 = .ok (.aload_n 0, 1) := by decide +kernel
theorem dX8_personsMeant_87 : decode cX8_personsMeant 87 = .ok (.getfield 18, 3) := by decide +kernel
theorem dX8_personsMeant_90 : decode cX8_personsMeant 90 = .ok (.iload_n 2, 1) := by decide +kernel
theorem dX8_personsMeant_91 : decode cX8_personsMeant 91 = .ok (.iaload, 1) := by decide +kernel
theorem dX8_personsMeant_92 : decode cX8_personsMeant 92 = .ok (.iand, 1) := by decide +kernel
theorem dX8_personsMeant_93 : decode cX8_personsMeant 93 = .ok (.iastore, 1) := by decide +kernel
theorem dX8_personsMeant_94 : decode cX8_personsMeant 94 = .ok (.goto 68, 3) := by decide +kernel
theorem dX8_personsMeant_97 : decode cX8_personsMeant 97 = .ok (.iload 4, 2) := by decide +kernel
theorem dX8_personsMeant_99 : decode cX8_personsMeant 99 = .ok (.bipush 13, 2) := by decide +kernel
theorem dX8_personsMeant_101 : decode cX8_personsMeant 101 = .ok (.if_icmp .ne 31, 3) := by decide +kernel
theorem dX8_personsMeant_104 : decode cX8_personsMeant 104 = .ok (.iload_n 2, 1) := by decide +kernel
theorem dX8_personsMeant_105 : decode cX8_personsMeant 105 = .ok (.iconst 2, 1) := by decide +kernel
theorem dX8_personsMeant_106 : decode cX8_personsMeant 106 = .ok (.if_icmp .lt 26, 3) := by decide +kernel
theorem dX8_personsMeant_109 : decode cX8_personsMeant 109 = .ok (.iinc 2 (-1), 3) := by decide +kernel
theorem dX8_personsMeant_112 : decode cX8_personsMeant 112 = .ok (.aload_n 0, 1) := by decide +kernel
theorem dX8_personsMeant_113 : decode cX8_personsMeant 113 = .ok (.getfield 18, 3) := by decide +kernel
theorem dX8_personsMeant_116 : decode cX8_personsMeant 116 = .ok (.iload_n 2, 1) := by decide +kernel
theorem dX8_personsMeant_117 : decode cX8_personsMeant 117 = .ok (.iconst 1, 1) := by decide +kernel
theorem dX8_personsMeant_118 : decode cX8_personsMeant 118 = .ok (.isub, 1) := by decide +kernel
theorem dX8_personsMeant_119 : decode cX8_personsMeant 119 = .ok (.dup2, 1) := by decide +kernel
theorem dX8_personsMeant_120 : decode cX8_personsMeant 120 = .ok (.iaload, 1) := by decide +kernel
theorem dX8_personsMeant_121 : decode cX8_personsMeant 121 = .ok (.aload_n 0, 1) := by decide +kernel
theorem dX8_personsMeant_122 : decode cX8_personsMeant 122 = .ok (.getfield 18, 3) := by decide +kernel
theorem dX8_personsMeant_125 : decode cX8_personsMeant 125 = .ok (.iload_n 2, 1) := by decide +kernel
theorem dX8_personsMeant_126 : decode cX8_personsMeant 126 = .ok (.iaload, 1) := by decide +kernel
theorem dX8_personsMeant_127 : decode cX8_personsMeant 127 = .ok (.ior, 1) := by decide +kernel
theorem dX8_personsMeant_128 : decode cX8_personsMeant 128 = .ok (.iastore, 1) := by decide +kernel
theorem dX8_personsMeant_129 : decode cX8_personsMeant 129 = .ok (.goto 33, 3) := by decide +kernel
theorem dX8_personsMeant_132 : decode cX8_personsMeant 132 = .ok (.iload_n 2, 1) := by decide +kernel
theorem dX8_personsMeant_133 : decode cX8_personsMeant 133 = .ok (.aload_n 0, 1) := by decide +kernel
theorem dX8_personsMeant_134 : decode cX8_personsMeant 134 = .ok (.getfield 18, 3) := by decide +kernel
theorem dX8_personsMeant_137 : decode cX8_personsMeant 137 = .ok (.arraylength, 1) := by decide +kernel
theorem dX8_personsMeant_138 : decode cX8_personsMeant 138 = .ok (.if_icmp .ge 24, 3) := by decide +kernel
theorem dX8_personsMeant_141 : decode cX8_personsMeant 141 = .ok (.aload_n 0, 1) := by decide +kernel
theorem dX8_personsMeant_142 : decode cX8_personsMeant 142 = .ok (.getfield 18, 3) := by decide +kernel
theorem dX8_personsMeant_145 : decode cX8_personsMeant 145 = .ok (.iload_n 2, 1) := by decide +kernel
theorem dX8_personsMeant_146 : decode cX8_personsMeant 146 = .ok (.aload_n 1, 1) := by decide +kernel
theorem dX8_personsMeant_147 : decode cX8_personsMeant 147 = .ok (.iload 4, 2) := by decide +kernel
theorem dX8_personsMeant_149 : decode cX8_personsMeant 149 = .ok (.aload_n 0, 1) := by decide +kernel
theorem dX8_personsMeant_150 : decode cX8_personsMeant 150 = .ok (.getfield 15, 3) := by decide +kernel
theorem dX8_personsMeant_153 : decode cX8_personsMeant 153 = .ok (.iload_n 3, 1) := by decide +kernel
theorem dX8_personsMeant_154 : decode cX8_personsMeant 154 = .ok (.iaload, 1) := by decide +kernel
theorem dX8_personsMeant_155 : decode cX8_personsMeant 155 = .ok (.invokestatic 95, 3) := by decide +kernel
theorem dX8_personsMeant_158 : decode cX8_personsMeant 158 = .ok (.iastore, 1) := by decide +kernel
theorem dX8_personsMeant_159 : decode cX8_personsMeant 159 = .ok (.iinc 2 1, 3) := by decide +kernel
theorem dX8_personsMeant_162 : decode cX8_personsMeant 162 = .ok (.iinc 3 1, 3) := by decide +kernel
theorem dX8_personsMeant_165 : decode cX8_personsMeant 165 = .ok (.goto (-161), 3) := by decide +kernel
theorem dX8_personsMeant_168 : decode cX8_personsMeant 168 = .ok (.iload_n 2, 1) := by decide +kernel
theorem dX8_personsMeant_169 : decode cX8_personsMeant 169 = .ok (.iconst 1, 1) := by decide +kernel
theorem dX8_personsMeant_170 : decode cX8_personsMeant 170 = .ok (.if_icmp .ne 24, 3) := by decide +kernel
theorem dX8_personsMeant_173 : decode cX8_personsMeant 173 = .ok (.aload_n 0, 1) := by decide +kernel
theorem dX8_personsMeant_174 : decode cX8_personsMeant 174 = .ok (.getfield 18, 3) := by decide +kernel
theorem dX8_personsMeant_177 : decode cX8_personsMeant 177 = .ok (.iconst 0, 1) := by decide +kernel
theorem dX8_personsMeant_178 : decode cX8_personsMeant 178 = .ok (.iaload, 1) := by decide +kernel
theorem dX8_personsMeant_179 : decode cX8_personsMeant 179 = .ok (.iconst 1, 1) := by decide +kernel
theorem dX8_personsMeant_180 : decode cX8_personsMeant 180 = .ok (.aload_n 1, 1) := by decide +kernel
theorem dX8_personsMeant_181 : decode cX8_personsMeant 181 = .ok (.getfield 99, 3) := by decide +kernel
theorem dX8_personsMeant_184 : decode cX8_personsMeant 184 = .ok (.getfield 105, 3) := by decide +kernel
theorem dX8_personsMeant_187 : decode cX8_personsMeant 187 = .ok (.ishl, 1) := by decide +kernel
theorem dX8_personsMeant_188 : decode cX8_personsMeant 188 = .ok (.iconst 1, 1) := by decide +kernel
theorem dX8_personsMeant_189 : decode cX8_personsMeant 189 = .ok (.isub, 1) := by decide +kernel
theorem dX8_personsMeant_190 : decode cX8_personsMeant 190 = .ok (.iand, 1) := by decide +kernel
theorem dX8_personsMeant_191 : decode cX8_personsMeant 191 = .ok (.goto 4, 3) := by decide +kernel
theorem dX8_personsMeant_194 : decode cX8_personsMeant 194 = .ok (.iconst 0, 1) := by decide +kernel
theorem dX8_personsMeant_195 : decode cX8_personsMeant 195 = .ok (.ireturn, 1) := by decide +kernel
theorem dX8_personsOf_0 : decode cX8_personsOf 0 = .ok (.iconst 0, 1) := by decide +kernel
theorem dX8_personsOf_1 : decode cX8_personsOf 1 = .ok (.istore_n 3, 1) := by decide +kernel
theorem dX8_personsOf_2 : decode cX8_personsOf 2 = .ok (.iconst 0, 1) := by decide +kernel
theorem dX8_personsOf_3 : decode cX8_personsOf 3 = .ok (.istore 4, 2) := by decide +kernel
theorem dX8_personsOf_5 : decode cX8_personsOf 5 = .ok (.iload 4, 2) := by decide +kernel
theorem dX8_personsOf_7 : decode cX8_personsOf 7 = .ok (.aload_n 0, 1) := by decide +kernel
theorem dX8_personsOf_8 : decode cX8_personsOf 8 = .ok (.getfield 99, 3) := by decide +kernel
theorem dX8_personsOf_11 : decode cX8_personsOf 11 = .ok (.getfield 105, 3) := by decide +kernel
theorem dX8_personsOf_14 : decode cX8_personsOf 14 = .ok (.if_icmp .ge 67, 3) := by decide +kernel
theorem dX8_personsOf_17 : decode cX8_personsOf 17 = .ok (.iload 4, 2) := by decide +kernel
theorem dX8_personsOf_19 : decode cX8_personsOf 19 = .ok (.bipush 6, 2) := by decide +kernel
theorem dX8_personsOf_21 : decode cX8_personsOf 21 = .ok (.if_icmp .ge 60, 3) := by decide +kernel
theorem dX8_personsOf_24 : decode cX8_personsOf 24 = .ok (.iload_n 1, 1) := by decide +kernel
theorem dX8_personsOf_25 : decode cX8_personsOf 25 = .ok (.bipush 100, 2) := by decide +kernel
theorem dX8_personsOf_27 : decode cX8_personsOf 27 = .ok (.if_icmp .lt 26, 3) := by decide +kernel
theorem dX8_personsOf_30 : decode cX8_personsOf 30 = .ok (.aload_n 0, 1) := by decide +kernel
theorem dX8_personsOf_31 : decode cX8_personsOf 31 = .ok (.iload_n 1, 1) := by decide +kernel
theorem dX8_personsOf_32 : decode cX8_personsOf 32 = .ok (.bipush 100, 2) := by decide +kernel
theorem dX8_personsOf_34 : decode cX8_personsOf 34 = .ok (.irem, 1) := by decide +kernel
theorem dX8_personsOf_35 : decode cX8_personsOf 35 = .ok (.iload 4, 2) := by decide +kernel
theorem dX8_personsOf_37 : decode cX8_personsOf 37 = .ok (.invokestatic 108, 3) := by decide +kernel
theorem dX8_personsOf_40 : decode cX8_personsOf 40 = .ok (.iload_n 1, 1) := by decide +kernel
theorem dX8_personsOf_41 : decode cX8_personsOf 41 = .ok (.bipush 100, 2) := by decide +kernel
theorem dX8_personsOf_43 : decode cX8_personsOf 43 = .ok (.idiv, 1) := by decide +kernel
theorem dX8_personsOf_44 : decode cX8_personsOf 44 = .ok (.iconst 1, 1) := by decide +kernel
theorem dX8_personsOf_45 : decode cX8_personsOf 45 = .ok (.isub, 1) := by decide +kernel
theorem dX8_personsOf_46 : decode cX8_personsOf 46 = .ok (.iload_n 2, 1) := by decide +kernel
theorem dX8_personsOf_47 : decode cX8_personsOf 47 = .ok (.invokestatic 111, 3) := by decide +kernel
theorem dX8_personsOf_50 : decode cX8_personsOf 50 = .ok (.goto 11, 3) := by decide +kernel
theorem dX8_personsOf_53 : decode cX8_personsOf 53 = .ok (.aload_n 0, 1) := by decide +kernel
theorem dX8_personsOf_54 : decode cX8_personsOf 54 = .ok (.iload_n 1, 1) := by decide +kernel
theorem dX8_personsOf_55 : decode cX8_personsOf 55 = .ok (.iload_n 2, 1) := by decide +kernel
theorem dX8_personsOf_56 : decode cX8_personsOf 56 = .ok (.iload 4, 2) := by decide +kernel
theorem dX8_personsOf_58 : decode cX8_personsOf 58 = .ok (.invokestatic 115, 3) := by decide +kernel
theorem dX8_personsOf_61 : decode cX8_personsOf 61 = .ok (.istore 5, 2) := by decide +kernel
theorem dX8_personsOf_63 : decode cX8_personsOf 63 = .ok (.iload 5, 2) := by decide +kernel
theorem dX8_personsOf_65 : decode cX8_personsOf 65 = .ok (.ifCond .eq 10, 3) := by decide +kernel
theorem dX8_personsOf_68 : decode cX8_personsOf 68 = .ok (.iload_n 3, 1) := by decide +kernel
theorem dX8_personsOf_69 : decode cX8_personsOf 69 = .ok (.iconst 1, 1) := by decide +kernel
theorem dX8_personsOf_70 : decode cX8_personsOf 70 = .ok (.iload 4, 2) := by decide +kernel
theorem dX8_personsOf_72 : decode cX8_personsOf 72 = .ok (.ishl, 1) := by decide +kernel
theorem dX8_personsOf_73 : decode cX8_personsOf 73 = .ok (.ior, 1) := by decide +kernel
theorem dX8_personsOf_74 : decode cX8_personsOf 74 = .ok (.istore_n 3, 1) := by decide +kernel
theorem dX8_personsOf_75 : decode cX8_personsOf 75 = .ok (.iinc 4 1, 3) := by decide +kernel
theorem dX8_personsOf_78 : decode cX8_personsOf 78 = .ok (.goto (-73), 3) := by decide +kernel
theorem dX8_personsOf_81 : decode cX8_personsOf 81 = .ok (.iload_n 3, 1) := by decide +kernel
theorem dX8_personsOf_82 : decode cX8_personsOf 82 = .ok (.ireturn, 1) := by decide +kernel
theorem dX8_readCompared_0 : decode cX8_readCompared 0 = .ok (.aload_n 1, 1) := by decide +kernel
theorem dX8_readCompared_1 : decode cX8_readCompared 1 = .ok (.invokevirtual 41, 3) := by decide +kernel
theorem dX8_readCompared_4 : decode cX8_readCompared 4 = .ok (.aload_n 1, 1) := by decide +kernel
theorem dX8_readCompared_5 : decode cX8_readCompared 5 = .ok (.bipush 60, 2) := by decide +kernel
theorem dX8_readCompared_7 : decode cX8_readCompared 7 = .ok (.invokevirtual 65, 3) := by decide +kernel
theorem dX8_readCompared_10 : decode cX8_readCompared 10 = .ok (.ifCond .ne 27, 3) := by decide +kernel
theorem dX8_readCompared_13 : decode cX8_readCompared 13 = .ok (.aload_n 1, 1) := by decide +kernel
theorem dX8_readCompared_14 : decode cX8_readCompared 14 = .ok (.bipush 61, 2) := by decide +kernel
theorem dX8_readCompared_16 : decode cX8_readCompared 16 = .ok (.invokevirtual 65, 3) := by decide +kernel
theorem dX8_readCompared_19 : decode cX8_readCompared 19 = .ok (.ifCond .ne 18, 3) := by decide +kernel
theorem dX8_readCompared_22 : decode cX8_readCompared 22 = .ok (.aload_n 1, 1) := by decide +kernel
theorem dX8_readCompared_23 : decode cX8_readCompared 23 = .ok (.bipush 62, 2) := by decide +kernel
theorem dX8_readCompared_25 : decode cX8_readCompared 25 = .ok (.invokevirtual 65, 3) := by decide +kernel
theorem dX8_readCompared_28 : decode cX8_readCompared 28 = .ok (.ifCond .ne 9, 3) := by decide +kernel
theorem dX8_readCompared_31 : decode cX8_readCompared 31 = .ok (.aload_n 1, 1) := by decide +kernel
theorem dX8_readCompared_32 : decode cX8_readCompared 32 = .ok (.iconst 1, 1) := by decide +kernel
theorem dX8_readCompared_33 : decode cX8_readCompared 33 = .ok (.invokevirtual 51, 3) := by decide +kernel
theorem dX8_readCompared_36 : decode cX8_readCompared 36 = .ok (.ireturn, 1) := by decide +kernel
theorem dX8_readCompared_37 : decode cX8_readCompared 37 = .ok (.aload_n 1, 1) := by decide +kernel
theorem dX8_readCompared_38 : decode cX8_readCompared 38 = .ok (.getfield 81, 3) := by decide +kernel
theorem dX8_readCompared_41 : decode cX8_readCompared 41 = .ok (.l2i, 1) := by decide +kernel
theorem dX8_readCompared_42 : decode cX8_readCompared 42 = .ok (.bipush 60, 2) := by decide +kernel
theorem dX8_readCompared_44 : decode cX8_readCompared 44 = .ok (.isub, 1) := by decide +kernel
theorem dX8_readCompared_45 : decode cX8_readCompared 45 = .ok (.istore_n 3, 1) := by decide +kernel
theorem dX8_readCompared_46 : decode cX8_readCompared 46 = .ok (.aload_n 1, 1) := by decide +kernel
theorem dX8_readCompared_47 : decode cX8_readCompared 47 = .ok (.iconst 0, 1) := by decide +kernel
theorem dX8_readCompared_48 : decode cX8_readCompared 48 = .ok (.sipush 999, 3) := by decide +kernel
theorem dX8_readCompared_51 : decode cX8_readCompared 51 = .ok (.invokevirtual 91, 3) := by decide +kernel
theorem dX8_readCompared_54 : decode cX8_readCompared 54 = .ok (.ifCond .ne 5, 3) := by decide +kernel
theorem dX8_readCompared_57 : decode cX8_readCompared 57 = .ok (.iconst 0, 1) := by decide +kernel
theorem dX8_readCompared_58 : decode cX8_readCompared 58 = .ok (.ireturn, 1) := by decide +kernel
theorem dX8_readCompared_59 : decode cX8_readCompared 59 = .ok (.aload_n 0, 1) := by decide +kernel
theorem dX8_readCompared_60 : decode cX8_readCompared 60 = .ok (.bipush 100, 2) := by decide +kernel
theorem dX8_readCompared_62 : decode cX8_readCompared 62 = .ok (.iload_n 3, 1) := by decide +kernel
theorem dX8_readCompared_63 : decode cX8_readCompared 63 = .ok (.iconst 1, 1) := by decide +kernel
theorem dX8_readCompared_64 : decode cX8_readCompared 64 = .ok (.iadd, 1) := by decide +kernel
theorem dX8_readCompared_65 : decode cX8_readCompared 65 = .ok (.imul, 1) := by decide +kernel
theorem dX8_readCompared_66 : decode cX8_readCompared 66 = .ok (.iload_n 2, 1) := by decide +kernel
theorem dX8_readCompared_67 : decode cX8_readCompared 67 = .ok (.iadd, 1) := by decide +kernel
theorem dX8_readCompared_68 : decode cX8_readCompared 68 = .ok (.aload_n 1, 1) := by decide +kernel
theorem dX8_readCompared_69 : decode cX8_readCompared 69 = .ok (.getfield 81, 3) := by decide +kernel
theorem dX8_readCompared_72 : decode cX8_readCompared 72 = .ok (.l2i, 1) := by decide +kernel
theorem dX8_readCompared_73 : decode cX8_readCompared 73 = .ok (.invokevirtual 58, 3) := by decide +kernel
theorem dX8_readCompared_76 : decode cX8_readCompared 76 = .ok (.iconst 1, 1) := by decide +kernel
theorem dX8_readCompared_77 : decode cX8_readCompared 77 = .ok (.ireturn, 1) := by decide +kernel
theorem dX8_readCond_0 : decode cX8_readCond 0 = .ok (.iconst 0, 1) := by decide +kernel
theorem dX8_readCond_1 : decode cX8_readCond 1 = .ok (.istore 4, 2) := by decide +kernel
theorem dX8_readCond_3 : decode cX8_readCond 3 = .ok (.iload 4, 2) := by decide +kernel
theorem dX8_readCond_5 : decode cX8_readCond 5 = .ok (.bipush 20, 2) := by decide +kernel
theorem dX8_readCond_7 : decode cX8_readCond 7 = .ok (.if_icmp .gt 93, 3) := by decide +kernel
theorem dX8_readCond_10 : decode cX8_readCond 10 = .ok (.iconst 0, 1) := by decide +kernel
theorem dX8_readCond_11 : decode cX8_readCond 11 = .ok (.istore 5, 2) := by decide +kernel
theorem dX8_readCond_13 : decode cX8_readCond 13 = .ok (.iload 5, 2) := by decide +kernel
theorem dX8_readCond_15 : decode cX8_readCond 15 = .ok (.bipush 20, 2) := by decide +kernel
theorem dX8_readCond_17 : decode cX8_readCond 17 = .ok (.if_icmp .gt 49, 3) := by decide +kernel
theorem dX8_readCond_20 : decode cX8_readCond 20 = .ok (.aload_n 0, 1) := by decide +kernel
theorem dX8_readCond_21 : decode cX8_readCond 21 = .ok (.aload_n 1, 1) := by decide +kernel
theorem dX8_readCond_22 : decode cX8_readCond 22 = .ok (.aload_n 2, 1) := by decide +kernel
theorem dX8_readCond_23 : decode cX8_readCond 23 = .ok (.iload_n 3, 1) := by decide +kernel
theorem dX8_readCond_24 : decode cX8_readCond 24 = .ok (.invokevirtual 55, 3) := by decide +kernel
theorem dX8_readCond_27 : decode cX8_readCond 27 = .ok (.ifCond .ne 5, 3) := by decide +kernel
theorem dX8_readCond_30 : decode cX8_readCond 30 = .ok (.iconst 0, 1) := by decide +kernel
theorem dX8_readCond_31 : decode cX8_readCond 31 = .ok (.ireturn, 1) := by decide +kernel
theorem dX8_readCond_32 : decode cX8_readCond 32 = .ok (.iload 5, 2) := by decide +kernel
theorem dX8_readCond_34 : decode cX8_readCond 34 = .ok (.ifCond .le 10, 3) := by decide +kernel
theorem dX8_readCond_37 : decode cX8_readCond 37 = .ok (.aload_n 0, 1) := by decide +kernel
theorem dX8_readCond_38 : decode cX8_readCond 38 = .ok (.bipush 14, 2) := by decide +kernel
theorem dX8_readCond_40 : decode cX8_readCond 40 = .ok (.iconst 0, 1) := by decide +kernel
theorem dX8_readCond_41 : decode cX8_readCond 41 = .ok (.invokevirtual 58, 3) := by decide +kernel
theorem dX8_readCond_44 : decode cX8_readCond 44 = .ok (.aload_n 1, 1) := by decide +kernel
theorem dX8_readCond_45 : decode cX8_readCond 45 = .ok (.getfield 62, 3) := by decide +kernel
theorem dX8_readCond_48 : decode cX8_readCond 48 = .ok (.bipush 14, 2) := by decide +kernel
theorem dX8_readCond_50 : decode cX8_readCond 50 = .ok (.if_icmp .eq 6, 3) := by decide +kernel
theorem dX8_readCond_53 : decode cX8_readCond 53 = .ok (.goto 13, 3) := by decide +kernel
theorem dX8_readCond_56 : decode cX8_readCond 56 = .ok (.aload_n 1, 1) := by decide +kernel
theorem dX8_readCond_57 : decode cX8_readCond 57 = .ok (.invokevirtual 41, 3) := by decide +kernel
theorem dX8_readCond_60 : decode cX8_readCond 60 = .ok (.iinc 5 1, 3) := by decide +kernel
theorem dX8_readCond_63 : decode cX8_readCond 63 = .ok (.goto (-50), 3) := by decide +kernel
theorem dX8_readCond_66 : decode cX8_readCond 66 = .ok (.iload 4, 2) := by decide +kernel
theorem dX8_readCond_68 : decode cX8_readCond 68 = .ok (.ifCond .le 10, 3) := by decide +kernel
theorem dX8_readCond_71 : decode cX8_readCond 71 = .ok (.aload_n 0, 1) := by decide +kernel
theorem dX8_readCond_72 : decode cX8_readCond 72 = .ok (.bipush 13, 2) := by decide +kernel
theorem dX8_readCond_74 : decode cX8_readCond 74 = .ok (.iconst 0, 1) := by decide +kernel
theorem dX8_readCond_75 : decode cX8_readCond 75 = .ok (.invokevirtual 58, 3) := by decide +kernel
theorem dX8_readCond_78 : decode cX8_readCond 78 = .ok (.aload_n 1, 1) := by decide +kernel
theorem dX8_readCond_79 : decode cX8_readCond 79 = .ok (.getfield 62, 3) := by decide +kernel
theorem dX8_readCond_82 : decode cX8_readCond 82 = .ok (.bipush 13, 2) := by decide +kernel
theorem dX8_readCond_84 : decode cX8_readCond 84 = .ok (.if_icmp .eq 6, 3) := by decide +kernel
theorem dX8_readCond_87 : decode cX8_readCond 87 = .ok (.goto 13, 3) := by decide +kernel
theorem dX8_readCond_90 : decode cX8_readCond 90 = .ok (.aload_n 1, 1) := by decide +kernel
theorem dX8_readCond_91 : decode cX8_readCond 91 = .ok (.invokevirtual 41, 3) := by decide +kernel
theorem dX8_readCond_94 : decode cX8_readCond 94 = .ok (.iinc 4 1, 3) := by decide +kernel
theorem dX8_readCond_97 : decode cX8_readCond 97 = .ok (.goto (-94), 3) := by decide +kernel
theorem dX8_readCond_100 : decode cX8_readCond 100 = .ok (.iconst 1, 1) := by decide +kernel
theorem dX8_readCond_101 : decode cX8_readCond 101 = .ok (.ireturn, 1) := by decide +kernel
theorem dX8_readHouse_0 : decode cX8_readHouse 0 = .ok (.aload_n 1, 1) := by decide +kernel
theorem dX8_readHouse_1 : decode cX8_readHouse 1 = .ok (.invokevirtual 77, 3) := by decide +kernel
theorem dX8_readHouse_4 : decode cX8_readHouse 4 = .ok (.ifCond .ne 5, 3) := by decide +kernel
theorem dX8_readHouse_7 : decode cX8_readHouse 7 = .ok (.iconst 0, 1) := by decide +kernel
theorem dX8_readHouse_8 : decode cX8_readHouse 8 = .ok (.ireturn, 1) := by decide +kernel
theorem dX8_readHouse_9 : decode cX8_readHouse 9 = .ok (.aload_n 2, 1) := by decide +kernel
theorem dX8_readHouse_10 : decode cX8_readHouse 10 = .ok (.aload_n 1, 1) := by decide +kernel
theorem dX8_readHouse_11 : decode cX8_readHouse 11 = .ok (.getfield 81, 3) := by decide +kernel
theorem dX8_readHouse_14 : decode cX8_readHouse 14 = .ok (.invokevirtual 85, 3) := by decide +kernel
theorem dX8_readHouse_17 : decode cX8_readHouse 17 = .ok (.istore_n 3, 1) := by decide +kernel
theorem dX8_readHouse_18 : decode cX8_readHouse 18 = .ok (.aload_n 0, 1) := by decide +kernel
theorem dX8_readHouse_19 : decode cX8_readHouse 19 = .ok (.bipush 19, 2) := by decide +kernel
theorem dX8_readHouse_21 : decode cX8_readHouse 21 = .ok (.iload_n 3, 1) := by decide +kernel
theorem dX8_readHouse_22 : decode cX8_readHouse 22 = .ok (.invokevirtual 58, 3) := by decide +kernel
theorem dX8_readHouse_25 : decode cX8_readHouse 25 = .ok (.iload_n 3, 1) := by decide +kernel
theorem dX8_readHouse_26 : decode cX8_readHouse 26 = .ok (.iconst (-1), 1) := by decide +kernel
theorem dX8_readHouse_27 : decode cX8_readHouse 27 = .ok (.if_icmp .ne 11, 3) := by decide +kernel
theorem dX8_readHouse_30 : decode cX8_readHouse 30 = .ok (.aload_n 1, 1) := by decide +kernel
theorem dX8_readHouse_31 : decode cX8_readHouse 31 = .ok (.iconst 3, 1) := by decide +kernel
theorem dX8_readHouse_32 : decode cX8_readHouse 32 = .ok (.invokevirtual 51, 3) := by decide +kernel
theorem dX8_readHouse_35 : decode cX8_readHouse 35 = .ok (.ifCond .eq 7, 3) := by decide +kernel
theorem dX8_readHouse_38 : decode cX8_readHouse 38 = .ok (.iconst 1, 1) := by decide +kernel
theorem dX8_readHouse_39 : decode cX8_readHouse 39 = .ok (.goto 4, 3) := by decide +kernel
theorem dX8_readHouse_42 : decode cX8_readHouse 42 = .ok (.iconst 0, 1) := by decide +kernel
theorem dX8_readHouse_43 : decode cX8_readHouse 43 = .ok (.ireturn, 1) := by decide +kernel
theorem dX8_readOne_0 : decode cX8_readOne 0 = .ok (.aload_n 1, 1) := by decide +kernel
theorem dX8_readOne_1 : decode cX8_readOne 1 = .ok (.getfield 62, 3) := by decide +kernel
theorem dX8_readOne_4 : decode cX8_readOne 4 = .ok (.istore 4, 2) := by decide +kernel
theorem dX8_readOne_6 : decode cX8_readOne 6 = .ok (.aload_n 1, 1) := by decide +kernel
theorem dX8_readOne_7 : decode cX8_readOne 7 = .ok (.bipush 40, 2) := by decide +kernel
theorem dX8_readOne_9 : decode cX8_readOne 9 = .ok (.invokevirtual 65, 3) := by decide +kernel
theorem dX8_readOne_12 : decode cX8_readOne 12 = .ok (.istore 5, 2) := by decide +kernel
theorem dX8_readOne_14 : decode cX8_readOne 14 = .ok (.iload 5, 2) := by decide +kernel
theorem dX8_readOne_16 : decode cX8_readOne 16 = .ok (.ifCond .ne 16, 3) := by decide +kernel
theorem dX8_readOne_19 : decode cX8_readOne 19 = .ok (.iload 4, 2) := by decide +kernel
theorem dX8_readOne_21 : decode cX8_readOne 21 = .ok (.bipush 15, 2) := by decide +kernel
theorem dX8_readOne_23 : decode cX8_readOne 23 = .ok (.if_icmp .ge 9, 3) := by decide +kernel
theorem dX8_readOne_26 : decode cX8_readOne 26 = .ok (.aload_n 1, 1) := by decide +kernel
theorem dX8_readOne_27 : decode cX8_readOne 27 = .ok (.iconst 1, 1) := by decide +kernel
theorem dX8_readOne_28 : decode cX8_readOne 28 = .ok (.invokevirtual 51, 3) := by decide +kernel
theorem dX8_readOne_31 : decode cX8_readOne 31 = .ok (.ireturn, 1) := by decide +kernel
theorem dX8_readOne_32 : decode cX8_readOne 32 = .ok (.iload_n 3, 1) := by decide +kernel
theorem dX8_readOne_33 : decode cX8_readOne 33 = .ok (.bipush 8, 2) := by decide +kernel
theorem dX8_readOne_35 : decode cX8_readOne 35 = .ok (.if_icmp .gt 12, 3) := by decide +kernel
theorem dX8_readOne_38 : decode cX8_readOne 38 = .ok (.aload_n 0, 1) := by decide +kernel
theorem dX8_readOne_39 : decode cX8_readOne 39 = .ok (.getfield 25, 3) := by decide +kernel
theorem dX8_readOne_42 : decode cX8_readOne 42 = .ok (.bipush 20, 2) := by decide +kernel
theorem dX8_readOne_44 : decode cX8_readOne 44 = .ok (.if_icmp .lt 9, 3) := by decide +kernel
theorem dX8_readOne_47 : decode cX8_readOne 47 = .ok (.aload_n 1, 1) := by decide +kernel
theorem dX8_readOne_48 : decode cX8_readOne 48 = .ok (.iconst 4, 1) := by decide +kernel
theorem dX8_readOne_49 : decode cX8_readOne 49 = .ok (.invokevirtual 51, 3) := by decide +kernel
theorem dX8_readOne_52 : decode cX8_readOne 52 = .ok (.ireturn, 1) := by decide +kernel
theorem dX8_readOne_53 : decode cX8_readOne 53 = .ok (.aload_n 0, 1) := by decide +kernel
theorem dX8_readOne_54 : decode cX8_readOne 54 = .ok (.dup, 1) := by decide +kernel
theorem dX8_readOne_55 : decode cX8_readOne 55 = .ok (.getfield 25, 3) := by decide +kernel
theorem dX8_readOne_58 : decode cX8_readOne 58 = .ok (.iconst 1, 1) := by decide +kernel
theorem dX8_readOne_59 : decode cX8_readOne 59 = .ok (.iadd, 1) := by decide +kernel
theorem dX8_readOne_60 : decode cX8_readOne 60 = .ok (.putfield 25, 3) := by decide +kernel
theorem dX8_readOne_63 : decode cX8_readOne 63 = .ok (.iload 4, 2) := by decide +kernel
theorem dX8_readOne_65 : decode cX8_readOne 65 = .ok (.bipush 15, 2) := by decide +kernel
theorem dX8_readOne_67 : decode cX8_readOne 67 = .ok (.if_icmp .ne 28, 3) := by decide +kernel
theorem dX8_readOne_70 : decode cX8_readOne 70 = .ok (.aload_n 1, 1) := by decide +kernel
theorem dX8_readOne_71 : decode cX8_readOne 71 = .ok (.invokevirtual 41, 3) := by decide +kernel
theorem dX8_readOne_74 : decode cX8_readOne 74 = .ok (.aload_n 0, 1) := by decide +kernel
theorem dX8_readOne_75 : decode cX8_readOne 75 = .ok (.aload_n 1, 1) := by decide +kernel
theorem dX8_readOne_76 : decode cX8_readOne 76 = .ok (.aload_n 2, 1) := by decide +kernel
theorem dX8_readOne_77 : decode cX8_readOne 77 = .ok (.iload_n 3, 1) := by decide +kernel
theorem dX8_readOne_78 : decode cX8_readOne 78 = .ok (.iconst 1, 1) := by decide +kernel
theorem dX8_readOne_79 : decode cX8_readOne 79 = .ok (.iadd, 1) := by decide +kernel
theorem dX8_readOne_80 : decode cX8_readOne 80 = .ok (.invokevirtual 55, 3) := by decide +kernel
theorem dX8_readOne_83 : decode cX8_readOne 83 = .ok (.istore 6, 2) := by decide +kernel
theorem dX8_readOne_85 : decode cX8_readOne 85 = .ok (.aload_n 0, 1) := by decide +kernel
theorem dX8_readOne_86 : decode cX8_readOne 86 = .ok (.bipush 15, 2) := by decide +kernel
theorem dX8_readOne_88 : decode cX8_readOne 88 = .ok (.iconst 0, 1) := by decide +kernel
theorem dX8_readOne_89 : decode cX8_readOne 89 = .ok (.invokevirtual 58, 3) := by decide +kernel
theorem dX8_readOne_92 : decode cX8_readOne 92 = .ok (.iload 6, 2) := by decide +kernel
theorem dX8_readOne_94 : decode cX8_readOne 94 = .ok (.ireturn, 1) := by decide +kernel
theorem dX8_readOne_95 : decode cX8_readOne 95 = .ok (.iconst 1, 1) := by decide +kernel
theorem dX8_readOne_96 : decode cX8_readOne 96 = .ok (.istore 6, 2) := by decide +kernel
theorem dX8_readOne_98 : decode cX8_readOne 98 = .ok (.iload 5, 2) := by decide +kernel
theorem dX8_readOne_100 : decode cX8_readOne 100 = .ok (.ifCond .eq 46, 3) := by decide +kernel
theorem dX8_readOne_103 : decode cX8_readOne 103 = .ok (.aload_n 1, 1) := by decide +kernel
theorem dX8_readOne_104 : decode cX8_readOne 104 = .ok (.invokevirtual 41, 3) := by decide +kernel
theorem dX8_readOne_107 : decode cX8_readOne 107 = .ok (.aload_n 0, 1) := by decide +kernel
theorem dX8_readOne_108 : decode cX8_readOne 108 = .ok (.aload_n 1, 1) := by decide +kernel
theorem dX8_readOne_109 : decode cX8_readOne 109 = .ok (.aload_n 2, 1) := by decide +kernel
theorem dX8_readOne_110 : decode cX8_readOne 110 = .ok (.iload_n 3, 1) := by decide +kernel
theorem dX8_readOne_111 : decode cX8_readOne 111 = .ok (.iconst 1, 1) := by decide +kernel
theorem dX8_readOne_112 : decode cX8_readOne 112 = .ok (.iadd, 1) := by decide +kernel
theorem dX8_readOne_113 : decode cX8_readOne 113 = .ok (.invokevirtual 44, 3) := by decide +kernel
theorem dX8_readOne_116 : decode cX8_readOne 116 = .ok (.ifCond .eq 24, 3) := by decide +kernel
theorem dX8_readOne_119 : decode cX8_readOne 119 = .ok (.aload_n 1, 1) := by decide +kernel
theorem dX8_readOne_120 : decode cX8_readOne 120 = .ok (.bipush 41, 2) := by decide +kernel
theorem dX8_readOne_122 : decode cX8_readOne 122 = .ok (.invokevirtual 65, 3) := by decide +kernel
theorem dX8_readOne_125 : decode cX8_readOne 125 = .ok (.ifCond .ne 11, 3) := by decide +kernel
theorem dX8_readOne_128 : decode cX8_readOne 128 = .ok (.aload_n 1, 1) := by decide +kernel
theorem dX8_readOne_129 : decode cX8_readOne 129 = .ok (.iconst 1, 1) := by decide +kernel
theorem dX8_readOne_130 : decode cX8_readOne 130 = .ok (.invokevirtual 51, 3) := by decide +kernel
theorem dX8_readOne_133 : decode cX8_readOne 133 = .ok (.ifCond .eq 7, 3) := by decide +kernel
theorem dX8_readOne_136 : decode cX8_readOne 136 = .ok (.iconst 1, 1) := by decide +kernel
theorem dX8_readOne_137 : decode cX8_readOne 137 = .ok (.goto 4, 3) := by decide +kernel
theorem dX8_readOne_140 : decode cX8_readOne 140 = .ok (.iconst 0, 1) := by decide +kernel
theorem dX8_readOne_141 : decode cX8_readOne 141 = .ok (.istore 6, 2) := by decide +kernel
theorem dX8_readOne_143 : decode cX8_readOne 143 = .ok (.goto 47, 3) := by decide +kernel
theorem dX8_readOne_146 : decode cX8_readOne 146 = .ok (.iload 4, 2) := by decide +kernel
theorem dX8_readOne_148 : decode cX8_readOne 148 = .ok (.bipush 19, 2) := by decide +kernel
theorem dX8_readOne_150 : decode cX8_readOne 150 = .ok (.if_icmp .ne 14, 3) := by decide +kernel
theorem dX8_readOne_153 : decode cX8_readOne 153 = .ok (.aload_n 0, 1) := by decide +kernel
theorem dX8_readOne_154 : decode cX8_readOne 154 = .ok (.aload_n 1, 1) := by decide +kernel
theorem dX8_readOne_155 : decode cX8_readOne 155 = .ok (.aload_n 2, 1) := by decide +kernel
theorem dX8_readOne_156 : decode cX8_readOne 156 = .ok (.invokevirtual 69, 3) := by decide +kernel
theorem dX8_readOne_159 : decode cX8_readOne 159 = .ok (.istore 6, 2) := by decide +kernel
theorem dX8_readOne_161 : decode cX8_readOne 161 = .ok (.goto 29, 3) := by decide +kernel
theorem dX8_readOne_164 : decode cX8_readOne 164 = .ok (.iload 4, 2) := by decide +kernel
theorem dX8_readOne_166 : decode cX8_readOne 166 = .ok (.bipush 20, 2) := by decide +kernel
theorem dX8_readOne_168 : decode cX8_readOne 168 = .ok (.if_icmp .lt 15, 3) := by decide +kernel
theorem dX8_readOne_171 : decode cX8_readOne 171 = .ok (.aload_n 0, 1) := by decide +kernel
theorem dX8_readOne_172 : decode cX8_readOne 172 = .ok (.aload_n 1, 1) := by decide +kernel
theorem dX8_readOne_173 : decode cX8_readOne 173 = .ok (.iload 4, 2) := by decide +kernel
theorem dX8_readOne_175 : decode cX8_readOne 175 = .ok (.invokevirtual 73, 3) := by decide +kernel
theorem dX8_readOne_178 : decode cX8_readOne 178 = .ok (.istore 6, 2) := by decide +kernel
theorem dX8_readOne_180 : decode cX8_readOne 180 = .ok (.goto 10, 3) := by decide +kernel
theorem dX8_readOne_183 : decode cX8_readOne 183 = .ok (.aload_n 0, 1) := by decide +kernel
theorem dX8_readOne_184 : decode cX8_readOne 184 = .ok (.iload 4, 2) := by decide +kernel
theorem dX8_readOne_186 : decode cX8_readOne 186 = .ok (.iconst 0, 1) := by decide +kernel
theorem dX8_readOne_187 : decode cX8_readOne 187 = .ok (.invokevirtual 58, 3) := by decide +kernel
theorem dX8_readOne_190 : decode cX8_readOne 190 = .ok (.iload 6, 2) := by decide +kernel
theorem dX8_readOne_192 : decode cX8_readOne 192 = .ok (.ifCond .eq 7, 3) := by decide +kernel
theorem dX8_readOne_195 : decode cX8_readOne 195 = .ok (.aload_n 1, 1) := by decide +kernel
theorem dX8_readOne_196 : decode cX8_readOne 196 = .ok (.invokevirtual 41, 3) := by decide +kernel
theorem dX8_readOne_199 : decode cX8_readOne 199 = .ok (.iload 6, 2) := by decide +kernel
theorem dX8_readOne_201 : decode cX8_readOne 201 = .ok (.ireturn, 1) := by decide +kernel
theorem dX8_readText_0 : decode cX8_readText 0 = .ok (.aload_n 0, 1) := by decide +kernel
theorem dX8_readText_1 : decode cX8_readText 1 = .ok (.invokevirtual 32, 3) := by decide +kernel
theorem dX8_readText_4 : decode cX8_readText 4 = .ok (.aload_n 1, 1) := by decide +kernel
theorem dX8_readText_5 : decode cX8_readText 5 = .ok (.sipush 200, 3) := by decide +kernel
theorem dX8_readText_8 : decode cX8_readText 8 = .ok (.invokevirtual 35, 3) := by decide +kernel
theorem dX8_readText_11 : decode cX8_readText 11 = .ok (.aload_n 1, 1) := by decide +kernel
theorem dX8_readText_12 : decode cX8_readText 12 = .ok (.invokevirtual 41, 3) := by decide +kernel
theorem dX8_readText_15 : decode cX8_readText 15 = .ok (.aload_n 0, 1) := by decide +kernel
theorem dX8_readText_16 : decode cX8_readText 16 = .ok (.aload_n 1, 1) := by decide +kernel
theorem dX8_readText_17 : decode cX8_readText 17 = .ok (.aload_n 2, 1) := by decide +kernel
theorem dX8_readText_18 : decode cX8_readText 18 = .ok (.iconst 1, 1) := by decide +kernel
theorem dX8_readText_19 : decode cX8_readText 19 = .ok (.invokevirtual 44, 3) := by decide +kernel
theorem dX8_readText_22 : decode cX8_readText 22 = .ok (.ifCond .eq 16, 3) := by decide +kernel
theorem dX8_readText_25 : decode cX8_readText 25 = .ok (.aload_n 1, 1) := by decide +kernel
theorem dX8_readText_26 : decode cX8_readText 26 = .ok (.getfield 48, 3) := by decide +kernel
theorem dX8_readText_29 : decode cX8_readText 29 = .ok (.ifCond .eq 9, 3) := by decide +kernel
theorem dX8_readText_32 : decode cX8_readText 32 = .ok (.aload_n 1, 1) := by decide +kernel
theorem dX8_readText_33 : decode cX8_readText 33 = .ok (.iconst 1, 1) := by decide +kernel
theorem dX8_readText_34 : decode cX8_readText 34 = .ok (.invokevirtual 51, 3) := by decide +kernel
theorem dX8_readText_37 : decode cX8_readText 37 = .ok (.pop, 1) := by decide +kernel
theorem dX8_readText_38 : decode cX8_readText 38 = .ok (.return_, 1) := by decide +kernel
theorem dX9_add_0 : decode cX9_add 0 = .ok (.aload_n 0, 1) := by decide +kernel
theorem dX9_add_1 : decode cX9_add 1 = .ok (.getfield 15, 3) := by decide +kernel
theorem dX9_add_4 : decode cX9_add 4 = .ok (.aload_n 0, 1) := by decide +kernel
theorem dX9_add_5 : decode cX9_add 5 = .ok (.getfield 11, 3) := by decide +kernel
theorem dX9_add_8 : decode cX9_add 8 = .ok (.arraylength, 1) := by decide +kernel
theorem dX9_add_9 : decode cX9_add 9 = .ok (.if_icmp .ge 23, 3) := by decide +kernel
theorem dX9_add_12 : decode cX9_add 12 = .ok (.aload_n 0, 1) := by decide +kernel
theorem dX9_add_13 : decode cX9_add 13 = .ok (.getfield 11, 3) := by decide +kernel
theorem dX9_add_16 : decode cX9_add 16 = .ok (.aload_n 0, 1) := by decide +kernel
theorem dX9_add_17 : decode cX9_add 17 = .ok (.getfield 15, 3) := by decide +kernel
theorem dX9_add_20 : decode cX9_add 20 = .ok (.iload_n 1, 1) := by decide +kernel
theorem dX9_add_21 : decode cX9_add 21 = .ok (.iastore, 1) := by decide +kernel
theorem dX9_add_22 : decode cX9_add 22 = .ok (.aload_n 0, 1) := by decide +kernel
theorem dX9_add_23 : decode cX9_add 23 = .ok (.dup, 1) := by decide +kernel
theorem dX9_add_24 : decode cX9_add 24 = .ok (.getfield 15, 3) := by decide +kernel
theorem dX9_add_27 : decode cX9_add 27 = .ok (.iconst 1, 1) := by decide +kernel
theorem dX9_add_28 : decode cX9_add 28 = .ok (.iadd, 1) := by decide +kernel
theorem dX9_add_29 : decode cX9_add 29 = .ok (.putfield 15, 3) := by decide +kernel
theorem dX9_add_32 : decode cX9_add 32 = .ok (.return_, 1) := by decide +kernel
theorem dX9_addName_0 : decode cX9_addName 0 = .ok (.bipush 30, 2) := by decide +kernel
theorem dX9_addName_2 : decode cX9_addName 2 = .ok (.istore_n 3, 1) := by decide +kernel
theorem dX9_addName_3 : decode cX9_addName 3 = .ok (.iload_n 3, 1) := by decide +kernel
theorem dX9_addName_4 : decode cX9_addName 4 = .ok (.ifCond .lt 33, 3) := by decide +kernel
theorem dX9_addName_7 : decode cX9_addName 7 = .ok (.lload_n 1, 1) := by decide +kernel
theorem dX9_addName_8 : decode cX9_addName 8 = .ok (.iload_n 3, 1) := by decide +kernel
theorem dX9_addName_9 : decode cX9_addName 9 = .ok (.lshr, 1) := by decide +kernel
theorem dX9_addName_10 : decode cX9_addName 10 = .ok (.ldc2_w 86, 3) := by decide +kernel
theorem dX9_addName_13 : decode cX9_addName 13 = .ok (.land, 1) := by decide +kernel
theorem dX9_addName_14 : decode cX9_addName 14 = .ok (.l2i, 1) := by decide +kernel
theorem dX9_addName_15 : decode cX9_addName 15 = .ok (.istore 4, 2) := by decide +kernel
theorem dX9_addName_17 : decode cX9_addName 17 = .ok (.iload 4, 2) := by decide +kernel
theorem dX9_addName_19 : decode cX9_addName 19 = .ok (.ifCond .eq 12, 3) := by decide +kernel
theorem dX9_addName_22 : decode cX9_addName 22 = .ok (.aload_n 0, 1) := by decide +kernel
theorem dX9_addName_23 : decode cX9_addName 23 = .ok (.bipush 96, 2) := by decide +kernel
theorem dX9_addName_25 : decode cX9_addName 25 = .ok (.iload 4, 2) := by decide +kernel
theorem dX9_addName_27 : decode cX9_addName 27 = .ok (.iadd, 1) := by decide +kernel
theorem dX9_addName_28 : decode cX9_addName 28 = .ok (.invokevirtual 83, 3) := by decide +kernel
theorem dX9_addName_31 : decode cX9_addName 31 = .ok (.iinc 3 (-5), 3) := by decide +kernel
theorem dX9_addName_34 : decode cX9_addName 34 = .ok (.goto (-31), 3) := by decide +kernel
theorem dX9_addName_37 : decode cX9_addName 37 = .ok (.return_, 1) := by decide +kernel
theorem dX9_addNumber_0 : decode cX9_addNumber 0 = .ok (.bipush 100, 2) := by decide +kernel
theorem dX9_addNumber_2 : decode cX9_addNumber 2 = .ok (.istore_n 2, 1) := by decide +kernel
theorem dX9_addNumber_3 : decode cX9_addNumber 3 = .ok (.iload_n 2, 1) := by decide +kernel
theorem dX9_addNumber_4 : decode cX9_addNumber 4 = .ok (.iconst 1, 1) := by decide +kernel
theorem dX9_addNumber_5 : decode cX9_addNumber 5 = .ok (.if_icmp .lt 34, 3) := by decide +kernel
theorem dX9_addNumber_8 : decode cX9_addNumber 8 = .ok (.iload_n 1, 1) := by decide +kernel
theorem dX9_addNumber_9 : decode cX9_addNumber 9 = .ok (.iload_n 2, 1) := by decide +kernel
theorem dX9_addNumber_10 : decode cX9_addNumber 10 = .ok (.if_icmp .ge 8, 3) := by decide +kernel
theorem dX9_addNumber_13 : decode cX9_addNumber 13 = .ok (.iload_n 2, 1) := by decide +kernel
theorem dX9_addNumber_14 : decode cX9_addNumber 14 = .ok (.iconst 1, 1) := by decide +kernel
theorem dX9_addNumber_15 : decode cX9_addNumber 15 = .ok (.if_icmp .ne 16, 3) := by decide +kernel
theorem dX9_addNumber_18 : decode cX9_addNumber 18 = .ok (.aload_n 0, 1) := by decide +kernel
theorem dX9_addNumber_19 : decode cX9_addNumber 19 = .ok (.bipush 48, 2) := by decide +kernel
theorem dX9_addNumber_21 : decode cX9_addNumber 21 = .ok (.iload_n 1, 1) := by decide +kernel
theorem dX9_addNumber_22 : decode cX9_addNumber 22 = .ok (.iload_n 2, 1) := by decide +kernel
theorem dX9_addNumber_23 : decode cX9_addNumber 23 = .ok (.idiv, 1) := by decide +kernel
theorem dX9_addNumber_24 : decode cX9_addNumber 24 = .ok (.bipush 10, 2) := by decide +kernel
theorem dX9_addNumber_26 : decode cX9_addNumber 26 = .ok (.irem, 1) := by decide +kernel
theorem dX9_addNumber_27 : decode cX9_addNumber 27 = .ok (.iadd, 1) := by decide +kernel
theorem dX9_addNumber_28 : decode cX9_addNumber 28 = .ok (.invokevirtual 83, 3) := by decide +kernel
theorem dX9_addNumber_31 : decode cX9_addNumber 31 = .ok (.iload_n 2, 1) := by decide +kernel
theorem dX9_addNumber_32 : decode cX9_addNumber 32 = .ok (.bipush 10, 2) := by decide +kernel
theorem dX9_addNumber_34 : decode cX9_addNumber 34 = .ok (.idiv, 1) := by decide +kernel
theorem dX9_addNumber_35 : decode cX9_addNumber 35 = .ok (.istore_n 2, 1) := by decide +kernel
theorem dX9_addNumber_36 : decode cX9_addNumber 36 = .ok (.goto (-33), 3) := by decide +kernel
theorem dX9_addNumber_39 : decode cX9_addNumber 39 = .ok (.return_, 1) := by decide +kernel
theorem dX9_byteOn_0 : decode cX9_byteOn 0 = .ok (.iload_n 1, 1) := by decide +kernel
theorem dX9_byteOn_1 : decode cX9_byteOn 1 = .ok (.ifCond .lt 29, 3) := by decide +kernel
theorem dX9_byteOn_4 : decode cX9_byteOn 4 = .ok (.iload_n 1, 1) := by decide +kernel
theorem dX9_byteOn_5 : decode cX9_byteOn 5 = .ok (.aload_n 0, 1) := by decide +kernel
theorem dX9_byteOn_6 : decode cX9_byteOn 6 = .ok (.getfield 15, 3) := by decide +kernel
theorem dX9_byteOn_9 : decode cX9_byteOn 9 = .ok (.if_icmp .ge 21, 3) := by decide +kernel
theorem dX9_byteOn_12 : decode cX9_byteOn 12 = .ok (.iload_n 1, 1) := by decide +kernel
theorem dX9_byteOn_13 : decode cX9_byteOn 13 = .ok (.aload_n 0, 1) := by decide +kernel
theorem dX9_byteOn_14 : decode cX9_byteOn 14 = .ok (.getfield 11, 3) := by decide +kernel
theorem dX9_byteOn_17 : decode cX9_byteOn 17 = .ok (.arraylength, 1) := by decide +kernel
theorem dX9_byteOn_18 : decode cX9_byteOn 18 = .ok (.if_icmp .ge 12, 3) := by decide +kernel
theorem dX9_byteOn_21 : decode cX9_byteOn 21 = .ok (.aload_n 0, 1) := by decide +kernel
theorem dX9_byteOn_22 : decode cX9_byteOn 22 = .ok (.getfield 11, 3) := by decide +kernel
theorem dX9_byteOn_25 : decode cX9_byteOn 25 = .ok (.iload_n 1, 1) := by decide +kernel
theorem dX9_byteOn_26 : decode cX9_byteOn 26 = .ok (.iaload, 1) := by decide +kernel
theorem dX9_byteOn_27 : decode cX9_byteOn 27 = .ok (.goto 4, 3) := by decide +kernel
theorem dX9_byteOn_30 : decode cX9_byteOn 30 = .ok (.iconst (-1), 1) := by decide +kernel
theorem dX9_byteOn_31 : decode cX9_byteOn 31 = .ok (.ireturn, 1) := by decide +kernel
