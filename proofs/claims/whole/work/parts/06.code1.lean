theorem dX12_drawn_7 : decode cX12_drawn 7 = .ok (.bipush 60, 2) := by decide +kernel
theorem dX12_drawn_9 : decode cX12_drawn 9 = .ok (.invokestatic 75, 3) := by decide +kernel
theorem dX12_drawn_12 : decode cX12_drawn 12 = .ok (.ifCond .ne 5, 3) := by decide +kernel
theorem dX12_drawn_15 : decode cX12_drawn 15 = .ok (.iconst (-1), 1) := by decide +kernel
theorem dX12_drawn_16 : decode cX12_drawn 16 = .ok (.ireturn, 1) := by decide +kernel
theorem dX12_drawn_17 : decode cX12_drawn 17 = .ok (.aload_n 0, 1) := by decide +kernel
theorem dX12_drawn_18 : decode cX12_drawn 18 = .ok (.getfield 98, 3) := by decide +kernel
theorem dX12_drawn_21 : decode cX12_drawn 21 = .ok (.bipush 106, 2) := by decide +kernel
theorem dX12_drawn_23 : decode cX12_drawn 23 = .ok (.iaload, 1) := by decide +kernel
theorem dX12_drawn_24 : decode cX12_drawn 24 = .ok (.sipush 400, 3) := by decide +kernel
theorem dX12_drawn_27 : decode cX12_drawn 27 = .ok (.if_icmp .ne 5, 3) := by decide +kernel
theorem dX12_drawn_30 : decode cX12_drawn 30 = .ok (.iconst 0, 1) := by decide +kernel
theorem dX12_drawn_31 : decode cX12_drawn 31 = .ok (.ireturn, 1) := by decide +kernel
theorem dX12_drawn_32 : decode cX12_drawn 32 = .ok (.aload_n 0, 1) := by decide +kernel
theorem dX12_drawn_33 : decode cX12_drawn 33 = .ok (.invokevirtual 305, 3) := by decide +kernel
theorem dX12_drawn_36 : decode cX12_drawn 36 = .ok (.aload_n 0, 1) := by decide +kernel
theorem dX12_drawn_37 : decode cX12_drawn 37 = .ok (.iload_n 1, 1) := by decide +kernel
theorem dX12_drawn_38 : decode cX12_drawn 38 = .ok (.iload_n 2, 1) := by decide +kernel
theorem dX12_drawn_39 : decode cX12_drawn 39 = .ok (.invokevirtual 378, 3) := by decide +kernel
theorem dX12_drawn_42 : decode cX12_drawn 42 = .ok (.ireturn, 1) := by decide +kernel
theorem dX12_drawsFor_0 : decode cX12_drawsFor 0 = .ok (.aload_n 0, 1) := by decide +kernel
theorem dX12_drawsFor_1 : decode cX12_drawsFor 1 = .ok (.bipush 6, 2) := by decide +kernel
theorem dX12_drawsFor_3 : decode cX12_drawsFor 3 = .ok (.invokevirtual 369, 3) := by decide +kernel
theorem dX12_drawsFor_6 : decode cX12_drawsFor 6 = .ok (.istore_n 2, 1) := by decide +kernel
theorem dX12_drawsFor_7 : decode cX12_drawsFor 7 = .ok (.iload_n 2, 1) := by decide +kernel
theorem dX12_drawsFor_8 : decode cX12_drawsFor 8 = .ok (.iconst 4, 1) := by decide +kernel
theorem dX12_drawsFor_9 : decode cX12_drawsFor 9 = .ok (.if_icmp .ge 10, 3) := by decide +kernel
theorem dX12_drawsFor_12 : decode cX12_drawsFor 12 = .ok (.aload_n 0, 1) := by decide +kernel
theorem dX12_drawsFor_13 : decode cX12_drawsFor 13 = .ok (.iconst 0, 1) := by decide +kernel
theorem dX12_drawsFor_14 : decode cX12_drawsFor 14 = .ok (.iload_n 1, 1) := by decide +kernel
theorem dX12_drawsFor_15 : decode cX12_drawsFor 15 = .ok (.iload_n 2, 1) := by decide +kernel
theorem dX12_drawsFor_16 : decode cX12_drawsFor 16 = .ok (.invokevirtual 372, 3) := by decide +kernel
theorem dX12_drawsFor_19 : decode cX12_drawsFor 19 = .ok (.iload_n 2, 1) := by decide +kernel
theorem dX12_drawsFor_20 : decode cX12_drawsFor 20 = .ok (.iconst 4, 1) := by decide +kernel
theorem dX12_drawsFor_21 : decode cX12_drawsFor 21 = .ok (.if_icmp .eq 4, 3) := by decide +kernel
theorem dX12_drawsFor_24 : decode cX12_drawsFor 24 = .ok (.return_, 1) := by decide +kernel
theorem dX12_drawsFor_25 : decode cX12_drawsFor 25 = .ok (.aload_n 0, 1) := by decide +kernel
theorem dX12_drawsFor_26 : decode cX12_drawsFor 26 = .ok (.aload_n 0, 1) := by decide +kernel
theorem dX12_drawsFor_27 : decode cX12_drawsFor 27 = .ok (.getfield 98, 3) := by decide +kernel
theorem dX12_drawsFor_30 : decode cX12_drawsFor 30 = .ok (.iconst 0, 1) := by decide +kernel
theorem dX12_drawsFor_31 : decode cX12_drawsFor 31 = .ok (.iaload, 1) := by decide +kernel
theorem dX12_drawsFor_32 : decode cX12_drawsFor 32 = .ok (.invokevirtual 369, 3) := by decide +kernel
theorem dX12_drawsFor_35 : decode cX12_drawsFor 35 = .ok (.istore_n 3, 1) := by decide +kernel
theorem dX12_drawsFor_36 : decode cX12_drawsFor 36 = .ok (.aload_n 0, 1) := by decide +kernel
theorem dX12_drawsFor_37 : decode cX12_drawsFor 37 = .ok (.iconst 1, 1) := by decide +kernel
theorem dX12_drawsFor_38 : decode cX12_drawsFor 38 = .ok (.bipush 8, 2) := by decide +kernel
theorem dX12_drawsFor_40 : decode cX12_drawsFor 40 = .ok (.aload_n 0, 1) := by decide +kernel
theorem dX12_drawsFor_41 : decode cX12_drawsFor 41 = .ok (.aload_n 0, 1) := by decide +kernel
theorem dX12_drawsFor_42 : decode cX12_drawsFor 42 = .ok (.getfield 98, 3) := by decide +kernel
theorem dX12_drawsFor_45 : decode cX12_drawsFor 45 = .ok (.iconst 1, 1) := by decide +kernel
theorem dX12_drawsFor_46 : decode cX12_drawsFor 46 = .ok (.iaload, 1) := by decide +kernel
theorem dX12_drawsFor_47 : decode cX12_drawsFor 47 = .ok (.invokevirtual 369, 3) := by decide +kernel
theorem dX12_drawsFor_50 : decode cX12_drawsFor 50 = .ok (.imul, 1) := by decide +kernel
theorem dX12_drawsFor_51 : decode cX12_drawsFor 51 = .ok (.iload_n 3, 1) := by decide +kernel
theorem dX12_drawsFor_52 : decode cX12_drawsFor 52 = .ok (.iadd, 1) := by decide +kernel
theorem dX12_drawsFor_53 : decode cX12_drawsFor 53 = .ok (.iconst 0, 1) := by decide +kernel
theorem dX12_drawsFor_54 : decode cX12_drawsFor 54 = .ok (.invokevirtual 372, 3) := by decide +kernel
theorem dX12_drawsFor_57 : decode cX12_drawsFor 57 = .ok (.return_, 1) := by decide +kernel
theorem dX12_end_0 : decode cX12_end 0 = .ok (.aload_n 0, 1) := by decide +kernel
theorem dX12_end_1 : decode cX12_end 1 = .ok (.iconst 0, 1) := by decide +kernel
theorem dX12_end_2 : decode cX12_end 2 = .ok (.putfield 1, 3) := by decide +kernel
theorem dX12_end_5 : decode cX12_end 5 = .ok (.iload_n 1, 1) := by decide +kernel
theorem dX12_end_6 : decode cX12_end 6 = .ok (.ifCond .lt 11, 3) := by decide +kernel
theorem dX12_end_9 : decode cX12_end 9 = .ok (.iload_n 1, 1) := by decide +kernel
theorem dX12_end_10 : decode cX12_end 10 = .ok (.aload_n 0, 1) := by decide +kernel
theorem dX12_end_11 : decode cX12_end 11 = .ok (.getfield 11, 3) := by decide +kernel
theorem dX12_end_14 : decode cX12_end 14 = .ok (.if_icmp .le 5, 3) := by decide +kernel
theorem dX12_end_17 : decode cX12_end 17 = .ok (.iconst 0, 1) := by decide +kernel
theorem dX12_end_18 : decode cX12_end 18 = .ok (.ireturn, 1) := by decide +kernel
theorem dX12_end_19 : decode cX12_end 19 = .ok (.aload_n 0, 1) := by decide +kernel
theorem dX12_end_20 : decode cX12_end 20 = .ok (.iload_n 1, 1) := by decide +kernel
theorem dX12_end_21 : decode cX12_end 21 = .ok (.putfield 11, 3) := by decide +kernel
theorem dX12_end_24 : decode cX12_end 24 = .ok (.iconst 1, 1) := by decide +kernel
theorem dX12_end_25 : decode cX12_end 25 = .ok (.ireturn, 1) := by decide +kernel
theorem dX12_fault_0 : decode cX12_fault 0 = .ok (.aload_n 0, 1) := by decide +kernel
theorem dX12_fault_1 : decode cX12_fault 1 = .ok (.iconst 0, 1) := by decide +kernel
theorem dX12_fault_2 : decode cX12_fault 2 = .ok (.putfield 1, 3) := by decide +kernel
theorem dX12_fault_5 : decode cX12_fault 5 = .ok (.aload_n 0, 1) := by decide +kernel
theorem dX12_fault_6 : decode cX12_fault 6 = .ok (.getfield 66, 3) := by decide +kernel
theorem dX12_fault_9 : decode cX12_fault 9 = .ok (.ireturn, 1) := by decide +kernel
theorem dX12_feed_0 : decode cX12_feed 0 = .ok (.aload_n 0, 1) := by decide +kernel
theorem dX12_feed_1 : decode cX12_feed 1 = .ok (.iconst 0, 1) := by decide +kernel
theorem dX12_feed_2 : decode cX12_feed 2 = .ok (.putfield 1, 3) := by decide +kernel
theorem dX12_feed_5 : decode cX12_feed 5 = .ok (.aload_n 0, 1) := by decide +kernel
theorem dX12_feed_6 : decode cX12_feed 6 = .ok (.getfield 11, 3) := by decide +kernel
theorem dX12_feed_9 : decode cX12_feed 9 = .ok (.bipush 20, 2) := by decide +kernel
theorem dX12_feed_11 : decode cX12_feed 11 = .ok (.iadd, 1) := by decide +kernel
theorem dX12_feed_12 : decode cX12_feed 12 = .ok (.sipush 940, 3) := by decide +kernel
theorem dX12_feed_15 : decode cX12_feed 15 = .ok (.if_icmp .le 5, 3) := by decide +kernel
theorem dX12_feed_18 : decode cX12_feed 18 = .ok (.iconst (-1), 1) := by decide +kernel
theorem dX12_feed_19 : decode cX12_feed 19 = .ok (.ireturn, 1) := by decide +kernel
theorem dX12_feed_20 : decode cX12_feed 20 = .ok (.aload_n 0, 1) := by decide +kernel
theorem dX12_feed_21 : decode cX12_feed 21 = .ok (.iload_n 1, 1) := by decide +kernel
theorem dX12_feed_22 : decode cX12_feed 22 = .ok (.invokevirtual 14, 3) := by decide +kernel
theorem dX12_feed_25 : decode cX12_feed 25 = .ok (.aload_n 0, 1) := by decide +kernel
theorem dX12_feed_26 : decode cX12_feed 26 = .ok (.iload_n 2, 1) := by decide +kernel
theorem dX12_feed_27 : decode cX12_feed 27 = .ok (.invokevirtual 14, 3) := by decide +kernel
theorem dX12_feed_30 : decode cX12_feed 30 = .ok (.aload_n 0, 1) := by decide +kernel
theorem dX12_feed_31 : decode cX12_feed 31 = .ok (.iload_n 3, 1) := by decide +kernel
theorem dX12_feed_32 : decode cX12_feed 32 = .ok (.invokevirtual 14, 3) := by decide +kernel
theorem dX12_feed_35 : decode cX12_feed 35 = .ok (.aload_n 0, 1) := by decide +kernel
theorem dX12_feed_36 : decode cX12_feed 36 = .ok (.iload 4, 2) := by decide +kernel
theorem dX12_feed_38 : decode cX12_feed 38 = .ok (.invokevirtual 14, 3) := by decide +kernel
theorem dX12_feed_41 : decode cX12_feed 41 = .ok (.aload_n 0, 1) := by decide +kernel
theorem dX12_feed_42 : decode cX12_feed 42 = .ok (.iload 5, 2) := by decide +kernel
theorem dX12_feed_44 : decode cX12_feed 44 = .ok (.invokevirtual 14, 3) := by decide +kernel
theorem dX12_feed_47 : decode cX12_feed 47 = .ok (.aload_n 0, 1) := by decide +kernel
theorem dX12_feed_48 : decode cX12_feed 48 = .ok (.getfield 11, 3) := by decide +kernel
theorem dX12_feed_51 : decode cX12_feed 51 = .ok (.ireturn, 1) := by decide +kernel
theorem dX12_findIn_0 : decode cX12_findIn 0 = .ok (.iconst 0, 1) := by decide +kernel
theorem dX12_findIn_1 : decode cX12_findIn 1 = .ok (.istore 5, 2) := by decide +kernel
theorem dX12_findIn_3 : decode cX12_findIn 3 = .ok (.iload 5, 2) := by decide +kernel
theorem dX12_findIn_5 : decode cX12_findIn 5 = .ok (.iload_n 2, 1) := by decide +kernel
theorem dX12_findIn_6 : decode cX12_findIn 6 = .ok (.if_icmp .ge 23, 3) := by decide +kernel
theorem dX12_findIn_9 : decode cX12_findIn 9 = .ok (.aload_n 0, 1) := by decide +kernel
theorem dX12_findIn_10 : decode cX12_findIn 10 = .ok (.iload_n 1, 1) := by decide +kernel
theorem dX12_findIn_11 : decode cX12_findIn 11 = .ok (.iload 5, 2) := by decide +kernel
theorem dX12_findIn_13 : decode cX12_findIn 13 = .ok (.iadd, 1) := by decide +kernel
theorem dX12_findIn_14 : decode cX12_findIn 14 = .ok (.laload, 1) := by decide +kernel
theorem dX12_findIn_15 : decode cX12_findIn 15 = .ok (.lload_n 3, 1) := by decide +kernel
theorem dX12_findIn_16 : decode cX12_findIn 16 = .ok (.lcmp, 1) := by decide +kernel
theorem dX12_findIn_17 : decode cX12_findIn 17 = .ok (.ifCond .ne 6, 3) := by decide +kernel
theorem dX12_findIn_20 : decode cX12_findIn 20 = .ok (.iload 5, 2) := by decide +kernel
theorem dX12_findIn_22 : decode cX12_findIn 22 = .ok (.ireturn, 1) := by decide +kernel
theorem dX12_findIn_23 : decode cX12_findIn 23 = .ok (.iinc 5 1, 3) := by decide +kernel
theorem dX12_findIn_26 : decode cX12_findIn 26 = .ok (.goto (-23), 3) := by decide +kernel
theorem dX12_findIn_29 : decode cX12_findIn 29 = .ok (.iconst (-1), 1) := by decide +kernel
theorem dX12_findIn_30 : decode cX12_findIn 30 = .ok (.ireturn, 1) := by decide +kernel
theorem dX12_finds_0 : decode cX12_finds 0 = .ok (.iconst 0, 1) := by decide +kernel
theorem dX12_finds_1 : decode cX12_finds 1 = .ok (.istore_n 2, 1) := by decide +kernel
theorem dX12_finds_2 : decode cX12_finds 2 = .ok (.iload_n 2, 1) := by decide +kernel
theorem dX12_finds_3 : decode cX12_finds 3 = .ok (.bipush 64, 2) := by decide +kernel
theorem dX12_finds_5 : decode cX12_finds 5 = .ok (.if_icmp .ge 81, 3) := by decide +kernel
theorem dX12_finds_8 : decode cX12_finds 8 = .ok (.aload_n 0, 1) := by decide +kernel
theorem dX12_finds_9 : decode cX12_finds 9 = .ok (.getfield 139, 3) := by decide +kernel
theorem dX12_finds_12 : decode cX12_finds 12 = .ok (.iload_n 1, 1) := by decide +kernel
theorem dX12_finds_13 : decode cX12_finds 13 = .ok (.laload, 1) := by decide +kernel
theorem dX12_finds_14 : decode cX12_finds 14 = .ok (.aload_n 0, 1) := by decide +kernel
theorem dX12_finds_15 : decode cX12_finds 15 = .ok (.getfield 329, 3) := by decide +kernel
theorem dX12_finds_18 : decode cX12_finds 18 = .ok (.ldc2_w 332, 3) := by decide +kernel
theorem dX12_finds_21 : decode cX12_finds 21 = .ok (.lxor, 1) := by decide +kernel
theorem dX12_finds_22 : decode cX12_finds 22 = .ok (.land, 1) := by decide +kernel
theorem dX12_finds_23 : decode cX12_finds 23 = .ok (.iload_n 2, 1) := by decide +kernel
theorem dX12_finds_24 : decode cX12_finds 24 = .ok (.invokestatic 255, 3) := by decide +kernel
theorem dX12_finds_27 : decode cX12_finds 27 = .ok (.ifCond .ne 6, 3) := by decide +kernel
theorem dX12_finds_30 : decode cX12_finds 30 = .ok (.goto 50, 3) := by decide +kernel
theorem dX12_finds_33 : decode cX12_finds 33 = .ok (.aload_n 0, 1) := by decide +kernel
theorem dX12_finds_34 : decode cX12_finds 34 = .ok (.dup, 1) := by decide +kernel
theorem dX12_finds_35 : decode cX12_finds 35 = .ok (.getfield 329, 3) := by decide +kernel
theorem dX12_finds_38 : decode cX12_finds 38 = .ok (.lconst 1, 1) := by decide +kernel
theorem dX12_finds_39 : decode cX12_finds 39 = .ok (.iload_n 2, 1) := by decide +kernel
theorem dX12_finds_40 : decode cX12_finds 40 = .ok (.lshl, 1) := by decide +kernel
theorem dX12_finds_41 : decode cX12_finds 41 = .ok (.lor, 1) := by decide +kernel
theorem dX12_finds_42 : decode cX12_finds 42 = .ok (.putfield 329, 3) := by decide +kernel
theorem dX12_finds_45 : decode cX12_finds 45 = .ok (.aload_n 0, 1) := by decide +kernel
theorem dX12_finds_46 : decode cX12_finds 46 = .ok (.getfield 136, 3) := by decide +kernel
theorem dX12_finds_49 : decode cX12_finds 49 = .ok (.iload_n 2, 1) := by decide +kernel
theorem dX12_finds_50 : decode cX12_finds 50 = .ok (.iaload, 1) := by decide +kernel
theorem dX12_finds_51 : decode cX12_finds 51 = .ok (.iconst (-1), 1) := by decide +kernel
theorem dX12_finds_52 : decode cX12_finds 52 = .ok (.if_icmp .eq 19, 3) := by decide +kernel
theorem dX12_finds_55 : decode cX12_finds 55 = .ok (.aload_n 0, 1) := by decide +kernel
theorem dX12_finds_56 : decode cX12_finds 56 = .ok (.aload_n 0, 1) := by decide +kernel
theorem dX12_finds_57 : decode cX12_finds 57 = .ok (.getfield 136, 3) := by decide +kernel
theorem dX12_finds_60 : decode cX12_finds 60 = .ok (.iload_n 2, 1) := by decide +kernel
theorem dX12_finds_61 : decode cX12_finds 61 = .ok (.iaload, 1) := by decide +kernel
theorem dX12_finds_62 : decode cX12_finds 62 = .ok (.invokevirtual 334, 3) := by decide +kernel
theorem dX12_finds_65 : decode cX12_finds 65 = .ok (.ifCond .ne 6, 3) := by decide +kernel
theorem dX12_finds_68 : decode cX12_finds 68 = .ok (.goto 12, 3) := by decide +kernel
theorem dX12_finds_71 : decode cX12_finds 71 = .ok (.aload_n 0, 1) := by decide +kernel
theorem dX12_finds_72 : decode cX12_finds 72 = .ok (.getfield 136, 3) := by decide +kernel
theorem dX12_finds_75 : decode cX12_finds 75 = .ok (.iload_n 2, 1) := by decide +kernel
theorem dX12_finds_76 : decode cX12_finds 76 = .ok (.iload_n 1, 1) := by decide +kernel
theorem dX12_finds_77 : decode cX12_finds 77 = .ok (.iastore, 1) := by decide +kernel
theorem dX12_finds_78 : decode cX12_finds 78 = .ok (.iconst 1, 1) := by decide +kernel
theorem dX12_finds_79 : decode cX12_finds 79 = .ok (.ireturn, 1) := by decide +kernel
theorem dX12_finds_80 : decode cX12_finds 80 = .ok (.iinc 2 1, 3) := by decide +kernel
theorem dX12_finds_83 : decode cX12_finds 83 = .ok (.goto (-81), 3) := by decide +kernel
theorem dX12_finds_86 : decode cX12_finds 86 = .ok (.iconst 0, 1) := by decide +kernel
theorem dX12_finds_87 : decode cX12_finds 87 = .ok (.ireturn, 1) := by decide +kernel
theorem dX12_fits_0 : decode cX12_fits 0 = .ok (.aload_n 0, 1) := by decide +kernel
theorem dX12_fits_1 : decode cX12_fits 1 = .ok (.aload_n 0, 1) := by decide +kernel
theorem dX12_fits_2 : decode cX12_fits 2 = .ok (.getfield 7, 3) := by decide +kernel
theorem dX12_fits_5 : decode cX12_fits 5 = .ok (.iconst 0, 1) := by decide +kernel
theorem dX12_fits_6 : decode cX12_fits 6 = .ok (.iaload, 1) := by decide +kernel
theorem dX12_fits_7 : decode cX12_fits 7 = .ok (.iload_n 1, 1) := by decide +kernel
theorem dX12_fits_8 : decode cX12_fits 8 = .ok (.invokevirtual 277, 3) := by decide +kernel
theorem dX12_fits_11 : decode cX12_fits 11 = .ok (.istore_n 3, 1) := by decide +kernel
theorem dX12_fits_12 : decode cX12_fits 12 = .ok (.iconst 1, 1) := by decide +kernel
theorem dX12_fits_13 : decode cX12_fits 13 = .ok (.istore 4, 2) := by decide +kernel
theorem dX12_fits_15 : decode cX12_fits 15 = .ok (.iload 4, 2) := by decide +kernel
theorem dX12_fits_17 : decode cX12_fits 17 = .ok (.iload_n 2, 1) := by decide +kernel
theorem dX12_fits_18 : decode cX12_fits 18 = .ok (.if_icmp .ge 43, 3) := by decide +kernel
theorem dX12_fits_21 : decode cX12_fits 21 = .ok (.iload_n 3, 1) := by decide +kernel
theorem dX12_fits_22 : decode cX12_fits 22 = .ok (.aload_n 0, 1) := by decide +kernel
theorem dX12_fits_23 : decode cX12_fits 23 = .ok (.getfield 7, 3) := by decide +kernel
theorem dX12_fits_26 : decode cX12_fits 26 = .ok (.iload 4, 2) := by decide +kernel
theorem dX12_fits_28 : decode cX12_fits 28 = .ok (.iaload, 1) := by decide +kernel
theorem dX12_fits_29 : decode cX12_fits 29 = .ok (.invokestatic 235, 3) := by decide +kernel
theorem dX12_fits_32 : decode cX12_fits 32 = .ok (.aload_n 0, 1) := by decide +kernel
theorem dX12_fits_33 : decode cX12_fits 33 = .ok (.getfield 7, 3) := by decide +kernel
theorem dX12_fits_36 : decode cX12_fits 36 = .ok (.iload 4, 2) := by decide +kernel
theorem dX12_fits_38 : decode cX12_fits 38 = .ok (.iconst 1, 1) := by decide +kernel
theorem dX12_fits_39 : decode cX12_fits 39 = .ok (.iadd, 1) := by decide +kernel
theorem dX12_fits_40 : decode cX12_fits 40 = .ok (.iaload, 1) := by decide +kernel
theorem dX12_fits_41 : decode cX12_fits 41 = .ok (.iconst 1, 1) := by decide +kernel
theorem dX12_fits_42 : decode cX12_fits 42 = .ok (.if_icmp .ne 7, 3) := by decide +kernel
theorem dX12_fits_45 : decode cX12_fits 45 = .ok (.iconst 1, 1) := by decide +kernel
theorem dX12_fits_46 : decode cX12_fits 46 = .ok (.goto 4, 3) := by decide +kernel
theorem dX12_fits_49 : decode cX12_fits 49 = .ok (.iconst 0, 1) := by decide +kernel
theorem dX12_fits_50 : decode cX12_fits 50 = .ok (.if_icmp .eq 5, 3) := by decide +kernel
theorem dX12_fits_53 : decode cX12_fits 53 = .ok (.iconst 0, 1) := by decide +kernel
theorem dX12_fits_54 : decode cX12_fits 54 = .ok (.ireturn, 1) := by decide +kernel
theorem dX12_fits_55 : decode cX12_fits 55 = .ok (.iinc 4 2, 3) := by decide +kernel
theorem dX12_fits_58 : decode cX12_fits 58 = .ok (.goto (-43), 3) := by decide +kernel
theorem dX12_fits_61 : decode cX12_fits 61 = .ok (.iconst 1, 1) := by decide +kernel
theorem dX12_fits_62 : decode cX12_fits 62 = .ok (.ireturn, 1) := by decide +kernel
theorem dX12_go_0 : decode cX12_go 0 = .ok (.aload_n 0, 1) := by decide +kernel
theorem dX12_go_1 : decode cX12_go 1 = .ok (.getfield 21, 3) := by decide +kernel
theorem dX12_go_4 : decode cX12_go 4 = .ok (.aload_n 0, 1) := by decide +kernel
theorem dX12_go_5 : decode cX12_go 5 = .ok (.getfield 18, 3) := by decide +kernel
theorem dX12_go_8 : decode cX12_go 8 = .ok (.if_icmp .ge 44, 3) := by decide +kernel
theorem dX12_go_11 : decode cX12_go 11 = .ok (.aload_n 0, 1) := by decide +kernel
theorem dX12_go_12 : decode cX12_go 12 = .ok (.getfield 7, 3) := by decide +kernel
theorem dX12_go_15 : decode cX12_go 15 = .ok (.aload_n 0, 1) := by decide +kernel
theorem dX12_go_16 : decode cX12_go 16 = .ok (.getfield 21, 3) := by decide +kernel
theorem dX12_go_19 : decode cX12_go 19 = .ok (.iaload, 1) := by decide +kernel
theorem dX12_go_20 : decode cX12_go 20 = .ok (.bipush 32, 2) := by decide +kernel
theorem dX12_go_22 : decode cX12_go 22 = .ok (.if_icmp .eq 17, 3) := by decide +kernel
theorem dX12_go_25 : decode cX12_go 25 = .ok (.aload_n 0, 1) := by decide +kernel
theorem dX12_go_26 : decode cX12_go 26 = .ok (.getfield 7, 3) := by decide +kernel
theorem dX12_go_29 : decode cX12_go 29 = .ok (.aload_n 0, 1) := by decide +kernel
theorem dX12_go_30 : decode cX12_go 30 = .ok (.getfield 21, 3) := by decide +kernel
theorem dX12_go_33 : decode cX12_go 33 = .ok (.iaload, 1) := by decide +kernel
theorem dX12_go_34 : decode cX12_go 34 = .ok (.bipush 10, 2) := by decide +kernel
theorem dX12_go_36 : decode cX12_go 36 = .ok (.if_icmp .ne 16, 3) := by decide +kernel
theorem dX12_go_39 : decode cX12_go 39 = .ok (.aload_n 0, 1) := by decide +kernel
theorem dX12_go_40 : decode cX12_go 40 = .ok (.dup, 1) := by decide +kernel
theorem dX12_go_41 : decode cX12_go 41 = .ok (.getfield 21, 3) := by decide +kernel
theorem dX12_go_44 : decode cX12_go 44 = .ok (.iconst 1, 1) := by decide +kernel
theorem dX12_go_45 : decode cX12_go 45 = .ok (.iadd, 1) := by decide +kernel
theorem dX12_go_46 : decode cX12_go 46 = .ok (.putfield 21, 3) := by decide +kernel
theorem dX12_go_49 : decode cX12_go 49 = .ok (.goto (-49), 3) := by decide +kernel
theorem dX12_go_52 : decode cX12_go 52 = .ok (.aload_n 0, 1) := by decide +kernel
theorem dX12_go_53 : decode cX12_go 53 = .ok (.aload_n 0, 1) := by decide +kernel
theorem dX12_go_54 : decode cX12_go 54 = .ok (.getfield 21, 3) := by decide +kernel
theorem dX12_go_57 : decode cX12_go 57 = .ok (.putfield 24, 3) := by decide +kernel
theorem dX12_go_60 : decode cX12_go 60 = .ok (.aload_n 0, 1) := by decide +kernel
theorem dX12_go_61 : decode cX12_go 61 = .ok (.getfield 18, 3) := by decide +kernel
theorem dX12_go_64 : decode cX12_go 64 = .ok (.aload_n 0, 1) := by decide +kernel
theorem dX12_go_65 : decode cX12_go 65 = .ok (.getfield 27, 3) := by decide +kernel
theorem dX12_go_68 : decode cX12_go 68 = .ok (.if_icmp .le 28, 3) := by decide +kernel
theorem dX12_go_71 : decode cX12_go 71 = .ok (.aload_n 0, 1) := by decide +kernel
theorem dX12_go_72 : decode cX12_go 72 = .ok (.getfield 24, 3) := by decide +kernel
theorem dX12_go_75 : decode cX12_go 75 = .ok (.aload_n 0, 1) := by decide +kernel
theorem dX12_go_76 : decode cX12_go 76 = .ok (.getfield 27, 3) := by decide +kernel
theorem dX12_go_79 : decode cX12_go 79 = .ok (.if_icmp .lt 17, 3) := by decide +kernel
theorem dX12_go_82 : decode cX12_go 82 = .ok (.aload_n 0, 1) := by decide +kernel
theorem dX12_go_83 : decode cX12_go 83 = .ok (.aload_n 0, 1) := by decide +kernel
theorem dX12_go_84 : decode cX12_go 84 = .ok (.getfield 27, 3) := by decide +kernel
theorem dX12_go_87 : decode cX12_go 87 = .ok (.putfield 24, 3) := by decide +kernel
theorem dX12_go_90 : decode cX12_go 90 = .ok (.aload_n 0, 1) := by decide +kernel
theorem dX12_go_91 : decode cX12_go 91 = .ok (.iconst 1, 1) := by decide +kernel
theorem dX12_go_92 : decode cX12_go 92 = .ok (.putfield 30, 3) := by decide +kernel
theorem dX12_go_95 : decode cX12_go 95 = .ok (.return_, 1) := by decide +kernel
theorem dX12_go_96 : decode cX12_go 96 = .ok (.aload_n 0, 1) := by decide +kernel
theorem dX12_go_97 : decode cX12_go 97 = .ok (.getfield 21, 3) := by decide +kernel
theorem dX12_go_100 : decode cX12_go 100 = .ok (.aload_n 0, 1) := by decide +kernel
theorem dX12_go_101 : decode cX12_go 101 = .ok (.getfield 18, 3) := by decide +kernel
theorem dX12_go_104 : decode cX12_go 104 = .ok (.if_icmp .lt 9, 3) := by decide +kernel
theorem dX12_go_107 : decode cX12_go 107 = .ok (.aload_n 0, 1) := by decide +kernel
theorem dX12_go_108 : decode cX12_go 108 = .ok (.iconst 0, 1) := by decide +kernel
theorem dX12_go_109 : decode cX12_go 109 = .ok (.putfield 30, 3) := by decide +kernel
theorem dX12_go_112 : decode cX12_go 112 = .ok (.return_, 1) := by decide +kernel
theorem dX12_go_113 : decode cX12_go 113 = .ok (.aload_n 0, 1) := by decide +kernel
theorem dX12_go_114 : decode cX12_go 114 = .ok (.getfield 7, 3) := by decide +kernel
theorem dX12_go_117 : decode cX12_go 117 = .ok (.aload_n 0, 1) := by decide +kernel
theorem dX12_go_118 : decode cX12_go 118 = .ok (.getfield 21, 3) := by decide +kernel
theorem dX12_go_121 : decode cX12_go 121 = .ok (.iaload, 1) := by decide +kernel
theorem dX12_go_122 : decode cX12_go 122 = .ok (.istore_n 1, 1) := by decide +kernel
theorem dX12_go_123 : decode cX12_go 123 = .ok (.iload_n 1, 1) := by decide +kernel
theorem dX12_go_124 : decode cX12_go 124 = .ok (.invokestatic 33, 3) := by decide +kernel
theorem dX12_go_127 : decode cX12_go 127 = .ok (.ifCond .ne 71, 3) := by decide +kernel
theorem dX12_go_130 : decode cX12_go 130 = .ok (.iload_n 1, 1) := by decide +kernel
theorem dX12_go_131 : decode cX12_go 131 = .ok (.invokestatic 37, 3) := by decide +kernel
theorem dX12_go_134 : decode cX12_go 134 = .ok (.ifCond .ne 64, 3) := by decide +kernel
theorem dX12_go_137 : decode cX12_go 137 = .ok (.aload_n 0, 1) := by decide +kernel
theorem dX12_go_138 : decode cX12_go 138 = .ok (.iload_n 1, 1) := by decide +kernel
theorem dX12_go_139 : decode cX12_go 139 = .ok (.bipush 59, 2) := by decide +kernel
theorem dX12_go_141 : decode cX12_go 141 = .ok (.if_icmp .eq 33, 3) := by decide +kernel
theorem dX12_go_144 : decode cX12_go 144 = .ok (.iload_n 1, 1) := by decide +kernel
theorem dX12_go_145 : decode cX12_go 145 = .ok (.bipush 60, 2) := by decide +kernel
theorem dX12_go_147 : decode cX12_go 147 = .ok (.if_icmp .eq 27, 3) := by decide +kernel
theorem dX12_go_150 : decode cX12_go 150 = .ok (.iload_n 1, 1) := by decide +kernel
theorem dX12_go_151 : decode cX12_go 151 = .ok (.bipush 61, 2) := by decide +kernel
theorem dX12_go_153 : decode cX12_go 153 = .ok (.if_icmp .eq 21, 3) := by decide +kernel
theorem dX12_go_156 : decode cX12_go 156 = .ok (.iload_n 1, 1) := by decide +kernel
theorem dX12_go_157 : decode cX12_go 157 = .ok (.bipush 62, 2) := by decide +kernel
theorem dX12_go_159 : decode cX12_go 159 = .ok (.if_icmp .eq 15, 3) := by decide +kernel
theorem dX12_go_162 : decode cX12_go 162 = .ok (.iload_n 1, 1) := by decide +kernel
theorem dX12_go_163 : decode cX12_go 163 = .ok (.bipush 40, 2) := by decide +kernel
theorem dX12_go_165 : decode cX12_go 165 = .ok (.if_icmp .eq 9, 3) := by decide +kernel
theorem dX12_go_168 : decode cX12_go 168 = .ok (.iload_n 1, 1) := by decide +kernel
theorem dX12_go_169 : decode cX12_go 169 = .ok (.bipush 41, 2) := by decide +kernel
theorem dX12_go_171 : decode cX12_go 171 = .ok (.if_icmp .ne 7, 3) := by decide +kernel
theorem dX12_go_174 : decode cX12_go 174 = .ok (.iconst 4, 1) := by decide +kernel
theorem dX12_go_175 : decode cX12_go 175 = .ok (.goto 4, 3) := by decide +kernel
theorem dX12_go_178 : decode cX12_go 178 = .ok (.iconst 1, 1) := by decide +kernel
theorem dX12_go_179 : decode cX12_go 179 = .ok (.putfield 30, 3) := by decide +kernel
theorem dX12_go_182 : decode cX12_go 182 = .ok (.aload_n 0, 1) := by decide +kernel
theorem dX12_go_183 : decode cX12_go 183 = .ok (.iload_n 1, 1) := by decide +kernel
theorem dX12_go_184 : decode cX12_go 184 = .ok (.putfield 40, 3) := by decide +kernel
theorem dX12_go_187 : decode cX12_go 187 = .ok (.aload_n 0, 1) := by decide +kernel
theorem dX12_go_188 : decode cX12_go 188 = .ok (.dup, 1) := by decide +kernel
theorem dX12_go_189 : decode cX12_go 189 = .ok (.getfield 21, 3) := by decide +kernel
theorem dX12_go_192 : decode cX12_go 192 = .ok (.iconst 1, 1) := by decide +kernel
theorem dX12_go_193 : decode cX12_go 193 = .ok (.iadd, 1) := by decide +kernel
theorem dX12_go_194 : decode cX12_go 194 = .ok (.putfield 21, 3) := by decide +kernel
theorem dX12_go_197 : decode cX12_go 197 = .ok (.return_, 1) := by decide +kernel
theorem dX12_go_198 : decode cX12_go 198 = .ok (.iload_n 1, 1) := by decide +kernel
theorem dX12_go_199 : decode cX12_go 199 = .ok (.invokestatic 33, 3) := by decide +kernel
theorem dX12_go_202 : decode cX12_go 202 = .ok (.istore_n 2, 1) := by decide +kernel
theorem dX12_go_203 : decode cX12_go 203 = .ok (.iconst 1, 1) := by decide +kernel
theorem dX12_go_204 : decode cX12_go 204 = .ok (.istore_n 3, 1) := by decide +kernel
theorem dX12_go_205 : decode cX12_go 205 = .ok (.aload_n 0, 1) := by decide +kernel
theorem dX12_go_206 : decode cX12_go 206 = .ok (.lconst 0, 1) := by decide +kernel
theorem dX12_go_207 : decode cX12_go 207 = .ok (.putfield 43, 3) := by decide +kernel
theorem dX12_go_210 : decode cX12_go 210 = .ok (.aload_n 0, 1) := by decide +kernel
theorem dX12_go_211 : decode cX12_go 211 = .ok (.iconst 0, 1) := by decide +kernel
theorem dX12_go_212 : decode cX12_go 212 = .ok (.putfield 47, 3) := by decide +kernel
theorem dX12_go_215 : decode cX12_go 215 = .ok (.aload_n 0, 1) := by decide +kernel
theorem dX12_go_216 : decode cX12_go 216 = .ok (.aload_n 0, 1) := by decide +kernel
theorem dX12_go_217 : decode cX12_go 217 = .ok (.getfield 21, 3) := by decide +kernel
theorem dX12_go_220 : decode cX12_go 220 = .ok (.invokevirtual 50, 3) := by decide +kernel
theorem dX12_go_223 : decode cX12_go 223 = .ok (.invokestatic 33, 3) := by decide +kernel
theorem dX12_go_226 : decode cX12_go 226 = .ok (.ifCond .ne 17, 3) := by decide +kernel
theorem dX12_go_229 : decode cX12_go 229 = .ok (.aload_n 0, 1) := by decide +kernel
theorem dX12_go_230 : decode cX12_go 230 = .ok (.aload_n 0, 1) := by decide +kernel
theorem dX12_go_231 : decode cX12_go 231 = .ok (.getfield 21, 3) := by decide +kernel
theorem dX12_go_234 : decode cX12_go 234 = .ok (.invokevirtual 50, 3) := by decide +kernel
theorem dX12_go_237 : decode cX12_go 237 = .ok (.invokestatic 37, 3) := by decide +kernel
theorem dX12_go_240 : decode cX12_go 240 = .ok (.ifCond .eq 110, 3) := by decide +kernel
theorem dX12_go_243 : decode cX12_go 243 = .ok (.aload_n 0, 1) := by decide +kernel
theorem dX12_go_244 : decode cX12_go 244 = .ok (.getfield 7, 3) := by decide +kernel
theorem dX12_go_247 : decode cX12_go 247 = .ok (.aload_n 0, 1) := by decide +kernel
theorem dX12_go_248 : decode cX12_go 248 = .ok (.getfield 21, 3) := by decide +kernel
theorem dX12_go_251 : decode cX12_go 251 = .ok (.iaload, 1) := by decide +kernel
theorem dX12_go_252 : decode cX12_go 252 = .ok (.istore 4, 2) := by decide +kernel
theorem dX12_go_254 : decode cX12_go 254 = .ok (.iload_n 3, 1) := by decide +kernel
theorem dX12_go_255 : decode cX12_go 255 = .ok (.ifCond .eq 16, 3) := by decide +kernel
theorem dX12_go_258 : decode cX12_go 258 = .ok (.iload 4, 2) := by decide +kernel
theorem dX12_go_260 : decode cX12_go 260 = .ok (.invokestatic 33, 3) := by decide +kernel
theorem dX12_go_263 : decode cX12_go 263 = .ok (.iload_n 2, 1) := by decide +kernel
theorem dX12_go_264 : decode cX12_go 264 = .ok (.if_icmp .ne 7, 3) := by decide +kernel
theorem dX12_go_267 : decode cX12_go 267 = .ok (.iconst 1, 1) := by decide +kernel
theorem dX12_go_268 : decode cX12_go 268 = .ok (.goto 4, 3) := by decide +kernel
theorem dX12_go_271 : decode cX12_go 271 = .ok (.iconst 0, 1) := by decide +kernel
theorem dX12_go_272 : decode cX12_go 272 = .ok (.istore_n 3, 1) := by decide +kernel
theorem dX12_go_273 : decode cX12_go 273 = .ok (.aload_n 0, 1) := by decide +kernel
theorem dX12_go_274 : decode cX12_go 274 = .ok (.getfield 21, 3) := by decide +kernel
theorem dX12_go_277 : decode cX12_go 277 = .ok (.aload_n 0, 1) := by decide +kernel
theorem dX12_go_278 : decode cX12_go 278 = .ok (.getfield 24, 3) := by decide +kernel
theorem dX12_go_281 : decode cX12_go 281 = .ok (.isub, 1) := by decide +kernel
theorem dX12_go_282 : decode cX12_go 282 = .ok (.bipush 7, 2) := by decide +kernel
theorem dX12_go_284 : decode cX12_go 284 = .ok (.if_icmp .ge 23, 3) := by decide +kernel
theorem dX12_go_287 : decode cX12_go 287 = .ok (.aload_n 0, 1) := by decide +kernel
theorem dX12_go_288 : decode cX12_go 288 = .ok (.ldc2_w 54, 3) := by decide +kernel
theorem dX12_go_291 : decode cX12_go 291 = .ok (.aload_n 0, 1) := by decide +kernel
theorem dX12_go_292 : decode cX12_go 292 = .ok (.getfield 43, 3) := by decide +kernel
theorem dX12_go_295 : decode cX12_go 295 = .ok (.lmul, 1) := by decide +kernel
theorem dX12_go_296 : decode cX12_go 296 = .ok (.iload 4, 2) := by decide +kernel
theorem dX12_go_298 : decode cX12_go 298 = .ok (.i2l, 1) := by decide +kernel
theorem dX12_go_299 : decode cX12_go 299 = .ok (.ladd, 1) := by decide +kernel
theorem dX12_go_300 : decode cX12_go 300 = .ok (.ldc2_w 56, 3) := by decide +kernel
theorem dX12_go_303 : decode cX12_go 303 = .ok (.lsub, 1) := by decide +kernel
theorem dX12_go_304 : decode cX12_go 304 = .ok (.putfield 43, 3) := by decide +kernel
theorem dX12_go_307 : decode cX12_go 307 = .ok (.aload_n 0, 1) := by decide +kernel
theorem dX12_go_308 : decode cX12_go 308 = .ok (.getfield 21, 3) := by decide +kernel
theorem dX12_go_311 : decode cX12_go 311 = .ok (.aload_n 0, 1) := by decide +kernel
theorem dX12_go_312 : decode cX12_go 312 = .ok (.getfield 24, 3) := by decide +kernel
theorem dX12_go_315 : decode cX12_go 315 = .ok (.isub, 1) := by decide +kernel
theorem dX12_go_316 : decode cX12_go 316 = .ok (.iconst 3, 1) := by decide +kernel
theorem dX12_go_317 : decode cX12_go 317 = .ok (.if_icmp .ge 20, 3) := by decide +kernel
theorem dX12_go_320 : decode cX12_go 320 = .ok (.aload_n 0, 1) := by decide +kernel
theorem dX12_go_321 : decode cX12_go 321 = .ok (.bipush 10, 2) := by decide +kernel
theorem dX12_go_323 : decode cX12_go 323 = .ok (.aload_n 0, 1) := by decide +kernel
theorem dX12_go_324 : decode cX12_go 324 = .ok (.getfield 47, 3) := by decide +kernel
theorem dX12_go_327 : decode cX12_go 327 = .ok (.imul, 1) := by decide +kernel
theorem dX12_go_328 : decode cX12_go 328 = .ok (.iload 4, 2) := by decide +kernel
theorem dX12_go_330 : decode cX12_go 330 = .ok (.iadd, 1) := by decide +kernel
theorem dX12_go_331 : decode cX12_go 331 = .ok (.bipush 48, 2) := by decide +kernel
theorem dX12_go_333 : decode cX12_go 333 = .ok (.isub, 1) := by decide +kernel
theorem dX12_go_334 : decode cX12_go 334 = .ok (.putfield 47, 3) := by decide +kernel
theorem dX12_go_337 : decode cX12_go 337 = .ok (.aload_n 0, 1) := by decide +kernel
theorem dX12_go_338 : decode cX12_go 338 = .ok (.dup, 1) := by decide +kernel
theorem dX12_go_339 : decode cX12_go 339 = .ok (.getfield 21, 3) := by decide +kernel
theorem dX12_go_342 : decode cX12_go 342 = .ok (.iconst 1, 1) := by decide +kernel
theorem dX12_go_343 : decode cX12_go 343 = .ok (.iadd, 1) := by decide +kernel
theorem dX12_go_344 : decode cX12_go 344 = .ok (.putfield 21, 3) := by decide +kernel
theorem dX12_go_347 : decode cX12_go 347 = .ok (.goto (-132), 3) := by decide +kernel
theorem dX12_go_350 : decode cX12_go 350 = .ok (.aload_n 0, 1) := by decide +kernel
theorem dX12_go_351 : decode cX12_go 351 = .ok (.iload_n 3, 1) := by decide +kernel
theorem dX12_go_352 : decode cX12_go 352 = .ok (.ifCond .eq 25, 3) := by decide +kernel
theorem dX12_go_355 : decode cX12_go 355 = .ok (.aload_n 0, 1) := by decide +kernel
theorem dX12_go_356 : decode cX12_go 356 = .ok (.getfield 21, 3) := by decide +kernel
theorem dX12_go_359 : decode cX12_go 359 = .ok (.aload_n 0, 1) := by decide +kernel
theorem dX12_go_360 : decode cX12_go 360 = .ok (.getfield 24, 3) := by decide +kernel
theorem dX12_go_363 : decode cX12_go 363 = .ok (.isub, 1) := by decide +kernel
theorem dX12_go_364 : decode cX12_go 364 = .ok (.iload_n 2, 1) := by decide +kernel
theorem dX12_go_365 : decode cX12_go 365 = .ok (.ifCond .eq 8, 3) := by decide +kernel
theorem dX12_go_368 : decode cX12_go 368 = .ok (.bipush 7, 2) := by decide +kernel
theorem dX12_go_370 : decode cX12_go 370 = .ok (.goto 4, 3) := by decide +kernel
theorem dX12_go_373 : decode cX12_go 373 = .ok (.iconst 3, 1) := by decide +kernel
theorem dX12_go_374 : decode cX12_go 374 = .ok (.if_icmp .le 7, 3) := by decide +kernel
theorem dX12_go_377 : decode cX12_go 377 = .ok (.iconst 1, 1) := by decide +kernel
theorem dX12_go_378 : decode cX12_go 378 = .ok (.goto 12, 3) := by decide +kernel
theorem dX12_go_381 : decode cX12_go 381 = .ok (.iload_n 2, 1) := by decide +kernel
theorem dX12_go_382 : decode cX12_go 382 = .ok (.ifCond .eq 7, 3) := by decide +kernel
theorem dX12_go_385 : decode cX12_go 385 = .ok (.iconst 2, 1) := by decide +kernel
theorem dX12_go_386 : decode cX12_go 386 = .ok (.goto 4, 3) := by decide +kernel
theorem dX12_go_389 : decode cX12_go 389 = .ok (.iconst 3, 1) := by decide +kernel
theorem dX12_go_390 : decode cX12_go 390 = .ok (.putfield 30, 3) := by decide +kernel
theorem dX12_go_393 : decode cX12_go 393 = .ok (.return_, 1) := by decide +kernel
theorem dX12_goBy_0 : decode cX12_goBy 0 = .ok (.aload_n 0, 1) := by decide +kernel
theorem dX12_goBy_1 : decode cX12_goBy 1 = .ok (.getfield 154, 3) := by decide +kernel
theorem dX12_goBy_4 : decode cX12_goBy 4 = .ok (.iload_n 1, 1) := by decide +kernel
theorem dX12_goBy_5 : decode cX12_goBy 5 = .ok (.iaload, 1) := by decide +kernel
theorem dX12_goBy_6 : decode cX12_goBy 6 = .ok (.istore_n 2, 1) := by decide +kernel
theorem dX12_goBy_7 : decode cX12_goBy 7 = .ok (.aload_n 0, 1) := by decide +kernel
theorem dX12_goBy_8 : decode cX12_goBy 8 = .ok (.getfield 154, 3) := by decide +kernel
theorem dX12_goBy_11 : decode cX12_goBy 11 = .ok (.iload_n 1, 1) := by decide +kernel
theorem dX12_goBy_12 : decode cX12_goBy 12 = .ok (.iconst 1, 1) := by decide +kernel
theorem dX12_goBy_13 : decode cX12_goBy 13 = .ok (.iadd, 1) := by decide +kernel
theorem dX12_goBy_14 : decode cX12_goBy 14 = .ok (.iaload, 1) := by decide +kernel
theorem dX12_goBy_15 : decode cX12_goBy 15 = .ok (.istore_n 3, 1) := by decide +kernel
theorem dX12_goBy_16 : decode cX12_goBy 16 = .ok (.aload_n 0, 1) := by decide +kernel
theorem dX12_goBy_17 : decode cX12_goBy 17 = .ok (.getfield 154, 3) := by decide +kernel
theorem dX12_goBy_20 : decode cX12_goBy 20 = .ok (.iload_n 1, 1) := by decide +kernel
theorem dX12_goBy_21 : decode cX12_goBy 21 = .ok (.iconst 2, 1) := by decide +kernel
theorem dX12_goBy_22 : decode cX12_goBy 22 = .ok (.iadd, 1) := by decide +kernel
theorem dX12_goBy_23 : decode cX12_goBy 23 = .ok (.iaload, 1) := by decide +kernel
theorem dX12_goBy_24 : decode cX12_goBy 24 = .ok (.istore 4, 2) := by decide +kernel
theorem dX12_goBy_26 : decode cX12_goBy 26 = .ok (.iload_n 2, 1) := by decide +kernel
theorem dX12_goBy_27 : decode cX12_goBy 27 = .ok (.iconst 4, 1) := by decide +kernel
theorem dX12_goBy_28 : decode cX12_goBy 28 = .ok (.if_icmp .ne 29, 3) := by decide +kernel
theorem dX12_goBy_31 : decode cX12_goBy 31 = .ok (.aload_n 0, 1) := by decide +kernel
theorem dX12_goBy_32 : decode cX12_goBy 32 = .ok (.getfield 98, 3) := by decide +kernel
theorem dX12_goBy_35 : decode cX12_goBy 35 = .ok (.bipush 106, 2) := by decide +kernel
theorem dX12_goBy_37 : decode cX12_goBy 37 = .ok (.iaload, 1) := by decide +kernel
theorem dX12_goBy_38 : decode cX12_goBy 38 = .ok (.iload_n 3, 1) := by decide +kernel
theorem dX12_goBy_39 : decode cX12_goBy 39 = .ok (.iadd, 1) := by decide +kernel
theorem dX12_goBy_40 : decode cX12_goBy 40 = .ok (.sipush 400, 3) := by decide +kernel
theorem dX12_goBy_43 : decode cX12_goBy 43 = .ok (.if_icmp .le 6, 3) := by decide +kernel
theorem dX12_goBy_46 : decode cX12_goBy 46 = .ok (.bipush 41, 2) := by decide +kernel
theorem dX12_goBy_48 : decode cX12_goBy 48 = .ok (.ireturn, 1) := by decide +kernel
theorem dX12_goBy_49 : decode cX12_goBy 49 = .ok (.aload_n 0, 1) := by decide +kernel
theorem dX12_goBy_50 : decode cX12_goBy 50 = .ok (.iload_n 3, 1) := by decide +kernel
theorem dX12_goBy_51 : decode cX12_goBy 51 = .ok (.invokevirtual 319, 3) := by decide +kernel
theorem dX12_goBy_54 : decode cX12_goBy 54 = .ok (.pop, 1) := by decide +kernel
theorem dX12_goBy_55 : decode cX12_goBy 55 = .ok (.iconst 0, 1) := by decide +kernel
theorem dX12_goBy_56 : decode cX12_goBy 56 = .ok (.ireturn, 1) := by decide +kernel
theorem dX12_goBy_57 : decode cX12_goBy 57 = .ok (.iload_n 2, 1) := by decide +kernel
theorem dX12_goBy_58 : decode cX12_goBy 58 = .ok (.iconst 1, 1) := by decide +kernel
theorem dX12_goBy_59 : decode cX12_goBy 59 = .ok (.if_icmp .eq 8, 3) := by decide +kernel
theorem dX12_goBy_62 : decode cX12_goBy 62 = .ok (.iload_n 2, 1) := by decide +kernel
theorem dX12_goBy_63 : decode cX12_goBy 63 = .ok (.iconst 2, 1) := by decide +kernel
theorem dX12_goBy_64 : decode cX12_goBy 64 = .ok (.if_icmp .ne 29, 3) := by decide +kernel
theorem dX12_goBy_67 : decode cX12_goBy 67 = .ok (.aload_n 0, 1) := by decide +kernel
theorem dX12_goBy_68 : decode cX12_goBy 68 = .ok (.iload_n 3, 1) := by decide +kernel
theorem dX12_goBy_69 : decode cX12_goBy 69 = .ok (.iload 4, 2) := by decide +kernel
theorem dX12_goBy_71 : decode cX12_goBy 71 = .ok (.invokevirtual 244, 3) := by decide +kernel
theorem dX12_goBy_74 : decode cX12_goBy 74 = .ok (.ifCond .ne 11, 3) := by decide +kernel
theorem dX12_goBy_77 : decode cX12_goBy 77 = .ok (.bipush 10, 2) := by decide +kernel
theorem dX12_goBy_79 : decode cX12_goBy 79 = .ok (.iload_n 2, 1) := by decide +kernel
theorem dX12_goBy_80 : decode cX12_goBy 80 = .ok (.imul, 1) := by decide +kernel
theorem dX12_goBy_81 : decode cX12_goBy 81 = .ok (.bipush 9, 2) := by decide +kernel
theorem dX12_goBy_83 : decode cX12_goBy 83 = .ok (.iadd, 1) := by decide +kernel
theorem dX12_goBy_84 : decode cX12_goBy 84 = .ok (.ireturn, 1) := by decide +kernel
theorem dX12_goBy_85 : decode cX12_goBy 85 = .ok (.iload_n 3, 1) := by decide +kernel
theorem dX12_goBy_86 : decode cX12_goBy 86 = .ok (.bipush 8, 2) := by decide +kernel
theorem dX12_goBy_88 : decode cX12_goBy 88 = .ok (.iload 4, 2) := by decide +kernel
theorem dX12_goBy_90 : decode cX12_goBy 90 = .ok (.imul, 1) := by decide +kernel
theorem dX12_goBy_91 : decode cX12_goBy 91 = .ok (.iadd, 1) := by decide +kernel
theorem dX12_goBy_92 : decode cX12_goBy 92 = .ok (.istore_n 3, 1) := by decide +kernel
theorem dX12_goBy_93 : decode cX12_goBy 93 = .ok (.aload_n 0, 1) := by decide +kernel
theorem dX12_goBy_94 : decode cX12_goBy 94 = .ok (.iload_n 2, 1) := by decide +kernel
theorem dX12_goBy_95 : decode cX12_goBy 95 = .ok (.iload_n 3, 1) := by decide +kernel
theorem dX12_goBy_96 : decode cX12_goBy 96 = .ok (.iload 4, 2) := by decide +kernel
theorem dX12_goBy_98 : decode cX12_goBy 98 = .ok (.invokevirtual 301, 3) := by decide +kernel
theorem dX12_goBy_101 : decode cX12_goBy 101 = .ok (.istore 5, 2) := by decide +kernel
theorem dX12_goBy_103 : decode cX12_goBy 103 = .ok (.iload 5, 2) := by decide +kernel
theorem dX12_goBy_105 : decode cX12_goBy 105 = .ok (.ifCond .eq 11, 3) := by decide +kernel
theorem dX12_goBy_108 : decode cX12_goBy 108 = .ok (.bipush 10, 2) := by decide +kernel
theorem dX12_goBy_110 : decode cX12_goBy 110 = .ok (.iload_n 2, 1) := by decide +kernel
theorem dX12_goBy_111 : decode cX12_goBy 111 = .ok (.imul, 1) := by decide +kernel
theorem dX12_goBy_112 : decode cX12_goBy 112 = .ok (.iload 5, 2) := by decide +kernel
theorem dX12_goBy_114 : decode cX12_goBy 114 = .ok (.iadd, 1) := by decide +kernel
theorem dX12_goBy_115 : decode cX12_goBy 115 = .ok (.ireturn, 1) := by decide +kernel
theorem dX12_goBy_116 : decode cX12_goBy 116 = .ok (.aload_n 0, 1) := by decide +kernel
theorem dX12_goBy_117 : decode cX12_goBy 117 = .ok (.iload_n 2, 1) := by decide +kernel
theorem dX12_goBy_118 : decode cX12_goBy 118 = .ok (.iload_n 3, 1) := by decide +kernel
theorem dX12_goBy_119 : decode cX12_goBy 119 = .ok (.iload 4, 2) := by decide +kernel
theorem dX12_goBy_121 : decode cX12_goBy 121 = .ok (.invokevirtual 308, 3) := by decide +kernel
theorem dX12_goBy_124 : decode cX12_goBy 124 = .ok (.iconst 0, 1) := by decide +kernel
theorem dX12_goBy_125 : decode cX12_goBy 125 = .ok (.ireturn, 1) := by decide +kernel
theorem dX12_go__0 : decode cX12_go_ 0 = .ok (.aload_n 0, 1) := by decide +kernel
theorem dX12_go__1 : decode cX12_go_ 1 = .ok (.iconst 0, 1) := by decide +kernel
theorem dX12_go__2 : decode cX12_go_ 2 = .ok (.putfield 1, 3) := by decide +kernel
theorem dX12_go__5 : decode cX12_go_ 5 = .ok (.aload_n 0, 1) := by decide +kernel
theorem dX12_go__6 : decode cX12_go_ 6 = .ok (.iconst 0, 1) := by decide +kernel
theorem dX12_go__7 : decode cX12_go_ 7 = .ok (.iload_n 1, 1) := by decide +kernel
theorem dX12_go__8 : decode cX12_go_ 8 = .ok (.iload_n 2, 1) := by decide +kernel
theorem dX12_go__9 : decode cX12_go_ 9 = .ok (.aload_n 0, 1) := by decide +kernel
theorem dX12_go__10 : decode cX12_go_ 10 = .ok (.iload_n 1, 1) := by decide +kernel
theorem dX12_go__11 : decode cX12_go_ 11 = .ok (.invokevirtual 280, 3) := by decide +kernel
theorem dX12_go__14 : decode cX12_go_ 14 = .ok (.ifCond .eq 16, 3) := by decide +kernel
theorem dX12_go__17 : decode cX12_go_ 17 = .ok (.iload_n 2, 1) := by decide +kernel
theorem dX12_go__18 : decode cX12_go_ 18 = .ok (.iconst 0, 1) := by decide +kernel
theorem dX12_go__19 : decode cX12_go_ 19 = .ok (.iconst 3, 1) := by decide +kernel
theorem dX12_go__20 : decode cX12_go_ 20 = .ok (.invokestatic 75, 3) := by decide +kernel
theorem dX12_go__23 : decode cX12_go_ 23 = .ok (.ifCond .eq 7, 3) := by decide +kernel
theorem dX12_go__26 : decode cX12_go_ 26 = .ok (.iconst 1, 1) := by decide +kernel
theorem dX12_go__27 : decode cX12_go_ 27 = .ok (.goto 4, 3) := by decide +kernel
theorem dX12_go__30 : decode cX12_go_ 30 = .ok (.iconst 0, 1) := by decide +kernel
theorem dX12_go__31 : decode cX12_go_ 31 = .ok (.invokevirtual 312, 3) := by decide +kernel
theorem dX12_go__34 : decode cX12_go_ 34 = .ok (.ireturn, 1) := by decide +kernel
theorem dX12_has_0 : decode cX12_has 0 = .ok (.iload_n 0, 1) := by decide +kernel
theorem dX12_has_1 : decode cX12_has 1 = .ok (.iload_n 1, 1) := by decide +kernel
theorem dX12_has_2 : decode cX12_has 2 = .ok (.ishr, 1) := by decide +kernel
theorem dX12_has_3 : decode cX12_has 3 = .ok (.iconst 1, 1) := by decide +kernel
theorem dX12_has_4 : decode cX12_has 4 = .ok (.iand, 1) := by decide +kernel
theorem dX12_has_5 : decode cX12_has 5 = .ok (.iconst 1, 1) := by decide +kernel
theorem dX12_has_6 : decode cX12_has 6 = .ok (.if_icmp .ne 7, 3) := by decide +kernel
theorem dX12_has_9 : decode cX12_has 9 = .ok (.iconst 1, 1) := by decide +kernel
theorem dX12_has_10 : decode cX12_has 10 = .ok (.goto 4, 3) := by decide +kernel
theorem dX12_has_13 : decode cX12_has 13 = .ok (.iconst 0, 1) := by decide +kernel
theorem dX12_has_14 : decode cX12_has 14 = .ok (.ireturn, 1) := by decide +kernel
theorem dX12_heightOf_0 : decode cX12_heightOf 0 = .ok (.aload_n 0, 1) := by decide +kernel
theorem dX12_heightOf_1 : decode cX12_heightOf 1 = .ok (.iload_n 1, 1) := by decide +kernel
theorem dX12_heightOf_2 : decode cX12_heightOf 2 = .ok (.invokevirtual 238, 3) := by decide +kernel
theorem dX12_heightOf_5 : decode cX12_heightOf 5 = .ok (.iconst (-1), 1) := by decide +kernel
theorem dX12_heightOf_6 : decode cX12_heightOf 6 = .ok (.if_icmp .ne 16, 3) := by decide +kernel
theorem dX12_heightOf_9 : decode cX12_heightOf 9 = .ok (.aload_n 0, 1) := by decide +kernel
theorem dX12_heightOf_10 : decode cX12_heightOf 10 = .ok (.getfield 98, 3) := by decide +kernel
theorem dX12_heightOf_13 : decode cX12_heightOf 13 = .ok (.sipush 128, 3) := by decide +kernel
theorem dX12_heightOf_16 : decode cX12_heightOf 16 = .ok (.iload_n 1, 1) := by decide +kernel
theorem dX12_heightOf_17 : decode cX12_heightOf 17 = .ok (.iadd, 1) := by decide +kernel
theorem dX12_heightOf_18 : decode cX12_heightOf 18 = .ok (.iaload, 1) := by decide +kernel
theorem dX12_heightOf_19 : decode cX12_heightOf 19 = .ok (.goto 16, 3) := by decide +kernel
theorem dX12_heightOf_22 : decode cX12_heightOf 22 = .ok (.aload_n 0, 1) := by decide +kernel
theorem dX12_heightOf_23 : decode cX12_heightOf 23 = .ok (.getfield 98, 3) := by decide +kernel
theorem dX12_heightOf_26 : decode cX12_heightOf 26 = .ok (.bipush 10, 2) := by decide +kernel
theorem dX12_heightOf_28 : decode cX12_heightOf 28 = .ok (.aload_n 0, 1) := by decide +kernel
theorem dX12_heightOf_29 : decode cX12_heightOf 29 = .ok (.iload_n 1, 1) := by decide +kernel
theorem dX12_heightOf_30 : decode cX12_heightOf 30 = .ok (.invokevirtual 238, 3) := by decide +kernel
theorem dX12_heightOf_33 : decode cX12_heightOf 33 = .ok (.iadd, 1) := by decide +kernel
theorem dX12_heightOf_34 : decode cX12_heightOf 34 = .ok (.iaload, 1) := by decide +kernel
theorem dX12_heightOf_35 : decode cX12_heightOf 35 = .ok (.ireturn, 1) := by decide +kernel
theorem dX12_heirs_0 : decode cX12_heirs 0 = .ok (.aload_n 0, 1) := by decide +kernel
theorem dX12_heirs_1 : decode cX12_heirs 1 = .ok (.iconst 0, 1) := by decide +kernel
theorem dX12_heirs_2 : decode cX12_heirs 2 = .ok (.putfield 1, 3) := by decide +kernel
theorem dX12_heirs_5 : decode cX12_heirs 5 = .ok (.aload_n 0, 1) := by decide +kernel
theorem dX12_heirs_6 : decode cX12_heirs 6 = .ok (.iload_n 1, 1) := by decide +kernel
theorem dX12_heirs_7 : decode cX12_heirs 7 = .ok (.invokevirtual 268, 3) := by decide +kernel
theorem dX12_heirs_10 : decode cX12_heirs 10 = .ok (.ifCond .eq 20, 3) := by decide +kernel
theorem dX12_heirs_13 : decode cX12_heirs 13 = .ok (.aload_n 0, 1) := by decide +kernel
theorem dX12_heirs_14 : decode cX12_heirs 14 = .ok (.iload_n 2, 1) := by decide +kernel
theorem dX12_heirs_15 : decode cX12_heirs 15 = .ok (.invokevirtual 322, 3) := by decide +kernel
theorem dX12_heirs_18 : decode cX12_heirs 18 = .ok (.ifCond .eq 12, 3) := by decide +kernel
theorem dX12_heirs_21 : decode cX12_heirs 21 = .ok (.aload_n 0, 1) := by decide +kernel
theorem dX12_heirs_22 : decode cX12_heirs 22 = .ok (.iload_n 1, 1) := by decide +kernel
theorem dX12_heirs_23 : decode cX12_heirs 23 = .ok (.iload_n 2, 1) := by decide +kernel
theorem dX12_heirs_24 : decode cX12_heirs 24 = .ok (.invokevirtual 277, 3) := by decide +kernel
theorem dX12_heirs_27 : decode cX12_heirs 27 = .ok (.goto 4, 3) := by decide +kernel
theorem dX12_heirs_30 : decode cX12_heirs 30 = .ok (.iconst (-1), 1) := by decide +kernel
theorem dX12_heirs_31 : decode cX12_heirs 31 = .ok (.ireturn, 1) := by decide +kernel
theorem dX12_holds_0 : decode cX12_holds 0 = .ok (.sipush 194, 3) := by decide +kernel
theorem dX12_holds_3 : decode cX12_holds 3 = .ok (.iconst 4, 1) := by decide +kernel
theorem dX12_holds_4 : decode cX12_holds 4 = .ok (.iload_n 1, 1) := by decide +kernel
theorem dX12_holds_5 : decode cX12_holds 5 = .ok (.imul, 1) := by decide +kernel
theorem dX12_holds_6 : decode cX12_holds 6 = .ok (.iadd, 1) := by decide +kernel
theorem dX12_holds_7 : decode cX12_holds 7 = .ok (.istore_n 3, 1) := by decide +kernel
theorem dX12_holds_8 : decode cX12_holds 8 = .ok (.aload_n 0, 1) := by decide +kernel
theorem dX12_holds_9 : decode cX12_holds 9 = .ok (.getfield 98, 3) := by decide +kernel
theorem dX12_holds_12 : decode cX12_holds 12 = .ok (.iload_n 3, 1) := by decide +kernel
theorem dX12_holds_13 : decode cX12_holds 13 = .ok (.iconst 1, 1) := by decide +kernel
theorem dX12_holds_14 : decode cX12_holds 14 = .ok (.iadd, 1) := by decide +kernel
theorem dX12_holds_15 : decode cX12_holds 15 = .ok (.iaload, 1) := by decide +kernel
theorem dX12_holds_16 : decode cX12_holds 16 = .ok (.istore 4, 2) := by decide +kernel
theorem dX12_holds_18 : decode cX12_holds 18 = .ok (.aload_n 0, 1) := by decide +kernel
theorem dX12_holds_19 : decode cX12_holds 19 = .ok (.getfield 98, 3) := by decide +kernel
theorem dX12_holds_22 : decode cX12_holds 22 = .ok (.iload_n 3, 1) := by decide +kernel
theorem dX12_holds_23 : decode cX12_holds 23 = .ok (.iconst 2, 1) := by decide +kernel
theorem dX12_holds_24 : decode cX12_holds 24 = .ok (.iadd, 1) := by decide +kernel
theorem dX12_holds_25 : decode cX12_holds 25 = .ok (.iaload, 1) := by decide +kernel
theorem dX12_holds_26 : decode cX12_holds 26 = .ok (.istore 5, 2) := by decide +kernel
theorem dX12_holds_28 : decode cX12_holds 28 = .ok (.aload_n 0, 1) := by decide +kernel
theorem dX12_holds_29 : decode cX12_holds 29 = .ok (.getfield 98, 3) := by decide +kernel
theorem dX12_holds_32 : decode cX12_holds 32 = .ok (.iload_n 3, 1) := by decide +kernel
theorem dX12_holds_33 : decode cX12_holds 33 = .ok (.iaload, 1) := by decide +kernel
theorem dX12_holds_34 : decode cX12_holds 34 = .ok (.lookupswitch 221 #[(1, 66), (2, 82), (3, 108), (66, 134), (67, 166), (68, 184), (69, 202)], 66) := by decide +kernel
theorem dX12_holds_100 : decode cX12_holds 100 = .ok (.aload_n 0, 1) := by decide +kernel
theorem dX12_holds_101 : decode cX12_holds 101 = .ok (.iload 4, 2) := by decide +kernel
theorem dX12_holds_103 : decode cX12_holds 103 = .ok (.iload_n 2, 1) := by decide +kernel
theorem dX12_holds_104 : decode cX12_holds 104 = .ok (.invokevirtual 452, 3) := by decide +kernel
theorem dX12_holds_107 : decode cX12_holds 107 = .ok (.ifCond .ne 7, 3) := by decide +kernel
theorem dX12_holds_110 : decode cX12_holds 110 = .ok (.iconst 1, 1) := by decide +kernel
theorem dX12_holds_111 : decode cX12_holds 111 = .ok (.goto 4, 3) := by decide +kernel
theorem dX12_holds_114 : decode cX12_holds 114 = .ok (.iconst 0, 1) := by decide +kernel
theorem dX12_holds_115 : decode cX12_holds 115 = .ok (.ireturn, 1) := by decide +kernel
theorem dX12_holds_116 : decode cX12_holds 116 = .ok (.aload_n 0, 1) := by decide +kernel
theorem dX12_holds_117 : decode cX12_holds 117 = .ok (.iload 4, 2) := by decide +kernel
theorem dX12_holds_119 : decode cX12_holds 119 = .ok (.iload_n 2, 1) := by decide +kernel
theorem dX12_holds_120 : decode cX12_holds 120 = .ok (.invokevirtual 452, 3) := by decide +kernel
theorem dX12_holds_123 : decode cX12_holds 123 = .ok (.ifCond .eq 17, 3) := by decide +kernel
theorem dX12_holds_126 : decode cX12_holds 126 = .ok (.aload_n 0, 1) := by decide +kernel
theorem dX12_holds_127 : decode cX12_holds 127 = .ok (.iload 5, 2) := by decide +kernel
theorem dX12_holds_129 : decode cX12_holds 129 = .ok (.iload_n 2, 1) := by decide +kernel
theorem dX12_holds_130 : decode cX12_holds 130 = .ok (.invokevirtual 452, 3) := by decide +kernel
theorem dX12_holds_133 : decode cX12_holds 133 = .ok (.ifCond .eq 7, 3) := by decide +kernel
theorem dX12_holds_136 : decode cX12_holds 136 = .ok (.iconst 1, 1) := by decide +kernel
theorem dX12_holds_137 : decode cX12_holds 137 = .ok (.goto 4, 3) := by decide +kernel
theorem dX12_holds_140 : decode cX12_holds 140 = .ok (.iconst 0, 1) := by decide +kernel
theorem dX12_holds_141 : decode cX12_holds 141 = .ok (.ireturn, 1) := by decide +kernel
theorem dX12_holds_142 : decode cX12_holds 142 = .ok (.aload_n 0, 1) := by decide +kernel
theorem dX12_holds_143 : decode cX12_holds 143 = .ok (.iload 4, 2) := by decide +kernel
theorem dX12_holds_145 : decode cX12_holds 145 = .ok (.iload_n 2, 1) := by decide +kernel
theorem dX12_holds_146 : decode cX12_holds 146 = .ok (.invokevirtual 452, 3) := by decide +kernel
theorem dX12_holds_149 : decode cX12_holds 149 = .ok (.ifCond .ne 13, 3) := by decide +kernel
theorem dX12_holds_152 : decode cX12_holds 152 = .ok (.aload_n 0, 1) := by decide +kernel
theorem dX12_holds_153 : decode cX12_holds 153 = .ok (.iload 5, 2) := by decide +kernel
theorem dX12_holds_155 : decode cX12_holds 155 = .ok (.iload_n 2, 1) := by decide +kernel
theorem dX12_holds_156 : decode cX12_holds 156 = .ok (.invokevirtual 452, 3) := by decide +kernel
theorem dX12_holds_159 : decode cX12_holds 159 = .ok (.ifCond .eq 7, 3) := by decide +kernel
theorem dX12_holds_162 : decode cX12_holds 162 = .ok (.iconst 1, 1) := by decide +kernel
theorem dX12_holds_163 : decode cX12_holds 163 = .ok (.goto 4, 3) := by decide +kernel
theorem dX12_holds_166 : decode cX12_holds 166 = .ok (.iconst 0, 1) := by decide +kernel
theorem dX12_holds_167 : decode cX12_holds 167 = .ok (.ireturn, 1) := by decide +kernel
theorem dX12_holds_168 : decode cX12_holds 168 = .ok (.aload_n 0, 1) := by decide +kernel
theorem dX12_holds_169 : decode cX12_holds 169 = .ok (.aload_n 0, 1) := by decide +kernel
theorem dX12_holds_170 : decode cX12_holds 170 = .ok (.getfield 98, 3) := by decide +kernel
theorem dX12_holds_173 : decode cX12_holds 173 = .ok (.bipush 116, 2) := by decide +kernel
theorem dX12_holds_175 : decode cX12_holds 175 = .ok (.iload_n 2, 1) := by decide +kernel
theorem dX12_holds_176 : decode cX12_holds 176 = .ok (.iadd, 1) := by decide +kernel
theorem dX12_holds_177 : decode cX12_holds 177 = .ok (.iaload, 1) := by decide +kernel
theorem dX12_holds_178 : decode cX12_holds 178 = .ok (.invokevirtual 265, 3) := by decide +kernel
theorem dX12_holds_181 : decode cX12_holds 181 = .ok (.aload_n 0, 1) := by decide +kernel
theorem dX12_holds_182 : decode cX12_holds 182 = .ok (.getfield 98, 3) := by decide +kernel
theorem dX12_holds_185 : decode cX12_holds 185 = .ok (.bipush 107, 2) := by decide +kernel
theorem dX12_holds_187 : decode cX12_holds 187 = .ok (.iaload, 1) := by decide +kernel
theorem dX12_holds_188 : decode cX12_holds 188 = .ok (.iconst (-1), 1) := by decide +kernel
theorem dX12_holds_189 : decode cX12_holds 189 = .ok (.ixor, 1) := by decide +kernel
theorem dX12_holds_190 : decode cX12_holds 190 = .ok (.iand, 1) := by decide +kernel
theorem dX12_holds_191 : decode cX12_holds 191 = .ok (.ifCond .eq 7, 3) := by decide +kernel
theorem dX12_holds_194 : decode cX12_holds 194 = .ok (.iconst 1, 1) := by decide +kernel
theorem dX12_holds_195 : decode cX12_holds 195 = .ok (.goto 4, 3) := by decide +kernel
theorem dX12_holds_198 : decode cX12_holds 198 = .ok (.iconst 0, 1) := by decide +kernel
theorem dX12_holds_199 : decode cX12_holds 199 = .ok (.ireturn, 1) := by decide +kernel
theorem dX12_holds_200 : decode cX12_holds 200 = .ok (.aload_n 0, 1) := by decide +kernel
theorem dX12_holds_201 : decode cX12_holds 201 = .ok (.getfield 98, 3) := by decide +kernel
theorem dX12_holds_204 : decode cX12_holds 204 = .ok (.bipush 122, 2) := by decide +kernel
theorem dX12_holds_206 : decode cX12_holds 206 = .ok (.iload_n 2, 1) := by decide +kernel
theorem dX12_holds_207 : decode cX12_holds 207 = .ok (.iadd, 1) := by decide +kernel
theorem dX12_holds_208 : decode cX12_holds 208 = .ok (.iaload, 1) := by decide +kernel
theorem dX12_holds_209 : decode cX12_holds 209 = .ok (.ifCond .ne 7, 3) := by decide +kernel
theorem dX12_holds_212 : decode cX12_holds 212 = .ok (.iconst 1, 1) := by decide +kernel
theorem dX12_holds_213 : decode cX12_holds 213 = .ok (.goto 4, 3) := by decide +kernel
theorem dX12_holds_216 : decode cX12_holds 216 = .ok (.iconst 0, 1) := by decide +kernel
theorem dX12_holds_217 : decode cX12_holds 217 = .ok (.ireturn, 1) := by decide +kernel
theorem dX12_holds_218 : decode cX12_holds 218 = .ok (.aload_n 0, 1) := by decide +kernel
theorem dX12_holds_219 : decode cX12_holds 219 = .ok (.getfield 98, 3) := by decide +kernel
theorem dX12_holds_222 : decode cX12_holds 222 = .ok (.bipush 122, 2) := by decide +kernel
theorem dX12_holds_224 : decode cX12_holds 224 = .ok (.iload_n 2, 1) := by decide +kernel
theorem dX12_holds_225 : decode cX12_holds 225 = .ok (.iadd, 1) := by decide +kernel
theorem dX12_holds_226 : decode cX12_holds 226 = .ok (.iaload, 1) := by decide +kernel
theorem dX12_holds_227 : decode cX12_holds 227 = .ok (.ifCond .le 7, 3) := by decide +kernel
theorem dX12_holds_230 : decode cX12_holds 230 = .ok (.iconst 1, 1) := by decide +kernel
theorem dX12_holds_231 : decode cX12_holds 231 = .ok (.goto 4, 3) := by decide +kernel
theorem dX12_holds_234 : decode cX12_holds 234 = .ok (.iconst 0, 1) := by decide +kernel
theorem dX12_holds_235 : decode cX12_holds 235 = .ok (.ireturn, 1) := by decide +kernel
theorem dX12_holds_236 : decode cX12_holds 236 = .ok (.aload_n 0, 1) := by decide +kernel
theorem dX12_holds_237 : decode cX12_holds 237 = .ok (.aload_n 0, 1) := by decide +kernel
theorem dX12_holds_238 : decode cX12_holds 238 = .ok (.getfield 98, 3) := by decide +kernel
theorem dX12_holds_241 : decode cX12_holds 241 = .ok (.bipush 116, 2) := by decide +kernel
theorem dX12_holds_243 : decode cX12_holds 243 = .ok (.iload_n 2, 1) := by decide +kernel
theorem dX12_holds_244 : decode cX12_holds 244 = .ok (.iadd, 1) := by decide +kernel
theorem dX12_holds_245 : decode cX12_holds 245 = .ok (.iaload, 1) := by decide +kernel
theorem dX12_holds_246 : decode cX12_holds 246 = .ok (.invokevirtual 265, 3) := by decide +kernel
theorem dX12_holds_249 : decode cX12_holds 249 = .ok (.iload 4, 2) := by decide +kernel
theorem dX12_holds_251 : decode cX12_holds 251 = .ok (.invokestatic 235, 3) := by decide +kernel
theorem dX12_holds_254 : decode cX12_holds 254 = .ok (.ireturn, 1) := by decide +kernel
theorem dX12_holds_255 : decode cX12_holds 255 = .ok (.aload_n 0, 1) := by decide +kernel
theorem dX12_holds_256 : decode cX12_holds 256 = .ok (.getfield 98, 3) := by decide +kernel
theorem dX12_holds_259 : decode cX12_holds 259 = .ok (.iload_n 3, 1) := by decide +kernel
theorem dX12_holds_260 : decode cX12_holds 260 = .ok (.iaload, 1) := by decide +kernel
theorem dX12_holds_261 : decode cX12_holds 261 = .ok (.bipush 50, 2) := by decide +kernel
theorem dX12_holds_263 : decode cX12_holds 263 = .ok (.isub, 1) := by decide +kernel
theorem dX12_holds_264 : decode cX12_holds 264 = .ok (.istore 6, 2) := by decide +kernel
theorem dX12_holds_266 : decode cX12_holds 266 = .ok (.iload 6, 2) := by decide +kernel
theorem dX12_holds_268 : decode cX12_holds 268 = .ok (.bipush 20, 2) := by decide +kernel
theorem dX12_holds_270 : decode cX12_holds 270 = .ok (.if_icmp .ne 15, 3) := by decide +kernel
theorem dX12_holds_273 : decode cX12_holds 273 = .ok (.aload_n 0, 1) := by decide +kernel
theorem dX12_holds_274 : decode cX12_holds 274 = .ok (.getfield 98, 3) := by decide +kernel
theorem dX12_holds_277 : decode cX12_holds 277 = .ok (.bipush 122, 2) := by decide +kernel
theorem dX12_holds_279 : decode cX12_holds 279 = .ok (.iload_n 2, 1) := by decide +kernel
theorem dX12_holds_280 : decode cX12_holds 280 = .ok (.iadd, 1) := by decide +kernel
theorem dX12_holds_281 : decode cX12_holds 281 = .ok (.iaload, 1) := by decide +kernel
theorem dX12_holds_282 : decode cX12_holds 282 = .ok (.goto 48, 3) := by decide +kernel
theorem dX12_holds_285 : decode cX12_holds 285 = .ok (.iload 6, 2) := by decide +kernel
theorem dX12_holds_287 : decode cX12_holds 287 = .ok (.bipush 21, 2) := by decide +kernel
theorem dX12_holds_289 : decode cX12_holds 289 = .ok (.if_icmp .ne 18, 3) := by decide +kernel
theorem dX12_holds_292 : decode cX12_holds 292 = .ok (.aload_n 0, 1) := by decide +kernel
theorem dX12_holds_293 : decode cX12_holds 293 = .ok (.getfield 98, 3) := by decide +kernel
theorem dX12_holds_296 : decode cX12_holds 296 = .ok (.bipush 116, 2) := by decide +kernel
theorem dX12_holds_298 : decode cX12_holds 298 = .ok (.iload_n 2, 1) := by decide +kernel
theorem dX12_holds_299 : decode cX12_holds 299 = .ok (.iadd, 1) := by decide +kernel
theorem dX12_holds_300 : decode cX12_holds 300 = .ok (.iaload, 1) := by decide +kernel
theorem dX12_holds_301 : decode cX12_holds 301 = .ok (.bipush 8, 2) := by decide +kernel
theorem dX12_holds_303 : decode cX12_holds 303 = .ok (.irem, 1) := by decide +kernel
theorem dX12_holds_304 : decode cX12_holds 304 = .ok (.goto 26, 3) := by decide +kernel
theorem dX12_holds_307 : decode cX12_holds 307 = .ok (.iload 6, 2) := by decide +kernel
theorem dX12_holds_309 : decode cX12_holds 309 = .ok (.bipush 22, 2) := by decide +kernel
theorem dX12_holds_311 : decode cX12_holds 311 = .ok (.if_icmp .ne 18, 3) := by decide +kernel
theorem dX12_holds_314 : decode cX12_holds 314 = .ok (.aload_n 0, 1) := by decide +kernel
theorem dX12_holds_315 : decode cX12_holds 315 = .ok (.getfield 98, 3) := by decide +kernel
theorem dX12_holds_318 : decode cX12_holds 318 = .ok (.bipush 116, 2) := by decide +kernel
theorem dX12_holds_320 : decode cX12_holds 320 = .ok (.iload_n 2, 1) := by decide +kernel
theorem dX12_holds_321 : decode cX12_holds 321 = .ok (.iadd, 1) := by decide +kernel
theorem dX12_holds_322 : decode cX12_holds 322 = .ok (.iaload, 1) := by decide +kernel
theorem dX12_holds_323 : decode cX12_holds 323 = .ok (.bipush 8, 2) := by decide +kernel
theorem dX12_holds_325 : decode cX12_holds 325 = .ok (.idiv, 1) := by decide +kernel
theorem dX12_holds_326 : decode cX12_holds 326 = .ok (.goto 4, 3) := by decide +kernel
theorem dX12_holds_329 : decode cX12_holds 329 = .ok (.iload_n 2, 1) := by decide +kernel
theorem dX12_holds_330 : decode cX12_holds 330 = .ok (.istore 7, 2) := by decide +kernel
theorem dX12_holds_332 : decode cX12_holds 332 = .ok (.aload_n 0, 1) := by decide +kernel
theorem dX12_holds_333 : decode cX12_holds 333 = .ok (.getfield 98, 3) := by decide +kernel
theorem dX12_holds_336 : decode cX12_holds 336 = .ok (.iload_n 3, 1) := by decide +kernel
theorem dX12_holds_337 : decode cX12_holds 337 = .ok (.iconst 3, 1) := by decide +kernel
theorem dX12_holds_338 : decode cX12_holds 338 = .ok (.iadd, 1) := by decide +kernel
theorem dX12_holds_339 : decode cX12_holds 339 = .ok (.iaload, 1) := by decide +kernel
theorem dX12_holds_340 : decode cX12_holds 340 = .ok (.bipush 60, 2) := by decide +kernel
theorem dX12_holds_342 : decode cX12_holds 342 = .ok (.if_icmp .ne 18, 3) := by decide +kernel
theorem dX12_holds_345 : decode cX12_holds 345 = .ok (.iload 7, 2) := by decide +kernel
theorem dX12_holds_347 : decode cX12_holds 347 = .ok (.iload 5, 2) := by decide +kernel
theorem dX12_holds_349 : decode cX12_holds 349 = .ok (.if_icmp .ge 7, 3) := by decide +kernel
theorem dX12_holds_352 : decode cX12_holds 352 = .ok (.iconst 1, 1) := by decide +kernel
theorem dX12_holds_353 : decode cX12_holds 353 = .ok (.goto 47, 3) := by decide +kernel
theorem dX12_holds_356 : decode cX12_holds 356 = .ok (.iconst 0, 1) := by decide +kernel
theorem dX12_holds_357 : decode cX12_holds 357 = .ok (.goto 43, 3) := by decide +kernel
theorem dX12_holds_360 : decode cX12_holds 360 = .ok (.aload_n 0, 1) := by decide +kernel
theorem dX12_holds_361 : decode cX12_holds 361 = .ok (.getfield 98, 3) := by decide +kernel
theorem dX12_holds_364 : decode cX12_holds 364 = .ok (.iload_n 3, 1) := by decide +kernel
theorem dX12_holds_365 : decode cX12_holds 365 = .ok (.iconst 3, 1) := by decide +kernel
theorem dX12_holds_366 : decode cX12_holds 366 = .ok (.iadd, 1) := by decide +kernel
theorem dX12_holds_367 : decode cX12_holds 367 = .ok (.iaload, 1) := by decide +kernel
theorem dX12_holds_368 : decode cX12_holds 368 = .ok (.bipush 61, 2) := by decide +kernel
theorem dX12_holds_370 : decode cX12_holds 370 = .ok (.if_icmp .ne 18, 3) := by decide +kernel
theorem dX12_holds_373 : decode cX12_holds 373 = .ok (.iload 7, 2) := by decide +kernel
theorem dX12_holds_375 : decode cX12_holds 375 = .ok (.iload 5, 2) := by decide +kernel
theorem dX12_holds_377 : decode cX12_holds 377 = .ok (.if_icmp .ne 7, 3) := by decide +kernel
theorem dX12_holds_380 : decode cX12_holds 380 = .ok (.iconst 1, 1) := by decide +kernel
theorem dX12_holds_381 : decode cX12_holds 381 = .ok (.goto 19, 3) := by decide +kernel
theorem dX12_holds_384 : decode cX12_holds 384 = .ok (.iconst 0, 1) := by decide +kernel
theorem dX12_holds_385 : decode cX12_holds 385 = .ok (.goto 15, 3) := by decide +kernel
theorem dX12_holds_388 : decode cX12_holds 388 = .ok (.iload 7, 2) := by decide +kernel
theorem dX12_holds_390 : decode cX12_holds 390 = .ok (.iload 5, 2) := by decide +kernel
theorem dX12_holds_392 : decode cX12_holds 392 = .ok (.if_icmp .le 7, 3) := by decide +kernel
theorem dX12_holds_395 : decode cX12_holds 395 = .ok (.iconst 1, 1) := by decide +kernel
theorem dX12_holds_396 : decode cX12_holds 396 = .ok (.goto 4, 3) := by decide +kernel
theorem dX12_holds_399 : decode cX12_holds 399 = .ok (.iconst 0, 1) := by decide +kernel
theorem dX12_holds_400 : decode cX12_holds 400 = .ok (.ireturn, 1) := by decide +kernel
theorem dX12_hours_0 : decode cX12_hours 0 = .ok (.aload_n 0, 1) := by decide +kernel
theorem dX12_hours_1 : decode cX12_hours 1 = .ok (.iconst 0, 1) := by decide +kernel
theorem dX12_hours_2 : decode cX12_hours 2 = .ok (.putfield 1, 3) := by decide +kernel
theorem dX12_hours_5 : decode cX12_hours 5 = .ok (.iload_n 1, 1) := by decide +kernel
theorem dX12_hours_6 : decode cX12_hours 6 = .ok (.iconst 1, 1) := by decide +kernel
theorem dX12_hours_7 : decode cX12_hours 7 = .ok (.bipush 60, 2) := by decide +kernel
theorem dX12_hours_9 : decode cX12_hours 9 = .ok (.invokestatic 75, 3) := by decide +kernel
theorem dX12_hours_12 : decode cX12_hours 12 = .ok (.ifCond .ne 5, 3) := by decide +kernel
theorem dX12_hours_15 : decode cX12_hours 15 = .ok (.iconst (-1), 1) := by decide +kernel
theorem dX12_hours_16 : decode cX12_hours 16 = .ok (.ireturn, 1) := by decide +kernel
theorem dX12_hours_17 : decode cX12_hours 17 = .ok (.aload_n 0, 1) := by decide +kernel
theorem dX12_hours_18 : decode cX12_hours 18 = .ok (.getfield 98, 3) := by decide +kernel
theorem dX12_hours_21 : decode cX12_hours 21 = .ok (.bipush 106, 2) := by decide +kernel
theorem dX12_hours_23 : decode cX12_hours 23 = .ok (.iaload, 1) := by decide +kernel
theorem dX12_hours_24 : decode cX12_hours 24 = .ok (.sipush 400, 3) := by decide +kernel
theorem dX12_hours_27 : decode cX12_hours 27 = .ok (.if_icmp .ne 5, 3) := by decide +kernel
theorem dX12_hours_30 : decode cX12_hours 30 = .ok (.iconst 0, 1) := by decide +kernel
theorem dX12_hours_31 : decode cX12_hours 31 = .ok (.ireturn, 1) := by decide +kernel
theorem dX12_hours_32 : decode cX12_hours 32 = .ok (.aload_n 0, 1) := by decide +kernel
theorem dX12_hours_33 : decode cX12_hours 33 = .ok (.invokevirtual 305, 3) := by decide +kernel
theorem dX12_hours_36 : decode cX12_hours 36 = .ok (.aload_n 0, 1) := by decide +kernel
theorem dX12_hours_37 : decode cX12_hours 37 = .ok (.iload_n 1, 1) := by decide +kernel
theorem dX12_hours_38 : decode cX12_hours 38 = .ok (.invokevirtual 319, 3) := by decide +kernel
theorem dX12_hours_41 : decode cX12_hours 41 = .ok (.ireturn, 1) := by decide +kernel
theorem dX12_house_0 : decode cX12_house 0 = .ok (.aload_n 0, 1) := by decide +kernel
theorem dX12_house_1 : decode cX12_house 1 = .ok (.iconst 0, 1) := by decide +kernel
theorem dX12_house_2 : decode cX12_house 2 = .ok (.putfield 1, 3) := by decide +kernel
theorem dX12_house_5 : decode cX12_house 5 = .ok (.aload_n 0, 1) := by decide +kernel
theorem dX12_house_6 : decode cX12_house 6 = .ok (.iload_n 1, 1) := by decide +kernel
theorem dX12_house_7 : decode cX12_house 7 = .ok (.invokevirtual 268, 3) := by decide +kernel
theorem dX12_house_10 : decode cX12_house 10 = .ok (.ifCond .ne 8, 3) := by decide +kernel
theorem dX12_house_13 : decode cX12_house 13 = .ok (.aload_n 0, 1) := by decide +kernel
theorem dX12_house_14 : decode cX12_house 14 = .ok (.invokevirtual 271, 3) := by decide +kernel
theorem dX12_house_17 : decode cX12_house 17 = .ok (.ireturn, 1) := by decide +kernel
theorem dX12_house_18 : decode cX12_house 18 = .ok (.iload_n 2, 1) := by decide +kernel
theorem dX12_house_19 : decode cX12_house 19 = .ok (.tableswitch 105 0 5 #[37, 49, 61, 71, 81, 95], 37) := by decide +kernel
theorem dX12_house_56 : decode cX12_house 56 = .ok (.aload_n 0, 1) := by decide +kernel
theorem dX12_house_57 : decode cX12_house 57 = .ok (.getfield 98, 3) := by decide +kernel
theorem dX12_house_60 : decode cX12_house 60 = .ok (.iconst 5, 1) := by decide +kernel
theorem dX12_house_61 : decode cX12_house 61 = .ok (.iload_n 1, 1) := by decide +kernel
theorem dX12_house_62 : decode cX12_house 62 = .ok (.iadd, 1) := by decide +kernel
theorem dX12_house_63 : decode cX12_house 63 = .ok (.iaload, 1) := by decide +kernel
theorem dX12_house_64 : decode cX12_house 64 = .ok (.bipush 8, 2) := by decide +kernel
theorem dX12_house_66 : decode cX12_house 66 = .ok (.irem, 1) := by decide +kernel
theorem dX12_house_67 : decode cX12_house 67 = .ok (.ireturn, 1) := by decide +kernel
theorem dX12_house_68 : decode cX12_house 68 = .ok (.aload_n 0, 1) := by decide +kernel
theorem dX12_house_69 : decode cX12_house 69 = .ok (.getfield 98, 3) := by decide +kernel
theorem dX12_house_72 : decode cX12_house 72 = .ok (.iconst 5, 1) := by decide +kernel
theorem dX12_house_73 : decode cX12_house 73 = .ok (.iload_n 1, 1) := by decide +kernel
theorem dX12_house_74 : decode cX12_house 74 = .ok (.iadd, 1) := by decide +kernel
theorem dX12_house_75 : decode cX12_house 75 = .ok (.iaload, 1) := by decide +kernel
theorem dX12_house_76 : decode cX12_house 76 = .ok (.bipush 8, 2) := by decide +kernel
theorem dX12_house_78 : decode cX12_house 78 = .ok (.idiv, 1) := by decide +kernel
theorem dX12_house_79 : decode cX12_house 79 = .ok (.ireturn, 1) := by decide +kernel
theorem dX12_house_80 : decode cX12_house 80 = .ok (.aload_n 0, 1) := by decide +kernel
theorem dX12_house_81 : decode cX12_house 81 = .ok (.getfield 98, 3) := by decide +kernel
theorem dX12_house_84 : decode cX12_house 84 = .ok (.bipush 10, 2) := by decide +kernel
theorem dX12_house_86 : decode cX12_house 86 = .ok (.iload_n 1, 1) := by decide +kernel
theorem dX12_house_87 : decode cX12_house 87 = .ok (.iadd, 1) := by decide +kernel
theorem dX12_house_88 : decode cX12_house 88 = .ok (.iaload, 1) := by decide +kernel
theorem dX12_house_89 : decode cX12_house 89 = .ok (.ireturn, 1) := by decide +kernel
theorem dX12_house_90 : decode cX12_house 90 = .ok (.aload_n 0, 1) := by decide +kernel
theorem dX12_house_91 : decode cX12_house 91 = .ok (.getfield 98, 3) := by decide +kernel
theorem dX12_house_94 : decode cX12_house 94 = .ok (.bipush 111, 2) := by decide +kernel
theorem dX12_house_96 : decode cX12_house 96 = .ok (.iload_n 1, 1) := by decide +kernel
theorem dX12_house_97 : decode cX12_house 97 = .ok (.iadd, 1) := by decide +kernel
theorem dX12_house_98 : decode cX12_house 98 = .ok (.iaload, 1) := by decide +kernel
theorem dX12_house_99 : decode cX12_house 99 = .ok (.ireturn, 1) := by decide +kernel
theorem dX12_house_100 : decode cX12_house 100 = .ok (.aload_n 0, 1) := by decide +kernel
theorem dX12_house_101 : decode cX12_house 101 = .ok (.iload_n 1, 1) := by decide +kernel
theorem dX12_house_102 : decode cX12_house 102 = .ok (.invokevirtual 274, 3) := by decide +kernel
theorem dX12_house_105 : decode cX12_house 105 = .ok (.ifCond .eq 7, 3) := by decide +kernel
theorem dX12_house_108 : decode cX12_house 108 = .ok (.iconst 1, 1) := by decide +kernel
theorem dX12_house_109 : decode cX12_house 109 = .ok (.goto 4, 3) := by decide +kernel
theorem dX12_house_112 : decode cX12_house 112 = .ok (.iconst 0, 1) := by decide +kernel
theorem dX12_house_113 : decode cX12_house 113 = .ok (.ireturn, 1) := by decide +kernel
theorem dX12_house_114 : decode cX12_house 114 = .ok (.aload_n 0, 1) := by decide +kernel
theorem dX12_house_115 : decode cX12_house 115 = .ok (.iload_n 1, 1) := by decide +kernel
theorem dX12_house_116 : decode cX12_house 116 = .ok (.aload_n 0, 1) := by decide +kernel
theorem dX12_house_117 : decode cX12_house 117 = .ok (.invokevirtual 259, 3) := by decide +kernel
theorem dX12_house_120 : decode cX12_house 120 = .ok (.invokevirtual 277, 3) := by decide +kernel
theorem dX12_house_123 : decode cX12_house 123 = .ok (.ireturn, 1) := by decide +kernel
theorem dX12_house_124 : decode cX12_house 124 = .ok (.aload_n 0, 1) := by decide +kernel
theorem dX12_house_125 : decode cX12_house 125 = .ok (.invokevirtual 271, 3) := by decide +kernel
theorem dX12_house_128 : decode cX12_house 128 = .ok (.ireturn, 1) := by decide +kernel
theorem dX12_houseAt_0 : decode cX12_houseAt 0 = .ok (.iconst 0, 1) := by decide +kernel
theorem dX12_houseAt_1 : decode cX12_houseAt 1 = .ok (.istore_n 2, 1) := by decide +kernel
theorem dX12_houseAt_2 : decode cX12_houseAt 2 = .ok (.iload_n 2, 1) := by decide +kernel
theorem dX12_houseAt_3 : decode cX12_houseAt 3 = .ok (.aload_n 0, 1) := by decide +kernel
theorem dX12_houseAt_4 : decode cX12_houseAt 4 = .ok (.getfield 98, 3) := by decide +kernel
theorem dX12_houseAt_7 : decode cX12_houseAt 7 = .ok (.iconst 2, 1) := by decide +kernel
theorem dX12_houseAt_8 : decode cX12_houseAt 8 = .ok (.iaload, 1) := by decide +kernel
theorem dX12_houseAt_9 : decode cX12_houseAt 9 = .ok (.if_icmp .ge 23, 3) := by decide +kernel
theorem dX12_houseAt_12 : decode cX12_houseAt 12 = .ok (.aload_n 0, 1) := by decide +kernel
theorem dX12_houseAt_13 : decode cX12_houseAt 13 = .ok (.getfield 98, 3) := by decide +kernel
theorem dX12_houseAt_16 : decode cX12_houseAt 16 = .ok (.iconst 5, 1) := by decide +kernel
theorem dX12_houseAt_17 : decode cX12_houseAt 17 = .ok (.iload_n 2, 1) := by decide +kernel
theorem dX12_houseAt_18 : decode cX12_houseAt 18 = .ok (.iadd, 1) := by decide +kernel
theorem dX12_houseAt_19 : decode cX12_houseAt 19 = .ok (.iaload, 1) := by decide +kernel
theorem dX12_houseAt_20 : decode cX12_houseAt 20 = .ok (.iload_n 1, 1) := by decide +kernel
theorem dX12_houseAt_21 : decode cX12_houseAt 21 = .ok (.if_icmp .ne 5, 3) := by decide +kernel
theorem dX12_houseAt_24 : decode cX12_houseAt 24 = .ok (.iload_n 2, 1) := by decide +kernel
theorem dX12_houseAt_25 : decode cX12_houseAt 25 = .ok (.ireturn, 1) := by decide +kernel
theorem dX12_houseAt_26 : decode cX12_houseAt 26 = .ok (.iinc 2 1, 3) := by decide +kernel
theorem dX12_houseAt_29 : decode cX12_houseAt 29 = .ok (.goto (-27), 3) := by decide +kernel
theorem dX12_houseAt_32 : decode cX12_houseAt 32 = .ok (.iconst (-1), 1) := by decide +kernel
theorem dX12_houseAt_33 : decode cX12_houseAt 33 = .ok (.ireturn, 1) := by decide +kernel
theorem dX12_image_0 : decode cX12_image 0 = .ok (.aload_n 0, 1) := by decide +kernel
theorem dX12_image_1 : decode cX12_image 1 = .ok (.iconst 0, 1) := by decide +kernel
theorem dX12_image_2 : decode cX12_image 2 = .ok (.putfield 1, 3) := by decide +kernel
theorem dX12_image_5 : decode cX12_image 5 = .ok (.iload_n 1, 1) := by decide +kernel
theorem dX12_image_6 : decode cX12_image 6 = .ok (.iconst 0, 1) := by decide +kernel
theorem dX12_image_7 : decode cX12_image 7 = .ok (.iconst 1, 1) := by decide +kernel
theorem dX12_image_8 : decode cX12_image 8 = .ok (.invokestatic 75, 3) := by decide +kernel
theorem dX12_image_11 : decode cX12_image 11 = .ok (.ifCond .ne 5, 3) := by decide +kernel
theorem dX12_image_14 : decode cX12_image 14 = .ok (.iconst 0, 1) := by decide +kernel
theorem dX12_image_15 : decode cX12_image 15 = .ok (.ireturn, 1) := by decide +kernel
theorem dX12_image_16 : decode cX12_image 16 = .ok (.iconst 0, 1) := by decide +kernel
theorem dX12_image_17 : decode cX12_image 17 = .ok (.istore_n 2, 1) := by decide +kernel
theorem dX12_image_18 : decode cX12_image 18 = .ok (.iload_n 2, 1) := by decide +kernel
theorem dX12_image_19 : decode cX12_image 19 = .ok (.sipush 434, 3) := by decide +kernel
theorem dX12_image_22 : decode cX12_image 22 = .ok (.if_icmp .ge 27, 3) := by decide +kernel
theorem dX12_image_25 : decode cX12_image 25 = .ok (.aload_n 0, 1) := by decide +kernel
theorem dX12_image_26 : decode cX12_image 26 = .ok (.getfield 104, 3) := by decide +kernel
theorem dX12_image_29 : decode cX12_image 29 = .ok (.sipush 434, 3) := by decide +kernel
theorem dX12_image_32 : decode cX12_image 32 = .ok (.iload_n 1, 1) := by decide +kernel
theorem dX12_image_33 : decode cX12_image 33 = .ok (.imul, 1) := by decide +kernel
theorem dX12_image_34 : decode cX12_image 34 = .ok (.iload_n 2, 1) := by decide +kernel
theorem dX12_image_35 : decode cX12_image 35 = .ok (.iadd, 1) := by decide +kernel
theorem dX12_image_36 : decode cX12_image 36 = .ok (.aload_n 0, 1) := by decide +kernel
theorem dX12_image_37 : decode cX12_image 37 = .ok (.getfield 98, 3) := by decide +kernel
theorem dX12_image_40 : decode cX12_image 40 = .ok (.iload_n 2, 1) := by decide +kernel
theorem dX12_image_41 : decode cX12_image 41 = .ok (.iaload, 1) := by decide +kernel
theorem dX12_image_42 : decode cX12_image 42 = .ok (.iastore, 1) := by decide +kernel
theorem dX12_image_43 : decode cX12_image 43 = .ok (.iinc 2 1, 3) := by decide +kernel
theorem dX12_image_46 : decode cX12_image 46 = .ok (.goto (-28), 3) := by decide +kernel
theorem dX12_image_49 : decode cX12_image 49 = .ok (.iconst 0, 1) := by decide +kernel
theorem dX12_image_50 : decode cX12_image 50 = .ok (.istore_n 2, 1) := by decide +kernel
theorem dX12_image_51 : decode cX12_image 51 = .ok (.iload_n 2, 1) := by decide +kernel
theorem dX12_image_52 : decode cX12_image 52 = .ok (.bipush 11, 2) := by decide +kernel
theorem dX12_image_54 : decode cX12_image 54 = .ok (.if_icmp .ge 26, 3) := by decide +kernel
theorem dX12_image_57 : decode cX12_image 57 = .ok (.aload_n 0, 1) := by decide +kernel
theorem dX12_image_58 : decode cX12_image 58 = .ok (.getfield 120, 3) := by decide +kernel
theorem dX12_image_61 : decode cX12_image 61 = .ok (.bipush 11, 2) := by decide +kernel
theorem dX12_image_63 : decode cX12_image 63 = .ok (.iload_n 1, 1) := by decide +kernel
theorem dX12_image_64 : decode cX12_image 64 = .ok (.imul, 1) := by decide +kernel
theorem dX12_image_65 : decode cX12_image 65 = .ok (.iload_n 2, 1) := by decide +kernel
theorem dX12_image_66 : decode cX12_image 66 = .ok (.iadd, 1) := by decide +kernel
theorem dX12_image_67 : decode cX12_image 67 = .ok (.aload_n 0, 1) := by decide +kernel
theorem dX12_image_68 : decode cX12_image 68 = .ok (.getfield 113, 3) := by decide +kernel
theorem dX12_image_71 : decode cX12_image 71 = .ok (.iload_n 2, 1) := by decide +kernel
theorem dX12_image_72 : decode cX12_image 72 = .ok (.laload, 1) := by decide +kernel
theorem dX12_image_73 : decode cX12_image 73 = .ok (.lastore, 1) := by decide +kernel
theorem dX12_image_74 : decode cX12_image 74 = .ok (.iinc 2 1, 3) := by decide +kernel
theorem dX12_image_77 : decode cX12_image 77 = .ok (.goto (-26), 3) := by decide +kernel
theorem dX12_image_80 : decode cX12_image 80 = .ok (.aload_n 0, 1) := by decide +kernel
theorem dX12_image_81 : decode cX12_image 81 = .ok (.getfield 123, 3) := by decide +kernel
theorem dX12_image_84 : decode cX12_image 84 = .ok (.iload_n 1, 1) := by decide +kernel
theorem dX12_image_85 : decode cX12_image 85 = .ok (.iconst 1, 1) := by decide +kernel
theorem dX12_image_86 : decode cX12_image 86 = .ok (.bastore, 1) := by decide +kernel
theorem dX12_image_87 : decode cX12_image 87 = .ok (.iconst 1, 1) := by decide +kernel
theorem dX12_image_88 : decode cX12_image 88 = .ok (.ireturn, 1) := by decide +kernel
theorem dX12_isBuried_0 : decode cX12_isBuried 0 = .ok (.aload_n 0, 1) := by decide +kernel
theorem dX12_isBuried_1 : decode cX12_isBuried 1 = .ok (.getfield 98, 3) := by decide +kernel
theorem dX12_isBuried_4 : decode cX12_isBuried 4 = .ok (.bipush 107, 2) := by decide +kernel
theorem dX12_isBuried_6 : decode cX12_isBuried 6 = .ok (.iaload, 1) := by decide +kernel
theorem dX12_isBuried_7 : decode cX12_isBuried 7 = .ok (.iload_n 1, 1) := by decide +kernel
theorem dX12_isBuried_8 : decode cX12_isBuried 8 = .ok (.invokestatic 235, 3) := by decide +kernel
theorem dX12_isBuried_11 : decode cX12_isBuried 11 = .ok (.ireturn, 1) := by decide +kernel
theorem dX12_isCast_0 : decode cX12_isCast 0 = .ok (.lload_n 0, 1) := by decide +kernel
theorem dX12_isCast_1 : decode cX12_isCast 1 = .ok (.iload_n 2, 1) := by decide +kernel
theorem dX12_isCast_2 : decode cX12_isCast 2 = .ok (.lshr, 1) := by decide +kernel
theorem dX12_isCast_3 : decode cX12_isCast 3 = .ok (.lconst 1, 1) := by decide +kernel
theorem dX12_isCast_4 : decode cX12_isCast 4 = .ok (.land, 1) := by decide +kernel
theorem dX12_isCast_5 : decode cX12_isCast 5 = .ok (.lconst 1, 1) := by decide +kernel
theorem dX12_isCast_6 : decode cX12_isCast 6 = .ok (.lcmp, 1) := by decide +kernel
theorem dX12_isCast_7 : decode cX12_isCast 7 = .ok (.ifCond .ne 7, 3) := by decide +kernel
theorem dX12_isCast_10 : decode cX12_isCast 10 = .ok (.iconst 1, 1) := by decide +kernel
theorem dX12_isCast_11 : decode cX12_isCast 11 = .ok (.goto 4, 3) := by decide +kernel
theorem dX12_isCast_14 : decode cX12_isCast 14 = .ok (.iconst 0, 1) := by decide +kernel
theorem dX12_isCast_15 : decode cX12_isCast 15 = .ok (.ireturn, 1) := by decide +kernel
theorem dX12_isCell_0 : decode cX12_isCell 0 = .ok (.iload_n 1, 1) := by decide +kernel
theorem dX12_isCell_1 : decode cX12_isCell 1 = .ok (.iconst 0, 1) := by decide +kernel
theorem dX12_isCell_2 : decode cX12_isCell 2 = .ok (.aload_n 0, 1) := by decide +kernel
theorem dX12_isCell_3 : decode cX12_isCell 3 = .ok (.getfield 98, 3) := by decide +kernel
theorem dX12_isCell_6 : decode cX12_isCell 6 = .ok (.iconst 0, 1) := by decide +kernel
theorem dX12_isCell_7 : decode cX12_isCell 7 = .ok (.iaload, 1) := by decide +kernel
theorem dX12_isCell_8 : decode cX12_isCell 8 = .ok (.iconst 1, 1) := by decide +kernel
theorem dX12_isCell_9 : decode cX12_isCell 9 = .ok (.isub, 1) := by decide +kernel
theorem dX12_isCell_10 : decode cX12_isCell 10 = .ok (.invokestatic 75, 3) := by decide +kernel
theorem dX12_isCell_13 : decode cX12_isCell 13 = .ok (.ifCond .eq 23, 3) := by decide +kernel
theorem dX12_isCell_16 : decode cX12_isCell 16 = .ok (.iload_n 2, 1) := by decide +kernel
theorem dX12_isCell_17 : decode cX12_isCell 17 = .ok (.iconst 0, 1) := by decide +kernel
theorem dX12_isCell_18 : decode cX12_isCell 18 = .ok (.aload_n 0, 1) := by decide +kernel
theorem dX12_isCell_19 : decode cX12_isCell 19 = .ok (.getfield 98, 3) := by decide +kernel
theorem dX12_isCell_22 : decode cX12_isCell 22 = .ok (.iconst 1, 1) := by decide +kernel
theorem dX12_isCell_23 : decode cX12_isCell 23 = .ok (.iaload, 1) := by decide +kernel
theorem dX12_isCell_24 : decode cX12_isCell 24 = .ok (.iconst 1, 1) := by decide +kernel
theorem dX12_isCell_25 : decode cX12_isCell 25 = .ok (.isub, 1) := by decide +kernel
theorem dX12_isCell_26 : decode cX12_isCell 26 = .ok (.invokestatic 75, 3) := by decide +kernel
theorem dX12_isCell_29 : decode cX12_isCell 29 = .ok (.ifCond .eq 7, 3) := by decide +kernel
theorem dX12_isCell_32 : decode cX12_isCell 32 = .ok (.iconst 1, 1) := by decide +kernel
theorem dX12_isCell_33 : decode cX12_isCell 33 = .ok (.goto 4, 3) := by decide +kernel
theorem dX12_isCell_36 : decode cX12_isCell 36 = .ok (.iconst 0, 1) := by decide +kernel
theorem dX12_isCell_37 : decode cX12_isCell 37 = .ok (.ireturn, 1) := by decide +kernel
theorem dX12_isDigit_0 : decode cX12_isDigit 0 = .ok (.iload_n 0, 1) := by decide +kernel
theorem dX12_isDigit_1 : decode cX12_isDigit 1 = .ok (.bipush 48, 2) := by decide +kernel
theorem dX12_isDigit_3 : decode cX12_isDigit 3 = .ok (.if_icmp .lt 13, 3) := by decide +kernel
theorem dX12_isDigit_6 : decode cX12_isDigit 6 = .ok (.iload_n 0, 1) := by decide +kernel
theorem dX12_isDigit_7 : decode cX12_isDigit 7 = .ok (.bipush 57, 2) := by decide +kernel
theorem dX12_isDigit_9 : decode cX12_isDigit 9 = .ok (.if_icmp .gt 7, 3) := by decide +kernel
theorem dX12_isDigit_12 : decode cX12_isDigit 12 = .ok (.iconst 1, 1) := by decide +kernel
theorem dX12_isDigit_13 : decode cX12_isDigit 13 = .ok (.goto 4, 3) := by decide +kernel
theorem dX12_isDigit_16 : decode cX12_isDigit 16 = .ok (.iconst 0, 1) := by decide +kernel
theorem dX12_isDigit_17 : decode cX12_isDigit 17 = .ok (.ireturn, 1) := by decide +kernel
theorem dX12_isFilled_0 : decode cX12_isFilled 0 = .ok (.aload_n 0, 1) := by decide +kernel
theorem dX12_isFilled_1 : decode cX12_isFilled 1 = .ok (.getfield 101, 3) := by decide +kernel
theorem dX12_isFilled_4 : decode cX12_isFilled 4 = .ok (.bipush 42, 2) := by decide +kernel
theorem dX12_isFilled_6 : decode cX12_isFilled 6 = .ok (.iload_n 1, 1) := by decide +kernel
theorem dX12_isFilled_7 : decode cX12_isFilled 7 = .ok (.iadd, 1) := by decide +kernel
theorem dX12_isFilled_8 : decode cX12_isFilled 8 = .ok (.iaload, 1) := by decide +kernel
theorem dX12_isFilled_9 : decode cX12_isFilled 9 = .ok (.ifCond .le 7, 3) := by decide +kernel
theorem dX12_isFilled_12 : decode cX12_isFilled 12 = .ok (.iconst 1, 1) := by decide +kernel
theorem dX12_isFilled_13 : decode cX12_isFilled 13 = .ok (.goto 4, 3) := by decide +kernel
theorem dX12_isFilled_16 : decode cX12_isFilled 16 = .ok (.iconst 0, 1) := by decide +kernel
theorem dX12_isFilled_17 : decode cX12_isFilled 17 = .ok (.istore_n 3, 1) := by decide +kernel
theorem dX12_isFilled_18 : decode cX12_isFilled 18 = .ok (.iconst 0, 1) := by decide +kernel
theorem dX12_isFilled_19 : decode cX12_isFilled 19 = .ok (.istore 4, 2) := by decide +kernel
theorem dX12_isFilled_21 : decode cX12_isFilled 21 = .ok (.iload 4, 2) := by decide +kernel
theorem dX12_isFilled_23 : decode cX12_isFilled 23 = .ok (.aload_n 0, 1) := by decide +kernel
theorem dX12_isFilled_24 : decode cX12_isFilled 24 = .ok (.getfield 101, 3) := by decide +kernel
theorem dX12_isFilled_27 : decode cX12_isFilled 27 = .ok (.iconst 2, 1) := by decide +kernel
theorem dX12_isFilled_28 : decode cX12_isFilled 28 = .ok (.iaload, 1) := by decide +kernel
theorem dX12_isFilled_29 : decode cX12_isFilled 29 = .ok (.if_icmp .ge 32, 3) := by decide +kernel
theorem dX12_isFilled_32 : decode cX12_isFilled 32 = .ok (.iload_n 3, 1) := by decide +kernel
theorem dX12_isFilled_33 : decode cX12_isFilled 33 = .ok (.ifCond .ne 16, 3) := by decide +kernel
theorem dX12_isFilled_36 : decode cX12_isFilled 36 = .ok (.aload_n 0, 1) := by decide +kernel
theorem dX12_isFilled_37 : decode cX12_isFilled 37 = .ok (.getfield 101, 3) := by decide +kernel
theorem dX12_isFilled_40 : decode cX12_isFilled 40 = .ok (.iconst 5, 1) := by decide +kernel
theorem dX12_isFilled_41 : decode cX12_isFilled 41 = .ok (.iload 4, 2) := by decide +kernel
theorem dX12_isFilled_43 : decode cX12_isFilled 43 = .ok (.iadd, 1) := by decide +kernel
theorem dX12_isFilled_44 : decode cX12_isFilled 44 = .ok (.iaload, 1) := by decide +kernel
theorem dX12_isFilled_45 : decode cX12_isFilled 45 = .ok (.iload_n 1, 1) := by decide +kernel
theorem dX12_isFilled_46 : decode cX12_isFilled 46 = .ok (.if_icmp .ne 7, 3) := by decide +kernel
theorem dX12_isFilled_49 : decode cX12_isFilled 49 = .ok (.iconst 1, 1) := by decide +kernel
theorem dX12_isFilled_50 : decode cX12_isFilled 50 = .ok (.goto 4, 3) := by decide +kernel
theorem dX12_isFilled_53 : decode cX12_isFilled 53 = .ok (.iconst 0, 1) := by decide +kernel
theorem dX12_isFilled_54 : decode cX12_isFilled 54 = .ok (.istore_n 3, 1) := by decide +kernel
theorem dX12_isFilled_55 : decode cX12_isFilled 55 = .ok (.iinc 4 1, 3) := by decide +kernel
theorem dX12_isFilled_58 : decode cX12_isFilled 58 = .ok (.goto (-37), 3) := by decide +kernel
theorem dX12_isFilled_61 : decode cX12_isFilled 61 = .ok (.iconst 0, 1) := by decide +kernel
theorem dX12_isFilled_62 : decode cX12_isFilled 62 = .ok (.istore 4, 2) := by decide +kernel
theorem dX12_isFilled_64 : decode cX12_isFilled 64 = .ok (.iload 4, 2) := by decide +kernel
theorem dX12_isFilled_66 : decode cX12_isFilled 66 = .ok (.aload_n 0, 1) := by decide +kernel
theorem dX12_isFilled_67 : decode cX12_isFilled 67 = .ok (.getfield 101, 3) := by decide +kernel
theorem dX12_isFilled_70 : decode cX12_isFilled 70 = .ok (.iconst 3, 1) := by decide +kernel
theorem dX12_isFilled_71 : decode cX12_isFilled 71 = .ok (.iaload, 1) := by decide +kernel
theorem dX12_isFilled_72 : decode cX12_isFilled 72 = .ok (.if_icmp .ge 37, 3) := by decide +kernel
theorem dX12_isFilled_75 : decode cX12_isFilled 75 = .ok (.iload_n 3, 1) := by decide +kernel
theorem dX12_isFilled_76 : decode cX12_isFilled 76 = .ok (.ifCond .ne 21, 3) := by decide +kernel
theorem dX12_isFilled_79 : decode cX12_isFilled 79 = .ok (.iload_n 2, 1) := by decide +kernel
theorem dX12_isFilled_80 : decode cX12_isFilled 80 = .ok (.ifCond .ne 21, 3) := by decide +kernel
theorem dX12_isFilled_83 : decode cX12_isFilled 83 = .ok (.aload_n 0, 1) := by decide +kernel
theorem dX12_isFilled_84 : decode cX12_isFilled 84 = .ok (.getfield 101, 3) := by decide +kernel
theorem dX12_isFilled_87 : decode cX12_isFilled 87 = .ok (.bipush 20, 2) := by decide +kernel
theorem dX12_isFilled_89 : decode cX12_isFilled 89 = .ok (.iload 4, 2) := by decide +kernel
theorem dX12_isFilled_91 : decode cX12_isFilled 91 = .ok (.iadd, 1) := by decide +kernel
theorem dX12_isFilled_92 : decode cX12_isFilled 92 = .ok (.iaload, 1) := by decide +kernel
theorem dX12_isFilled_93 : decode cX12_isFilled 93 = .ok (.iload_n 1, 1) := by decide +kernel
theorem dX12_isFilled_94 : decode cX12_isFilled 94 = .ok (.if_icmp .ne 7, 3) := by decide +kernel
theorem dX12_isFilled_97 : decode cX12_isFilled 97 = .ok (.iconst 1, 1) := by decide +kernel
theorem dX12_isFilled_98 : decode cX12_isFilled 98 = .ok (.goto 4, 3) := by decide +kernel
theorem dX12_isFilled_101 : decode cX12_isFilled 101 = .ok (.iconst 0, 1) := by decide +kernel
theorem dX12_isFilled_102 : decode cX12_isFilled 102 = .ok (.istore_n 3, 1) := by decide +kernel
theorem dX12_isFilled_103 : decode cX12_isFilled 103 = .ok (.iinc 4 1, 3) := by decide +kernel
theorem dX12_isFilled_106 : decode cX12_isFilled 106 = .ok (.goto (-42), 3) := by decide +kernel
theorem dX12_isFilled_109 : decode cX12_isFilled 109 = .ok (.iload_n 3, 1) := by decide +kernel
theorem dX12_isFilled_110 : decode cX12_isFilled 110 = .ok (.ireturn, 1) := by decide +kernel
theorem dX12_isHouse_0 : decode cX12_isHouse 0 = .ok (.iload_n 1, 1) := by decide +kernel
theorem dX12_isHouse_1 : decode cX12_isHouse 1 = .ok (.iconst 0, 1) := by decide +kernel
theorem dX12_isHouse_2 : decode cX12_isHouse 2 = .ok (.aload_n 0, 1) := by decide +kernel
theorem dX12_isHouse_3 : decode cX12_isHouse 3 = .ok (.getfield 98, 3) := by decide +kernel
theorem dX12_isHouse_6 : decode cX12_isHouse 6 = .ok (.iconst 2, 1) := by decide +kernel
theorem dX12_isHouse_7 : decode cX12_isHouse 7 = .ok (.iaload, 1) := by decide +kernel
theorem dX12_isHouse_8 : decode cX12_isHouse 8 = .ok (.iconst 1, 1) := by decide +kernel
theorem dX12_isHouse_9 : decode cX12_isHouse 9 = .ok (.isub, 1) := by decide +kernel
theorem dX12_isHouse_10 : decode cX12_isHouse 10 = .ok (.invokestatic 75, 3) := by decide +kernel
theorem dX12_isHouse_13 : decode cX12_isHouse 13 = .ok (.ireturn, 1) := by decide +kernel
theorem dX12_isIn_0 : decode cX12_isIn 0 = .ok (.iload_n 0, 1) := by decide +kernel
theorem dX12_isIn_1 : decode cX12_isIn 1 = .ok (.iload_n 1, 1) := by decide +kernel
theorem dX12_isIn_2 : decode cX12_isIn 2 = .ok (.if_icmp .lt 12, 3) := by decide +kernel
theorem dX12_isIn_5 : decode cX12_isIn 5 = .ok (.iload_n 0, 1) := by decide +kernel
theorem dX12_isIn_6 : decode cX12_isIn 6 = .ok (.iload_n 2, 1) := by decide +kernel
theorem dX12_isIn_7 : decode cX12_isIn 7 = .ok (.if_icmp .gt 7, 3) := by decide +kernel
theorem dX12_isIn_10 : decode cX12_isIn 10 = .ok (.iconst 1, 1) := by decide +kernel
theorem dX12_isIn_11 : decode cX12_isIn 11 = .ok (.goto 4, 3) := by decide +kernel
theorem dX12_isIn_14 : decode cX12_isIn 14 = .ok (.iconst 0, 1) := by decide +kernel
theorem dX12_isIn_15 : decode cX12_isIn 15 = .ok (.ireturn, 1) := by decide +kernel
theorem dX12_isLetter_0 : decode cX12_isLetter 0 = .ok (.iload_n 0, 1) := by decide +kernel
theorem dX12_isLetter_1 : decode cX12_isLetter 1 = .ok (.bipush 97, 2) := by decide +kernel
theorem dX12_isLetter_3 : decode cX12_isLetter 3 = .ok (.if_icmp .lt 13, 3) := by decide +kernel
theorem dX12_isLetter_6 : decode cX12_isLetter 6 = .ok (.iload_n 0, 1) := by decide +kernel
theorem dX12_isLetter_7 : decode cX12_isLetter 7 = .ok (.bipush 122, 2) := by decide +kernel
theorem dX12_isLetter_9 : decode cX12_isLetter 9 = .ok (.if_icmp .gt 7, 3) := by decide +kernel
theorem dX12_isLetter_12 : decode cX12_isLetter 12 = .ok (.iconst 1, 1) := by decide +kernel
theorem dX12_isLetter_13 : decode cX12_isLetter 13 = .ok (.goto 4, 3) := by decide +kernel
theorem dX12_isLetter_16 : decode cX12_isLetter 16 = .ok (.iconst 0, 1) := by decide +kernel
theorem dX12_isLetter_17 : decode cX12_isLetter 17 = .ok (.ireturn, 1) := by decide +kernel
theorem dX12_isName_0 : decode cX12_isName 0 = .ok (.aload_n 0, 1) := by decide +kernel
theorem dX12_isName_1 : decode cX12_isName 1 = .ok (.getfield 30, 3) := by decide +kernel
theorem dX12_isName_4 : decode cX12_isName 4 = .ok (.iconst 2, 1) := by decide +kernel
theorem dX12_isName_5 : decode cX12_isName 5 = .ok (.if_icmp .eq 5, 3) := by decide +kernel
theorem dX12_isName_8 : decode cX12_isName 8 = .ok (.iconst 0, 1) := by decide +kernel
theorem dX12_isName_9 : decode cX12_isName 9 = .ok (.ireturn, 1) := by decide +kernel
theorem dX12_isName_10 : decode cX12_isName 10 = .ok (.iconst 0, 1) := by decide +kernel
theorem dX12_isName_11 : decode cX12_isName 11 = .ok (.istore_n 1, 1) := by decide +kernel
theorem dX12_isName_12 : decode cX12_isName 12 = .ok (.iload_n 1, 1) := by decide +kernel
theorem dX12_isName_13 : decode cX12_isName 13 = .ok (.bipush 23, 2) := by decide +kernel
theorem dX12_isName_15 : decode cX12_isName 15 = .ok (.if_icmp .gt 23, 3) := by decide +kernel
theorem dX12_isName_18 : decode cX12_isName 18 = .ok (.aload_n 0, 1) := by decide +kernel
theorem dX12_isName_19 : decode cX12_isName 19 = .ok (.getfield 43, 3) := by decide +kernel
theorem dX12_isName_22 : decode cX12_isName 22 = .ok (.iload_n 1, 1) := by decide +kernel
theorem dX12_isName_23 : decode cX12_isName 23 = .ok (.invokestatic 62, 3) := by decide +kernel
theorem dX12_isName_26 : decode cX12_isName 26 = .ok (.lcmp, 1) := by decide +kernel
theorem dX12_isName_27 : decode cX12_isName 27 = .ok (.ifCond .ne 5, 3) := by decide +kernel
theorem dX12_isName_30 : decode cX12_isName 30 = .ok (.iconst 0, 1) := by decide +kernel
theorem dX12_isName_31 : decode cX12_isName 31 = .ok (.ireturn, 1) := by decide +kernel
theorem dX12_isName_32 : decode cX12_isName 32 = .ok (.iinc 1 1, 3) := by decide +kernel
theorem dX12_isName_35 : decode cX12_isName 35 = .ok (.goto (-23), 3) := by decide +kernel
theorem dX12_isName_38 : decode cX12_isName 38 = .ok (.iconst 1, 1) := by decide +kernel
theorem dX12_isName_39 : decode cX12_isName 39 = .ok (.ireturn, 1) := by decide +kernel
theorem dX12_isOpen_0 : decode cX12_isOpen 0 = .ok (.aload_n 0, 1) := by decide +kernel
theorem dX12_isOpen_1 : decode cX12_isOpen 1 = .ok (.iload_n 1, 1) := by decide +kernel
theorem dX12_isOpen_2 : decode cX12_isOpen 2 = .ok (.invokevirtual 241, 3) := by decide +kernel
theorem dX12_isOpen_5 : decode cX12_isOpen 5 = .ok (.ifCond .ne 7, 3) := by decide +kernel
theorem dX12_isOpen_8 : decode cX12_isOpen 8 = .ok (.iconst 1, 1) := by decide +kernel
theorem dX12_isOpen_9 : decode cX12_isOpen 9 = .ok (.goto 4, 3) := by decide +kernel
theorem dX12_isOpen_12 : decode cX12_isOpen 12 = .ok (.iconst 0, 1) := by decide +kernel
theorem dX12_isOpen_13 : decode cX12_isOpen 13 = .ok (.ireturn, 1) := by decide +kernel
theorem dX12_isPerson_0 : decode cX12_isPerson 0 = .ok (.iload_n 1, 1) := by decide +kernel
theorem dX12_isPerson_1 : decode cX12_isPerson 1 = .ok (.iconst 0, 1) := by decide +kernel
theorem dX12_isPerson_2 : decode cX12_isPerson 2 = .ok (.aload_n 0, 1) := by decide +kernel
theorem dX12_isPerson_3 : decode cX12_isPerson 3 = .ok (.getfield 98, 3) := by decide +kernel
theorem dX12_isPerson_6 : decode cX12_isPerson 6 = .ok (.iconst 3, 1) := by decide +kernel
theorem dX12_isPerson_7 : decode cX12_isPerson 7 = .ok (.iaload, 1) := by decide +kernel
theorem dX12_isPerson_8 : decode cX12_isPerson 8 = .ok (.iconst 1, 1) := by decide +kernel
theorem dX12_isPerson_9 : decode cX12_isPerson 9 = .ok (.isub, 1) := by decide +kernel
theorem dX12_isPerson_10 : decode cX12_isPerson 10 = .ok (.invokestatic 75, 3) := by decide +kernel
theorem dX12_isPerson_13 : decode cX12_isPerson 13 = .ok (.ireturn, 1) := by decide +kernel
theorem dX12_isSign_0 : decode cX12_isSign 0 = .ok (.aload_n 0, 1) := by decide +kernel
theorem dX12_isSign_1 : decode cX12_isSign 1 = .ok (.getfield 30, 3) := by decide +kernel
theorem dX12_isSign_4 : decode cX12_isSign 4 = .ok (.iconst 4, 1) := by decide +kernel
theorem dX12_isSign_5 : decode cX12_isSign 5 = .ok (.if_icmp .ne 15, 3) := by decide +kernel
theorem dX12_isSign_8 : decode cX12_isSign 8 = .ok (.aload_n 0, 1) := by decide +kernel
theorem dX12_isSign_9 : decode cX12_isSign 9 = .ok (.getfield 40, 3) := by decide +kernel
theorem dX12_isSign_12 : decode cX12_isSign 12 = .ok (.iload_n 1, 1) := by decide +kernel
theorem dX12_isSign_13 : decode cX12_isSign 13 = .ok (.if_icmp .ne 7, 3) := by decide +kernel
theorem dX12_isSign_16 : decode cX12_isSign 16 = .ok (.iconst 1, 1) := by decide +kernel
theorem dX12_isSign_17 : decode cX12_isSign 17 = .ok (.goto 4, 3) := by decide +kernel
theorem dX12_isSign_20 : decode cX12_isSign 20 = .ok (.iconst 0, 1) := by decide +kernel
theorem dX12_isSign_21 : decode cX12_isSign 21 = .ok (.ireturn, 1) := by decide +kernel
theorem dX12_isSun_0 : decode cX12_isSun 0 = .ok (.iload_n 1, 1) := by decide +kernel
theorem dX12_isSun_1 : decode cX12_isSun 1 = .ok (.iconst 0, 1) := by decide +kernel
theorem dX12_isSun_2 : decode cX12_isSun 2 = .ok (.aload_n 0, 1) := by decide +kernel
theorem dX12_isSun_3 : decode cX12_isSun 3 = .ok (.getfield 98, 3) := by decide +kernel
theorem dX12_isSun_6 : decode cX12_isSun 6 = .ok (.iconst 4, 1) := by decide +kernel
theorem dX12_isSun_7 : decode cX12_isSun 7 = .ok (.iaload, 1) := by decide +kernel
theorem dX12_isSun_8 : decode cX12_isSun 8 = .ok (.iconst 1, 1) := by decide +kernel
theorem dX12_isSun_9 : decode cX12_isSun 9 = .ok (.isub, 1) := by decide +kernel
theorem dX12_isSun_10 : decode cX12_isSun 10 = .ok (.invokestatic 75, 3) := by decide +kernel
theorem dX12_isSun_13 : decode cX12_isSun 13 = .ok (.ireturn, 1) := by decide +kernel
theorem dX12_isWord_0 : decode cX12_isWord 0 = .ok (.aload_n 0, 1) := by decide +kernel
theorem dX12_isWord_1 : decode cX12_isWord 1 = .ok (.getfield 30, 3) := by decide +kernel
theorem dX12_isWord_4 : decode cX12_isWord 4 = .ok (.iconst 2, 1) := by decide +kernel
theorem dX12_isWord_5 : decode cX12_isWord 5 = .ok (.if_icmp .ne 19, 3) := by decide +kernel
theorem dX12_isWord_8 : decode cX12_isWord 8 = .ok (.aload_n 0, 1) := by decide +kernel
theorem dX12_isWord_9 : decode cX12_isWord 9 = .ok (.getfield 43, 3) := by decide +kernel
theorem dX12_isWord_12 : decode cX12_isWord 12 = .ok (.iload_n 1, 1) := by decide +kernel
theorem dX12_isWord_13 : decode cX12_isWord 13 = .ok (.invokestatic 62, 3) := by decide +kernel
theorem dX12_isWord_16 : decode cX12_isWord 16 = .ok (.lcmp, 1) := by decide +kernel
theorem dX12_isWord_17 : decode cX12_isWord 17 = .ok (.ifCond .ne 7, 3) := by decide +kernel
theorem dX12_isWord_20 : decode cX12_isWord 20 = .ok (.iconst 1, 1) := by decide +kernel
theorem dX12_isWord_21 : decode cX12_isWord 21 = .ok (.goto 4, 3) := by decide +kernel
theorem dX12_isWord_24 : decode cX12_isWord 24 = .ok (.iconst 0, 1) := by decide +kernel
theorem dX12_isWord_25 : decode cX12_isWord 25 = .ok (.ireturn, 1) := by decide +kernel
theorem dX12_island_0 : decode cX12_island 0 = .ok (.aload_n 0, 1) := by decide +kernel
theorem dX12_island_1 : decode cX12_island 1 = .ok (.sipush 900, 3) := by decide +kernel
theorem dX12_island_4 : decode cX12_island 4 = .ok (.invokevirtual 223, 3) := by decide +kernel
theorem dX12_island_7 : decode cX12_island 7 = .ok (.iconst 0, 1) := by decide +kernel
theorem dX12_island_8 : decode cX12_island 8 = .ok (.istore_n 1, 1) := by decide +kernel
theorem dX12_island_9 : decode cX12_island 9 = .ok (.iload_n 1, 1) := by decide +kernel
theorem dX12_island_10 : decode cX12_island 10 = .ok (.bipush 106, 2) := by decide +kernel
theorem dX12_island_12 : decode cX12_island 12 = .ok (.if_icmp .ge 16, 3) := by decide +kernel
theorem dX12_island_15 : decode cX12_island 15 = .ok (.aload_n 0, 1) := by decide +kernel
theorem dX12_island_16 : decode cX12_island 16 = .ok (.getfield 101, 3) := by decide +kernel
theorem dX12_island_19 : decode cX12_island 19 = .ok (.iload_n 1, 1) := by decide +kernel
theorem dX12_island_20 : decode cX12_island 20 = .ok (.iconst 0, 1) := by decide +kernel
theorem dX12_island_21 : decode cX12_island 21 = .ok (.iastore, 1) := by decide +kernel
theorem dX12_island_22 : decode cX12_island 22 = .ok (.iinc 1 1, 3) := by decide +kernel
theorem dX12_island_25 : decode cX12_island 25 = .ok (.goto (-16), 3) := by decide +kernel
theorem dX12_island_28 : decode cX12_island 28 = .ok (.aload_n 0, 1) := by decide +kernel
theorem dX12_island_29 : decode cX12_island 29 = .ok (.iconst 0, 1) := by decide +kernel
theorem dX12_island_30 : decode cX12_island 30 = .ok (.putfield 177, 3) := by decide +kernel
theorem dX12_island_33 : decode cX12_island 33 = .ok (.aload_n 0, 1) := by decide +kernel
theorem dX12_island_34 : decode cX12_island 34 = .ok (.iconst 0, 1) := by decide +kernel
theorem dX12_island_35 : decode cX12_island 35 = .ok (.putfield 181, 3) := by decide +kernel
theorem dX12_island_38 : decode cX12_island 38 = .ok (.aload_n 0, 1) := by decide +kernel
theorem dX12_island_39 : decode cX12_island 39 = .ok (.getfield 101, 3) := by decide +kernel
theorem dX12_island_42 : decode cX12_island 42 = .ok (.iconst 0, 1) := by decide +kernel
theorem dX12_island_43 : decode cX12_island 43 = .ok (.iconst 5, 1) := by decide +kernel
theorem dX12_island_44 : decode cX12_island 44 = .ok (.iastore, 1) := by decide +kernel
theorem dX12_island_45 : decode cX12_island 45 = .ok (.aload_n 0, 1) := by decide +kernel
theorem dX12_island_46 : decode cX12_island 46 = .ok (.getfield 101, 3) := by decide +kernel
theorem dX12_island_49 : decode cX12_island 49 = .ok (.iconst 1, 1) := by decide +kernel
theorem dX12_island_50 : decode cX12_island 50 = .ok (.iconst 5, 1) := by decide +kernel
theorem dX12_island_51 : decode cX12_island 51 = .ok (.iastore, 1) := by decide +kernel
theorem dX12_island_52 : decode cX12_island 52 = .ok (.iconst 0, 1) := by decide +kernel
theorem dX12_island_53 : decode cX12_island 53 = .ok (.istore_n 1, 1) := by decide +kernel
theorem dX12_island_54 : decode cX12_island 54 = .ok (.aload_n 0, 1) := by decide +kernel
theorem dX12_island_55 : decode cX12_island 55 = .ok (.getfield 30, 3) := by decide +kernel
theorem dX12_island_58 : decode cX12_island 58 = .ok (.ifCond .eq 30, 3) := by decide +kernel
theorem dX12_island_61 : decode cX12_island 61 = .ok (.aload_n 0, 1) := by decide +kernel
theorem dX12_island_62 : decode cX12_island 62 = .ok (.invokevirtual 226, 3) := by decide +kernel
theorem dX12_island_65 : decode cX12_island 65 = .ok (.ifCond .eq 10, 3) := by decide +kernel
theorem dX12_island_68 : decode cX12_island 68 = .ok (.aload_n 0, 1) := by decide +kernel
theorem dX12_island_69 : decode cX12_island 69 = .ok (.invokevirtual 229, 3) := by decide +kernel
theorem dX12_island_72 : decode cX12_island 72 = .ok (.ifCond .ne 10, 3) := by decide +kernel
theorem dX12_island_75 : decode cX12_island 75 = .ok (.iconst (-1), 1) := by decide +kernel
theorem dX12_island_76 : decode cX12_island 76 = .ok (.aload_n 0, 1) := by decide +kernel
theorem dX12_island_77 : decode cX12_island 77 = .ok (.getfield 69, 3) := by decide +kernel
theorem dX12_island_80 : decode cX12_island 80 = .ok (.isub, 1) := by decide +kernel
theorem dX12_island_81 : decode cX12_island 81 = .ok (.ireturn, 1) := by decide +kernel
theorem dX12_island_82 : decode cX12_island 82 = .ok (.iinc 1 1, 3) := by decide +kernel
theorem dX12_island_85 : decode cX12_island 85 = .ok (.goto (-31), 3) := by decide +kernel
theorem dX12_island_88 : decode cX12_island 88 = .ok (.iconst 0, 1) := by decide +kernel
theorem dX12_island_89 : decode cX12_island 89 = .ok (.istore_n 2, 1) := by decide +kernel
theorem dX12_island_90 : decode cX12_island 90 = .ok (.iload_n 2, 1) := by decide +kernel
theorem dX12_island_91 : decode cX12_island 91 = .ok (.bipush 106, 2) := by decide +kernel
theorem dX12_island_93 : decode cX12_island 93 = .ok (.if_icmp .ge 21, 3) := by decide +kernel
theorem dX12_island_96 : decode cX12_island 96 = .ok (.aload_n 0, 1) := by decide +kernel
theorem dX12_island_97 : decode cX12_island 97 = .ok (.getfield 98, 3) := by decide +kernel
theorem dX12_island_100 : decode cX12_island 100 = .ok (.iload_n 2, 1) := by decide +kernel
theorem dX12_island_101 : decode cX12_island 101 = .ok (.aload_n 0, 1) := by decide +kernel
theorem dX12_island_102 : decode cX12_island 102 = .ok (.getfield 101, 3) := by decide +kernel
theorem dX12_island_105 : decode cX12_island 105 = .ok (.iload_n 2, 1) := by decide +kernel
theorem dX12_island_106 : decode cX12_island 106 = .ok (.iaload, 1) := by decide +kernel
theorem dX12_island_107 : decode cX12_island 107 = .ok (.iastore, 1) := by decide +kernel
theorem dX12_island_108 : decode cX12_island 108 = .ok (.iinc 2 1, 3) := by decide +kernel
theorem dX12_island_111 : decode cX12_island 111 = .ok (.goto (-21), 3) := by decide +kernel
theorem dX12_island_114 : decode cX12_island 114 = .ok (.iconst 0, 1) := by decide +kernel
theorem dX12_island_115 : decode cX12_island 115 = .ok (.istore_n 2, 1) := by decide +kernel
theorem dX12_island_116 : decode cX12_island 116 = .ok (.iload_n 2, 1) := by decide +kernel
theorem dX12_island_117 : decode cX12_island 117 = .ok (.bipush 11, 2) := by decide +kernel
theorem dX12_island_119 : decode cX12_island 119 = .ok (.if_icmp .ge 21, 3) := by decide +kernel
theorem dX12_island_122 : decode cX12_island 122 = .ok (.aload_n 0, 1) := by decide +kernel
theorem dX12_island_123 : decode cX12_island 123 = .ok (.getfield 113, 3) := by decide +kernel
theorem dX12_island_126 : decode cX12_island 126 = .ok (.iload_n 2, 1) := by decide +kernel
theorem dX12_island_127 : decode cX12_island 127 = .ok (.aload_n 0, 1) := by decide +kernel
theorem dX12_island_128 : decode cX12_island 128 = .ok (.getfield 117, 3) := by decide +kernel
theorem dX12_island_131 : decode cX12_island 131 = .ok (.iload_n 2, 1) := by decide +kernel
theorem dX12_island_132 : decode cX12_island 132 = .ok (.laload, 1) := by decide +kernel
theorem dX12_island_133 : decode cX12_island 133 = .ok (.lastore, 1) := by decide +kernel
theorem dX12_island_134 : decode cX12_island 134 = .ok (.iinc 2 1, 3) := by decide +kernel
theorem dX12_island_137 : decode cX12_island 137 = .ok (.goto (-21), 3) := by decide +kernel
theorem dX12_island_140 : decode cX12_island 140 = .ok (.aload_n 0, 1) := by decide +kernel
theorem dX12_island_141 : decode cX12_island 141 = .ok (.invokevirtual 163, 3) := by decide +kernel
theorem dX12_island_144 : decode cX12_island 144 = .ok (.aload_n 0, 1) := by decide +kernel
theorem dX12_island_145 : decode cX12_island 145 = .ok (.iconst 0, 1) := by decide +kernel
theorem dX12_island_146 : decode cX12_island 146 = .ok (.putfield 232, 3) := by decide +kernel
theorem dX12_island_149 : decode cX12_island 149 = .ok (.iload_n 1, 1) := by decide +kernel
theorem dX12_island_150 : decode cX12_island 150 = .ok (.ireturn, 1) := by decide +kernel
theorem dX12_keep_0 : decode cX12_keep 0 = .ok (.iload_n 2, 1) := by decide +kernel
theorem dX12_keep_1 : decode cX12_keep 1 = .ok (.ifCond .eq 13, 3) := by decide +kernel
theorem dX12_keep_4 : decode cX12_keep 4 = .ok (.aload_n 0, 1) := by decide +kernel
theorem dX12_keep_5 : decode cX12_keep 5 = .ok (.getfield 154, 3) := by decide +kernel
theorem dX12_keep_8 : decode cX12_keep 8 = .ok (.iload_n 1, 1) := by decide +kernel
theorem dX12_keep_9 : decode cX12_keep 9 = .ok (.aload_n 0, 1) := by decide +kernel
theorem dX12_keep_10 : decode cX12_keep 10 = .ok (.getfield 79, 3) := by decide +kernel
theorem dX12_keep_13 : decode cX12_keep 13 = .ok (.iastore, 1) := by decide +kernel
theorem dX12_keep_14 : decode cX12_keep 14 = .ok (.iload_n 2, 1) := by decide +kernel
theorem dX12_keep_15 : decode cX12_keep 15 = .ok (.ireturn, 1) := by decide +kernel
theorem dX12_lay_0 : decode cX12_lay 0 = .ok (.aload_n 0, 1) := by decide +kernel
theorem dX12_lay_1 : decode cX12_lay 1 = .ok (.iconst 0, 1) := by decide +kernel
theorem dX12_lay_2 : decode cX12_lay 2 = .ok (.putfield 1, 3) := by decide +kernel
theorem dX12_lay_5 : decode cX12_lay 5 = .ok (.aload_n 0, 1) := by decide +kernel
theorem dX12_lay_6 : decode cX12_lay 6 = .ok (.iconst 1, 1) := by decide +kernel
theorem dX12_lay_7 : decode cX12_lay 7 = .ok (.bipush 8, 2) := by decide +kernel
theorem dX12_lay_9 : decode cX12_lay 9 = .ok (.iload_n 2, 1) := by decide +kernel
theorem dX12_lay_10 : decode cX12_lay 10 = .ok (.imul, 1) := by decide +kernel
theorem dX12_lay_11 : decode cX12_lay 11 = .ok (.iload_n 1, 1) := by decide +kernel
theorem dX12_lay_12 : decode cX12_lay 12 = .ok (.iadd, 1) := by decide +kernel
theorem dX12_lay_13 : decode cX12_lay 13 = .ok (.iconst 0, 1) := by decide +kernel
theorem dX12_lay_14 : decode cX12_lay 14 = .ok (.aload_n 0, 1) := by decide +kernel
theorem dX12_lay_15 : decode cX12_lay 15 = .ok (.iload_n 1, 1) := by decide +kernel
theorem dX12_lay_16 : decode cX12_lay 16 = .ok (.iload_n 2, 1) := by decide +kernel
theorem dX12_lay_17 : decode cX12_lay 17 = .ok (.invokevirtual 244, 3) := by decide +kernel
theorem dX12_lay_20 : decode cX12_lay 20 = .ok (.invokevirtual 312, 3) := by decide +kernel
theorem dX12_lay_23 : decode cX12_lay 23 = .ok (.ireturn, 1) := by decide +kernel
theorem dX12_layAside_0 : decode cX12_layAside 0 = .ok (.iconst 0, 1) := by decide +kernel
theorem dX12_layAside_1 : decode cX12_layAside 1 = .ok (.istore_n 1, 1) := by decide +kernel
theorem dX12_layAside_2 : decode cX12_layAside 2 = .ok (.iload_n 1, 1) := by decide +kernel
theorem dX12_layAside_3 : decode cX12_layAside 3 = .ok (.bipush 86, 2) := by decide +kernel
theorem dX12_layAside_5 : decode cX12_layAside 5 = .ok (.if_icmp .ge 24, 3) := by decide +kernel
theorem dX12_layAside_8 : decode cX12_layAside 8 = .ok (.aload_n 0, 1) := by decide +kernel
theorem dX12_layAside_9 : decode cX12_layAside 9 = .ok (.getfield 110, 3) := by decide +kernel
theorem dX12_layAside_12 : decode cX12_layAside 12 = .ok (.iload_n 1, 1) := by decide +kernel
theorem dX12_layAside_13 : decode cX12_layAside 13 = .ok (.aload_n 0, 1) := by decide +kernel
theorem dX12_layAside_14 : decode cX12_layAside 14 = .ok (.getfield 98, 3) := by decide +kernel
theorem dX12_layAside_17 : decode cX12_layAside 17 = .ok (.bipush 106, 2) := by decide +kernel
theorem dX12_layAside_19 : decode cX12_layAside 19 = .ok (.iload_n 1, 1) := by decide +kernel
theorem dX12_layAside_20 : decode cX12_layAside 20 = .ok (.iadd, 1) := by decide +kernel
theorem dX12_layAside_21 : decode cX12_layAside 21 = .ok (.iaload, 1) := by decide +kernel
theorem dX12_layAside_22 : decode cX12_layAside 22 = .ok (.iastore, 1) := by decide +kernel
theorem dX12_layAside_23 : decode cX12_layAside 23 = .ok (.iinc 1 1, 3) := by decide +kernel
theorem dX12_layAside_26 : decode cX12_layAside 26 = .ok (.goto (-24), 3) := by decide +kernel
theorem dX12_layAside_29 : decode cX12_layAside 29 = .ok (.return_, 1) := by decide +kernel
theorem dX12_layFar_0 : decode cX12_layFar 0 = .ok (.iconst 0, 1) := by decide +kernel
theorem dX12_layFar_1 : decode cX12_layFar 1 = .ok (.istore_n 2, 1) := by decide +kernel
theorem dX12_layFar_2 : decode cX12_layFar 2 = .ok (.iload_n 2, 1) := by decide +kernel
theorem dX12_layFar_3 : decode cX12_layFar 3 = .ok (.bipush 64, 2) := by decide +kernel
theorem dX12_layFar_5 : decode cX12_layFar 5 = .ok (.if_icmp .ge 18, 3) := by decide +kernel
theorem dX12_layFar_8 : decode cX12_layFar 8 = .ok (.aload_n 0, 1) := by decide +kernel
theorem dX12_layFar_9 : decode cX12_layFar 9 = .ok (.getfield 130, 3) := by decide +kernel
theorem dX12_layFar_12 : decode cX12_layFar 12 = .ok (.iload_n 2, 1) := by decide +kernel
theorem dX12_layFar_13 : decode cX12_layFar 13 = .ok (.ldc_w 325, 3) := by decide +kernel
theorem dX12_layFar_16 : decode cX12_layFar 16 = .ok (.iastore, 1) := by decide +kernel
theorem dX12_layFar_17 : decode cX12_layFar 17 = .ok (.iinc 2 1, 3) := by decide +kernel
theorem dX12_layFar_20 : decode cX12_layFar 20 = .ok (.goto (-18), 3) := by decide +kernel
theorem dX12_layFar_23 : decode cX12_layFar 23 = .ok (.aload_n 0, 1) := by decide +kernel
theorem dX12_layFar_24 : decode cX12_layFar 24 = .ok (.getfield 130, 3) := by decide +kernel
theorem dX12_layFar_27 : decode cX12_layFar 27 = .ok (.iload_n 1, 1) := by decide +kernel
theorem dX12_layFar_28 : decode cX12_layFar 28 = .ok (.iconst 0, 1) := by decide +kernel
theorem dX12_layFar_29 : decode cX12_layFar 29 = .ok (.iastore, 1) := by decide +kernel
theorem dX12_layFar_30 : decode cX12_layFar 30 = .ok (.aload_n 0, 1) := by decide +kernel
theorem dX12_layFar_31 : decode cX12_layFar 31 = .ok (.getfield 133, 3) := by decide +kernel
theorem dX12_layFar_34 : decode cX12_layFar 34 = .ok (.iconst 0, 1) := by decide +kernel
theorem dX12_layFar_35 : decode cX12_layFar 35 = .ok (.iload_n 1, 1) := by decide +kernel
theorem dX12_layFar_36 : decode cX12_layFar 36 = .ok (.iastore, 1) := by decide +kernel
theorem dX12_layFar_37 : decode cX12_layFar 37 = .ok (.iconst 1, 1) := by decide +kernel
theorem dX12_layFar_38 : decode cX12_layFar 38 = .ok (.istore_n 2, 1) := by decide +kernel
theorem dX12_layFar_39 : decode cX12_layFar 39 = .ok (.iconst 0, 1) := by decide +kernel
theorem dX12_layFar_40 : decode cX12_layFar 40 = .ok (.istore_n 3, 1) := by decide +kernel
theorem dX12_layFar_41 : decode cX12_layFar 41 = .ok (.iload_n 3, 1) := by decide +kernel
theorem dX12_layFar_42 : decode cX12_layFar 42 = .ok (.iload_n 2, 1) := by decide +kernel
theorem dX12_layFar_43 : decode cX12_layFar 43 = .ok (.if_icmp .ge 100, 3) := by decide +kernel
theorem dX12_layFar_46 : decode cX12_layFar 46 = .ok (.iconst 0, 1) := by decide +kernel
theorem dX12_layFar_47 : decode cX12_layFar 47 = .ok (.istore 4, 2) := by decide +kernel
theorem dX12_layFar_49 : decode cX12_layFar 49 = .ok (.iload 4, 2) := by decide +kernel
theorem dX12_layFar_51 : decode cX12_layFar 51 = .ok (.iconst 4, 1) := by decide +kernel
theorem dX12_layFar_52 : decode cX12_layFar 52 = .ok (.if_icmp .ge 85, 3) := by decide +kernel
theorem dX12_layFar_55 : decode cX12_layFar 55 = .ok (.aload_n 0, 1) := by decide +kernel
theorem dX12_layFar_56 : decode cX12_layFar 56 = .ok (.aload_n 0, 1) := by decide +kernel
theorem dX12_layFar_57 : decode cX12_layFar 57 = .ok (.getfield 133, 3) := by decide +kernel
theorem dX12_layFar_60 : decode cX12_layFar 60 = .ok (.iload_n 3, 1) := by decide +kernel
theorem dX12_layFar_61 : decode cX12_layFar 61 = .ok (.iaload, 1) := by decide +kernel
theorem dX12_layFar_62 : decode cX12_layFar 62 = .ok (.iload 4, 2) := by decide +kernel
theorem dX12_layFar_64 : decode cX12_layFar 64 = .ok (.invokevirtual 247, 3) := by decide +kernel
theorem dX12_layFar_67 : decode cX12_layFar 67 = .ok (.istore 5, 2) := by decide +kernel
theorem dX12_layFar_69 : decode cX12_layFar 69 = .ok (.iload 5, 2) := by decide +kernel
theorem dX12_layFar_71 : decode cX12_layFar 71 = .ok (.iconst (-1), 1) := by decide +kernel
theorem dX12_layFar_72 : decode cX12_layFar 72 = .ok (.if_icmp .eq 59, 3) := by decide +kernel
theorem dX12_layFar_75 : decode cX12_layFar 75 = .ok (.aload_n 0, 1) := by decide +kernel
theorem dX12_layFar_76 : decode cX12_layFar 76 = .ok (.iload 5, 2) := by decide +kernel
theorem dX12_layFar_78 : decode cX12_layFar 78 = .ok (.invokevirtual 289, 3) := by decide +kernel
theorem dX12_layFar_81 : decode cX12_layFar 81 = .ok (.ifCond .eq 50, 3) := by decide +kernel
theorem dX12_layFar_84 : decode cX12_layFar 84 = .ok (.aload_n 0, 1) := by decide +kernel
theorem dX12_layFar_85 : decode cX12_layFar 85 = .ok (.getfield 130, 3) := by decide +kernel
theorem dX12_layFar_88 : decode cX12_layFar 88 = .ok (.iload 5, 2) := by decide +kernel
theorem dX12_layFar_90 : decode cX12_layFar 90 = .ok (.iaload, 1) := by decide +kernel
theorem dX12_layFar_91 : decode cX12_layFar 91 = .ok (.ldc_w 325, 3) := by decide +kernel
theorem dX12_layFar_94 : decode cX12_layFar 94 = .ok (.if_icmp .ge 6, 3) := by decide +kernel
theorem dX12_layFar_97 : decode cX12_layFar 97 = .ok (.goto 34, 3) := by decide +kernel
theorem dX12_layFar_100 : decode cX12_layFar 100 = .ok (.aload_n 0, 1) := by decide +kernel
theorem dX12_layFar_101 : decode cX12_layFar 101 = .ok (.getfield 130, 3) := by decide +kernel
theorem dX12_layFar_104 : decode cX12_layFar 104 = .ok (.iload 5, 2) := by decide +kernel
theorem dX12_layFar_106 : decode cX12_layFar 106 = .ok (.aload_n 0, 1) := by decide +kernel
theorem dX12_layFar_107 : decode cX12_layFar 107 = .ok (.getfield 130, 3) := by decide +kernel
theorem dX12_layFar_110 : decode cX12_layFar 110 = .ok (.aload_n 0, 1) := by decide +kernel
theorem dX12_layFar_111 : decode cX12_layFar 111 = .ok (.getfield 133, 3) := by decide +kernel
theorem dX12_layFar_114 : decode cX12_layFar 114 = .ok (.iload_n 3, 1) := by decide +kernel
theorem dX12_layFar_115 : decode cX12_layFar 115 = .ok (.iaload, 1) := by decide +kernel
theorem dX12_layFar_116 : decode cX12_layFar 116 = .ok (.iaload, 1) := by decide +kernel
theorem dX12_layFar_117 : decode cX12_layFar 117 = .ok (.iconst 1, 1) := by decide +kernel
theorem dX12_layFar_118 : decode cX12_layFar 118 = .ok (.iadd, 1) := by decide +kernel
theorem dX12_layFar_119 : decode cX12_layFar 119 = .ok (.iastore, 1) := by decide +kernel
theorem dX12_layFar_120 : decode cX12_layFar 120 = .ok (.aload_n 0, 1) := by decide +kernel
theorem dX12_layFar_121 : decode cX12_layFar 121 = .ok (.getfield 133, 3) := by decide +kernel
theorem dX12_layFar_124 : decode cX12_layFar 124 = .ok (.iload_n 2, 1) := by decide +kernel
theorem dX12_layFar_125 : decode cX12_layFar 125 = .ok (.iload 5, 2) := by decide +kernel
theorem dX12_layFar_127 : decode cX12_layFar 127 = .ok (.iastore, 1) := by decide +kernel
theorem dX12_layFar_128 : decode cX12_layFar 128 = .ok (.iinc 2 1, 3) := by decide +kernel
theorem dX12_layFar_131 : decode cX12_layFar 131 = .ok (.iinc 4 1, 3) := by decide +kernel
theorem dX12_layFar_134 : decode cX12_layFar 134 = .ok (.goto (-85), 3) := by decide +kernel
theorem dX12_layFar_137 : decode cX12_layFar 137 = .ok (.iinc 3 1, 3) := by decide +kernel
theorem dX12_layFar_140 : decode cX12_layFar 140 = .ok (.goto (-99), 3) := by decide +kernel
theorem dX12_layFar_143 : decode cX12_layFar 143 = .ok (.return_, 1) := by decide +kernel
theorem dX12_least_0 : decode cX12_least 0 = .ok (.iload_n 0, 1) := by decide +kernel
theorem dX12_least_1 : decode cX12_least 1 = .ok (.iload_n 1, 1) := by decide +kernel
theorem dX12_least_2 : decode cX12_least 2 = .ok (.if_icmp .ge 7, 3) := by decide +kernel
theorem dX12_least_5 : decode cX12_least 5 = .ok (.iload_n 0, 1) := by decide +kernel
theorem dX12_least_6 : decode cX12_least 6 = .ok (.goto 4, 3) := by decide +kernel
theorem dX12_least_9 : decode cX12_least 9 = .ok (.iload_n 1, 1) := by decide +kernel
theorem dX12_least_10 : decode cX12_least 10 = .ok (.ireturn, 1) := by decide +kernel
theorem dX12_leftBy_0 : decode cX12_leftBy 0 = .ok (.iconst 0, 1) := by decide +kernel
theorem dX12_leftBy_1 : decode cX12_leftBy 1 = .ok (.istore 4, 2) := by decide +kernel
theorem dX12_leftBy_3 : decode cX12_leftBy 3 = .ok (.iconst 0, 1) := by decide +kernel
theorem dX12_leftBy_4 : decode cX12_leftBy 4 = .ok (.istore 5, 2) := by decide +kernel
theorem dX12_leftBy_6 : decode cX12_leftBy 6 = .ok (.iload 5, 2) := by decide +kernel
theorem dX12_leftBy_8 : decode cX12_leftBy 8 = .ok (.aload_n 0, 1) := by decide +kernel
theorem dX12_leftBy_9 : decode cX12_leftBy 9 = .ok (.getfield 98, 3) := by decide +kernel
theorem dX12_leftBy_12 : decode cX12_leftBy 12 = .ok (.iconst 4, 1) := by decide +kernel
theorem dX12_leftBy_13 : decode cX12_leftBy 13 = .ok (.iaload, 1) := by decide +kernel
theorem dX12_leftBy_14 : decode cX12_leftBy 14 = .ok (.if_icmp .ge 35, 3) := by decide +kernel
theorem dX12_leftBy_17 : decode cX12_leftBy 17 = .ok (.iload_n 1, 1) := by decide +kernel
theorem dX12_leftBy_18 : decode cX12_leftBy 18 = .ok (.iload 5, 2) := by decide +kernel
theorem dX12_leftBy_20 : decode cX12_leftBy 20 = .ok (.invokestatic 235, 3) := by decide +kernel
theorem dX12_leftBy_23 : decode cX12_leftBy 23 = .ok (.ifCond .eq 20, 3) := by decide +kernel
theorem dX12_leftBy_26 : decode cX12_leftBy 26 = .ok (.aload_n 0, 1) := by decide +kernel
theorem dX12_leftBy_27 : decode cX12_leftBy 27 = .ok (.iload_n 2, 1) := by decide +kernel
theorem dX12_leftBy_28 : decode cX12_leftBy 28 = .ok (.iload 5, 2) := by decide +kernel
theorem dX12_leftBy_30 : decode cX12_leftBy 30 = .ok (.invokevirtual 277, 3) := by decide +kernel
theorem dX12_leftBy_33 : decode cX12_leftBy 33 = .ok (.iload_n 3, 1) := by decide +kernel
theorem dX12_leftBy_34 : decode cX12_leftBy 34 = .ok (.invokestatic 235, 3) := by decide +kernel
theorem dX12_leftBy_37 : decode cX12_leftBy 37 = .ok (.ifCond .eq 6, 3) := by decide +kernel
theorem dX12_leftBy_40 : decode cX12_leftBy 40 = .ok (.iinc 4 1, 3) := by decide +kernel
theorem dX12_leftBy_43 : decode cX12_leftBy 43 = .ok (.iinc 5 1, 3) := by decide +kernel
theorem dX12_leftBy_46 : decode cX12_leftBy 46 = .ok (.goto (-40), 3) := by decide +kernel
theorem dX12_leftBy_49 : decode cX12_leftBy 49 = .ok (.iload 4, 2) := by decide +kernel
theorem dX12_leftBy_51 : decode cX12_leftBy 51 = .ok (.iload_n 1, 1) := by decide +kernel
theorem dX12_leftBy_52 : decode cX12_leftBy 52 = .ok (.invokestatic 295, 3) := by decide +kernel
theorem dX12_leftBy_55 : decode cX12_leftBy 55 = .ok (.iload 4, 2) := by decide +kernel
theorem dX12_leftBy_57 : decode cX12_leftBy 57 = .ok (.isub, 1) := by decide +kernel
theorem dX12_leftBy_58 : decode cX12_leftBy 58 = .ok (.if_icmp .le 8, 3) := by decide +kernel
theorem dX12_leftBy_61 : decode cX12_leftBy 61 = .ok (.iload 4, 2) := by decide +kernel
theorem dX12_leftBy_63 : decode cX12_leftBy 63 = .ok (.goto 10, 3) := by decide +kernel
theorem dX12_leftBy_66 : decode cX12_leftBy 66 = .ok (.iload_n 1, 1) := by decide +kernel
theorem dX12_leftBy_67 : decode cX12_leftBy 67 = .ok (.invokestatic 295, 3) := by decide +kernel
theorem dX12_leftBy_70 : decode cX12_leftBy 70 = .ok (.iload 4, 2) := by decide +kernel
theorem dX12_leftBy_72 : decode cX12_leftBy 72 = .ok (.isub, 1) := by decide +kernel
theorem dX12_leftBy_73 : decode cX12_leftBy 73 = .ok (.ireturn, 1) := by decide +kernel
theorem dX12_live_0 : decode cX12_live 0 = .ok (.iload_n 1, 1) := by decide +kernel
theorem dX12_live_1 : decode cX12_live 1 = .ok (.tableswitch 103 0 2 #[27, 62, 88], 27) := by decide +kernel
theorem dX12_live_28 : decode cX12_live 28 = .ok (.aload_n 0, 1) := by decide +kernel
theorem dX12_live_29 : decode cX12_live 29 = .ok (.getfield 98, 3) := by decide +kernel
theorem dX12_live_32 : decode cX12_live 32 = .ok (.bipush 116, 2) := by decide +kernel
theorem dX12_live_34 : decode cX12_live 34 = .ok (.iload_n 2, 1) := by decide +kernel
theorem dX12_live_35 : decode cX12_live 35 = .ok (.iadd, 1) := by decide +kernel
theorem dX12_live_36 : decode cX12_live 36 = .ok (.aload_n 0, 1) := by decide +kernel
theorem dX12_live_37 : decode cX12_live 37 = .ok (.aload_n 0, 1) := by decide +kernel
theorem dX12_live_38 : decode cX12_live 38 = .ok (.getfield 98, 3) := by decide +kernel
theorem dX12_live_41 : decode cX12_live 41 = .ok (.bipush 116, 2) := by decide +kernel
theorem dX12_live_43 : decode cX12_live 43 = .ok (.iload_n 2, 1) := by decide +kernel
theorem dX12_live_44 : decode cX12_live 44 = .ok (.iadd, 1) := by decide +kernel
theorem dX12_live_45 : decode cX12_live 45 = .ok (.iaload, 1) := by decide +kernel
theorem dX12_live_46 : decode cX12_live 46 = .ok (.iload_n 3, 1) := by decide +kernel
theorem dX12_live_47 : decode cX12_live 47 = .ok (.invokevirtual 247, 3) := by decide +kernel
theorem dX12_live_50 : decode cX12_live 50 = .ok (.iastore, 1) := by decide +kernel
theorem dX12_live_51 : decode cX12_live 51 = .ok (.aload_n 0, 1) := by decide +kernel
theorem dX12_live_52 : decode cX12_live 52 = .ok (.getfield 98, 3) := by decide +kernel
theorem dX12_live_55 : decode cX12_live 55 = .ok (.bipush 109, 2) := by decide +kernel
theorem dX12_live_57 : decode cX12_live 57 = .ok (.dup2, 1) := by decide +kernel
theorem dX12_live_58 : decode cX12_live 58 = .ok (.iaload, 1) := by decide +kernel
theorem dX12_live_59 : decode cX12_live 59 = .ok (.iconst 1, 1) := by decide +kernel
theorem dX12_live_60 : decode cX12_live 60 = .ok (.iadd, 1) := by decide +kernel
theorem dX12_live_61 : decode cX12_live 61 = .ok (.iastore, 1) := by decide +kernel
theorem dX12_live_62 : decode cX12_live 62 = .ok (.return_, 1) := by decide +kernel
theorem dX12_live_63 : decode cX12_live 63 = .ok (.aload_n 0, 1) := by decide +kernel
theorem dX12_live_64 : decode cX12_live 64 = .ok (.getfield 98, 3) := by decide +kernel
theorem dX12_live_67 : decode cX12_live 67 = .ok (.sipush 128, 3) := by decide +kernel
theorem dX12_live_70 : decode cX12_live 70 = .ok (.iload_n 2, 1) := by decide +kernel
theorem dX12_live_71 : decode cX12_live 71 = .ok (.iadd, 1) := by decide +kernel
theorem dX12_live_72 : decode cX12_live 72 = .ok (.dup2, 1) := by decide +kernel
theorem dX12_live_73 : decode cX12_live 73 = .ok (.iaload, 1) := by decide +kernel
theorem dX12_live_74 : decode cX12_live 74 = .ok (.iconst 1, 1) := by decide +kernel
theorem dX12_live_75 : decode cX12_live 75 = .ok (.iadd, 1) := by decide +kernel
theorem dX12_live_76 : decode cX12_live 76 = .ok (.iastore, 1) := by decide +kernel
theorem dX12_live_77 : decode cX12_live 77 = .ok (.aload_n 0, 1) := by decide +kernel
theorem dX12_live_78 : decode cX12_live 78 = .ok (.getfield 98, 3) := by decide +kernel
theorem dX12_live_81 : decode cX12_live 81 = .ok (.bipush 110, 2) := by decide +kernel
theorem dX12_live_83 : decode cX12_live 83 = .ok (.dup2, 1) := by decide +kernel
theorem dX12_live_84 : decode cX12_live 84 = .ok (.iaload, 1) := by decide +kernel
theorem dX12_live_85 : decode cX12_live 85 = .ok (.iconst 1, 1) := by decide +kernel
theorem dX12_live_86 : decode cX12_live 86 = .ok (.iadd, 1) := by decide +kernel
theorem dX12_live_87 : decode cX12_live 87 = .ok (.iastore, 1) := by decide +kernel
theorem dX12_live_88 : decode cX12_live 88 = .ok (.return_, 1) := by decide +kernel
theorem dX12_live_89 : decode cX12_live 89 = .ok (.aload_n 0, 1) := by decide +kernel
theorem dX12_live_90 : decode cX12_live 90 = .ok (.getfield 98, 3) := by decide +kernel
theorem dX12_live_93 : decode cX12_live 93 = .ok (.sipush 128, 3) := by decide +kernel
theorem dX12_live_96 : decode cX12_live 96 = .ok (.iload_n 2, 1) := by decide +kernel
theorem dX12_live_97 : decode cX12_live 97 = .ok (.iadd, 1) := by decide +kernel
theorem dX12_live_98 : decode cX12_live 98 = .ok (.dup2, 1) := by decide +kernel
theorem dX12_live_99 : decode cX12_live 99 = .ok (.iaload, 1) := by decide +kernel
theorem dX12_live_100 : decode cX12_live 100 = .ok (.iconst 1, 1) := by decide +kernel
theorem dX12_live_101 : decode cX12_live 101 = .ok (.isub, 1) := by decide +kernel
theorem dX12_live_102 : decode cX12_live 102 = .ok (.iastore, 1) := by decide +kernel
theorem dX12_live_103 : decode cX12_live 103 = .ok (.return_, 1) := by decide +kernel
theorem dX12_live_104 : decode cX12_live 104 = .ok (.aload_n 0, 1) := by decide +kernel
theorem dX12_live_105 : decode cX12_live 105 = .ok (.iload_n 2, 1) := by decide +kernel
theorem dX12_live_106 : decode cX12_live 106 = .ok (.invokevirtual 298, 3) := by decide +kernel
theorem dX12_live_109 : decode cX12_live 109 = .ok (.return_, 1) := by decide +kernel
theorem dX12_longest_0 : decode cX12_longest 0 = .ok (.aload_n 0, 1) := by decide +kernel
theorem dX12_longest_1 : decode cX12_longest 1 = .ok (.iconst 0, 1) := by decide +kernel
theorem dX12_longest_2 : decode cX12_longest 2 = .ok (.putfield 1, 3) := by decide +kernel
theorem dX12_longest_5 : decode cX12_longest 5 = .ok (.iconst 0, 1) := by decide +kernel
theorem dX12_longest_6 : decode cX12_longest 6 = .ok (.istore_n 1, 1) := by decide +kernel
theorem dX12_longest_7 : decode cX12_longest 7 = .ok (.iconst 0, 1) := by decide +kernel
theorem dX12_longest_8 : decode cX12_longest 8 = .ok (.istore_n 2, 1) := by decide +kernel
theorem dX12_longest_9 : decode cX12_longest 9 = .ok (.iload_n 2, 1) := by decide +kernel
theorem dX12_longest_10 : decode cX12_longest 10 = .ok (.aload_n 0, 1) := by decide +kernel
theorem dX12_longest_11 : decode cX12_longest 11 = .ok (.getfield 98, 3) := by decide +kernel
theorem dX12_longest_14 : decode cX12_longest 14 = .ok (.iconst 2, 1) := by decide +kernel
theorem dX12_longest_15 : decode cX12_longest 15 = .ok (.iaload, 1) := by decide +kernel
theorem dX12_longest_16 : decode cX12_longest 16 = .ok (.if_icmp .ge 57, 3) := by decide +kernel
theorem dX12_longest_19 : decode cX12_longest 19 = .ok (.iconst 0, 1) := by decide +kernel
theorem dX12_longest_20 : decode cX12_longest 20 = .ok (.istore_n 3, 1) := by decide +kernel
theorem dX12_longest_21 : decode cX12_longest 21 = .ok (.iload_n 3, 1) := by decide +kernel
theorem dX12_longest_22 : decode cX12_longest 22 = .ok (.aload_n 0, 1) := by decide +kernel
theorem dX12_longest_23 : decode cX12_longest 23 = .ok (.getfield 98, 3) := by decide +kernel
theorem dX12_longest_26 : decode cX12_longest 26 = .ok (.iconst 4, 1) := by decide +kernel
theorem dX12_longest_27 : decode cX12_longest 27 = .ok (.iaload, 1) := by decide +kernel
theorem dX12_longest_28 : decode cX12_longest 28 = .ok (.if_icmp .ge 39, 3) := by decide +kernel
theorem dX12_longest_31 : decode cX12_longest 31 = .ok (.aload_n 0, 1) := by decide +kernel
theorem dX12_longest_32 : decode cX12_longest 32 = .ok (.iload_n 2, 1) := by decide +kernel
theorem dX12_longest_33 : decode cX12_longest 33 = .ok (.iload_n 3, 1) := by decide +kernel
theorem dX12_longest_34 : decode cX12_longest 34 = .ok (.invokevirtual 343, 3) := by decide +kernel
theorem dX12_longest_37 : decode cX12_longest 37 = .ok (.istore 4, 2) := by decide +kernel
theorem dX12_longest_39 : decode cX12_longest 39 = .ok (.iload 4, 2) := by decide +kernel
theorem dX12_longest_41 : decode cX12_longest 41 = .ok (.iload_n 1, 1) := by decide +kernel
theorem dX12_longest_42 : decode cX12_longest 42 = .ok (.if_icmp .gt 6, 3) := by decide +kernel
theorem dX12_longest_45 : decode cX12_longest 45 = .ok (.goto 16, 3) := by decide +kernel
theorem dX12_longest_48 : decode cX12_longest 48 = .ok (.iload 4, 2) := by decide +kernel
theorem dX12_longest_50 : decode cX12_longest 50 = .ok (.istore_n 1, 1) := by decide +kernel
theorem dX12_longest_51 : decode cX12_longest 51 = .ok (.aload_n 0, 1) := by decide +kernel
theorem dX12_longest_52 : decode cX12_longest 52 = .ok (.iload_n 2, 1) := by decide +kernel
theorem dX12_longest_53 : decode cX12_longest 53 = .ok (.putfield 145, 3) := by decide +kernel
theorem dX12_longest_56 : decode cX12_longest 56 = .ok (.aload_n 0, 1) := by decide +kernel
theorem dX12_longest_57 : decode cX12_longest 57 = .ok (.iload_n 3, 1) := by decide +kernel
theorem dX12_longest_58 : decode cX12_longest 58 = .ok (.putfield 148, 3) := by decide +kernel
theorem dX12_longest_61 : decode cX12_longest 61 = .ok (.iinc 3 1, 3) := by decide +kernel
theorem dX12_longest_64 : decode cX12_longest 64 = .ok (.goto (-43), 3) := by decide +kernel
theorem dX12_longest_67 : decode cX12_longest 67 = .ok (.iinc 2 1, 3) := by decide +kernel
theorem dX12_longest_70 : decode cX12_longest 70 = .ok (.goto (-61), 3) := by decide +kernel
theorem dX12_longest_73 : decode cX12_longest 73 = .ok (.iload_n 1, 1) := by decide +kernel
theorem dX12_longest_74 : decode cX12_longest 74 = .ok (.ireturn, 1) := by decide +kernel
theorem dX12_longestAt_0 : decode cX12_longestAt 0 = .ok (.aload_n 0, 1) := by decide +kernel
theorem dX12_longestAt_1 : decode cX12_longestAt 1 = .ok (.iconst 0, 1) := by decide +kernel
theorem dX12_longestAt_2 : decode cX12_longestAt 2 = .ok (.putfield 1, 3) := by decide +kernel
theorem dX12_longestAt_5 : decode cX12_longestAt 5 = .ok (.iload_n 1, 1) := by decide +kernel
theorem dX12_longestAt_6 : decode cX12_longestAt 6 = .ok (.ifCond .ne 10, 3) := by decide +kernel
theorem dX12_longestAt_9 : decode cX12_longestAt 9 = .ok (.aload_n 0, 1) := by decide +kernel
theorem dX12_longestAt_10 : decode cX12_longestAt 10 = .ok (.getfield 145, 3) := by decide +kernel
theorem dX12_longestAt_13 : decode cX12_longestAt 13 = .ok (.goto 16, 3) := by decide +kernel
theorem dX12_longestAt_16 : decode cX12_longestAt 16 = .ok (.iload_n 1, 1) := by decide +kernel
theorem dX12_longestAt_17 : decode cX12_longestAt 17 = .ok (.iconst 1, 1) := by decide +kernel
theorem dX12_longestAt_18 : decode cX12_longestAt 18 = .ok (.if_icmp .ne 10, 3) := by decide +kernel
theorem dX12_longestAt_21 : decode cX12_longestAt 21 = .ok (.aload_n 0, 1) := by decide +kernel
theorem dX12_longestAt_22 : decode cX12_longestAt 22 = .ok (.getfield 148, 3) := by decide +kernel
theorem dX12_longestAt_25 : decode cX12_longestAt 25 = .ok (.goto 4, 3) := by decide +kernel
theorem dX12_longestAt_28 : decode cX12_longestAt 28 = .ok (.iconst (-1), 1) := by decide +kernel
theorem dX12_longestAt_29 : decode cX12_longestAt 29 = .ok (.ireturn, 1) := by decide +kernel
theorem dX12_near_0 : decode cX12_near 0 = .ok (.aload_n 0, 1) := by decide +kernel
theorem dX12_near_1 : decode cX12_near 1 = .ok (.iconst 0, 1) := by decide +kernel
theorem dX12_near_2 : decode cX12_near 2 = .ok (.putfield 1, 3) := by decide +kernel
theorem dX12_near_5 : decode cX12_near 5 = .ok (.aload_n 0, 1) := by decide +kernel
theorem dX12_near_6 : decode cX12_near 6 = .ok (.iload_n 1, 1) := by decide +kernel
theorem dX12_near_7 : decode cX12_near 7 = .ok (.invokevirtual 280, 3) := by decide +kernel
theorem dX12_near_10 : decode cX12_near 10 = .ok (.ifCond .eq 19, 3) := by decide +kernel
theorem dX12_near_13 : decode cX12_near 13 = .ok (.aload_n 0, 1) := by decide +kernel
theorem dX12_near_14 : decode cX12_near 14 = .ok (.iload_n 2, 1) := by decide +kernel
theorem dX12_near_15 : decode cX12_near 15 = .ok (.invokevirtual 268, 3) := by decide +kernel
theorem dX12_near_18 : decode cX12_near 18 = .ok (.ifCond .eq 11, 3) := by decide +kernel
theorem dX12_near_21 : decode cX12_near 21 = .ok (.aload_n 0, 1) := by decide +kernel
theorem dX12_near_22 : decode cX12_near 22 = .ok (.iload_n 3, 1) := by decide +kernel
theorem dX12_near_23 : decode cX12_near 23 = .ok (.invokevirtual 322, 3) := by decide +kernel
theorem dX12_near_26 : decode cX12_near 26 = .ok (.ifCond .ne 5, 3) := by decide +kernel
theorem dX12_near_29 : decode cX12_near 29 = .ok (.iconst (-1), 1) := by decide +kernel
theorem dX12_near_30 : decode cX12_near 30 = .ok (.ireturn, 1) := by decide +kernel
theorem dX12_near_31 : decode cX12_near 31 = .ok (.aload_n 0, 1) := by decide +kernel
theorem dX12_near_32 : decode cX12_near 32 = .ok (.aload_n 0, 1) := by decide +kernel
theorem dX12_near_33 : decode cX12_near 33 = .ok (.getfield 98, 3) := by decide +kernel
theorem dX12_near_36 : decode cX12_near 36 = .ok (.bipush 116, 2) := by decide +kernel
theorem dX12_near_38 : decode cX12_near 38 = .ok (.iload_n 1, 1) := by decide +kernel
theorem dX12_near_39 : decode cX12_near 39 = .ok (.iadd, 1) := by decide +kernel
theorem dX12_near_40 : decode cX12_near 40 = .ok (.iaload, 1) := by decide +kernel
theorem dX12_near_41 : decode cX12_near 41 = .ok (.invokevirtual 326, 3) := by decide +kernel
theorem dX12_near_44 : decode cX12_near 44 = .ok (.aload_n 0, 1) := by decide +kernel
theorem dX12_near_45 : decode cX12_near 45 = .ok (.iload_n 2, 1) := by decide +kernel
theorem dX12_near_46 : decode cX12_near 46 = .ok (.iload_n 3, 1) := by decide +kernel
theorem dX12_near_47 : decode cX12_near 47 = .ok (.invokevirtual 251, 3) := by decide +kernel
theorem dX12_near_50 : decode cX12_near 50 = .ok (.lstore 4, 2) := by decide +kernel
theorem dX12_near_52 : decode cX12_near 52 = .ok (.ldc_w 325, 3) := by decide +kernel
theorem dX12_near_55 : decode cX12_near 55 = .ok (.istore 6, 2) := by decide +kernel
theorem dX12_near_57 : decode cX12_near 57 = .ok (.iconst 0, 1) := by decide +kernel
theorem dX12_near_58 : decode cX12_near 58 = .ok (.istore 7, 2) := by decide +kernel
theorem dX12_near_60 : decode cX12_near 60 = .ok (.iload 7, 2) := by decide +kernel
theorem dX12_near_62 : decode cX12_near 62 = .ok (.bipush 64, 2) := by decide +kernel
theorem dX12_near_64 : decode cX12_near 64 = .ok (.if_icmp .ge 33, 3) := by decide +kernel
theorem dX12_near_67 : decode cX12_near 67 = .ok (.lload 4, 2) := by decide +kernel
theorem dX12_near_69 : decode cX12_near 69 = .ok (.iload 7, 2) := by decide +kernel
theorem dX12_near_71 : decode cX12_near 71 = .ok (.invokestatic 255, 3) := by decide +kernel
theorem dX12_near_74 : decode cX12_near 74 = .ok (.ifCond .eq 17, 3) := by decide +kernel
theorem dX12_near_77 : decode cX12_near 77 = .ok (.iload 6, 2) := by decide +kernel
theorem dX12_near_79 : decode cX12_near 79 = .ok (.aload_n 0, 1) := by decide +kernel
theorem dX12_near_80 : decode cX12_near 80 = .ok (.getfield 130, 3) := by decide +kernel
theorem dX12_near_83 : decode cX12_near 83 = .ok (.iload 7, 2) := by decide +kernel
theorem dX12_near_85 : decode cX12_near 85 = .ok (.iaload, 1) := by decide +kernel
theorem dX12_near_86 : decode cX12_near 86 = .ok (.invokestatic 316, 3) := by decide +kernel
theorem dX12_near_89 : decode cX12_near 89 = .ok (.istore 6, 2) := by decide +kernel
theorem dX12_near_91 : decode cX12_near 91 = .ok (.iinc 7 1, 3) := by decide +kernel
theorem dX12_near_94 : decode cX12_near 94 = .ok (.goto (-34), 3) := by decide +kernel
theorem dX12_near_97 : decode cX12_near 97 = .ok (.iload 6, 2) := by decide +kernel
theorem dX12_near_99 : decode cX12_near 99 = .ok (.ldc_w 325, 3) := by decide +kernel
theorem dX12_near_102 : decode cX12_near 102 = .ok (.if_icmp .ne 7, 3) := by decide +kernel
theorem dX12_near_105 : decode cX12_near 105 = .ok (.iconst (-1), 1) := by decide +kernel
theorem dX12_near_106 : decode cX12_near 106 = .ok (.goto 5, 3) := by decide +kernel
theorem dX12_near_109 : decode cX12_near 109 = .ok (.iload 6, 2) := by decide +kernel
theorem dX12_near_111 : decode cX12_near 111 = .ok (.ireturn, 1) := by decide +kernel
theorem dX12_nextTo_0 : decode cX12_nextTo 0 = .ok (.iload_n 1, 1) := by decide +kernel
theorem dX12_nextTo_1 : decode cX12_nextTo 1 = .ok (.bipush 8, 2) := by decide +kernel
theorem dX12_nextTo_3 : decode cX12_nextTo 3 = .ok (.irem, 1) := by decide +kernel
theorem dX12_nextTo_4 : decode cX12_nextTo 4 = .ok (.iload_n 2, 1) := by decide +kernel
theorem dX12_nextTo_5 : decode cX12_nextTo 5 = .ok (.ifCond .ne 7, 3) := by decide +kernel
theorem dX12_nextTo_8 : decode cX12_nextTo 8 = .ok (.iconst 1, 1) := by decide +kernel
theorem dX12_nextTo_9 : decode cX12_nextTo 9 = .ok (.goto 13, 3) := by decide +kernel
theorem dX12_nextTo_12 : decode cX12_nextTo 12 = .ok (.iload_n 2, 1) := by decide +kernel
theorem dX12_nextTo_13 : decode cX12_nextTo 13 = .ok (.iconst 2, 1) := by decide +kernel
theorem dX12_nextTo_14 : decode cX12_nextTo 14 = .ok (.if_icmp .ne 7, 3) := by decide +kernel
theorem dX12_nextTo_17 : decode cX12_nextTo 17 = .ok (.iconst (-1), 1) := by decide +kernel
theorem dX12_nextTo_18 : decode cX12_nextTo 18 = .ok (.goto 4, 3) := by decide +kernel
theorem dX12_nextTo_21 : decode cX12_nextTo 21 = .ok (.iconst 0, 1) := by decide +kernel
theorem dX12_nextTo_22 : decode cX12_nextTo 22 = .ok (.iadd, 1) := by decide +kernel
theorem dX12_nextTo_23 : decode cX12_nextTo 23 = .ok (.istore_n 3, 1) := by decide +kernel
theorem dX12_nextTo_24 : decode cX12_nextTo 24 = .ok (.iload_n 1, 1) := by decide +kernel
theorem dX12_nextTo_25 : decode cX12_nextTo 25 = .ok (.bipush 8, 2) := by decide +kernel
theorem dX12_nextTo_27 : decode cX12_nextTo 27 = .ok (.idiv, 1) := by decide +kernel
theorem dX12_nextTo_28 : decode cX12_nextTo 28 = .ok (.iload_n 2, 1) := by decide +kernel
theorem dX12_nextTo_29 : decode cX12_nextTo 29 = .ok (.iconst 1, 1) := by decide +kernel
theorem dX12_nextTo_30 : decode cX12_nextTo 30 = .ok (.if_icmp .ne 7, 3) := by decide +kernel
theorem dX12_nextTo_33 : decode cX12_nextTo 33 = .ok (.iconst 1, 1) := by decide +kernel
theorem dX12_nextTo_34 : decode cX12_nextTo 34 = .ok (.goto 13, 3) := by decide +kernel
theorem dX12_nextTo_37 : decode cX12_nextTo 37 = .ok (.iload_n 2, 1) := by decide +kernel
theorem dX12_nextTo_38 : decode cX12_nextTo 38 = .ok (.iconst 3, 1) := by decide +kernel
theorem dX12_nextTo_39 : decode cX12_nextTo 39 = .ok (.if_icmp .ne 7, 3) := by decide +kernel
theorem dX12_nextTo_42 : decode cX12_nextTo 42 = .ok (.iconst (-1), 1) := by decide +kernel
theorem dX12_nextTo_43 : decode cX12_nextTo 43 = .ok (.goto 4, 3) := by decide +kernel
theorem dX12_nextTo_46 : decode cX12_nextTo 46 = .ok (.iconst 0, 1) := by decide +kernel
theorem dX12_nextTo_47 : decode cX12_nextTo 47 = .ok (.iadd, 1) := by decide +kernel
theorem dX12_nextTo_48 : decode cX12_nextTo 48 = .ok (.istore 4, 2) := by decide +kernel
theorem dX12_nextTo_50 : decode cX12_nextTo 50 = .ok (.aload_n 0, 1) := by decide +kernel
theorem dX12_nextTo_51 : decode cX12_nextTo 51 = .ok (.iload_n 3, 1) := by decide +kernel
theorem dX12_nextTo_52 : decode cX12_nextTo 52 = .ok (.iload 4, 2) := by decide +kernel
theorem dX12_nextTo_54 : decode cX12_nextTo 54 = .ok (.invokevirtual 244, 3) := by decide +kernel
theorem dX12_nextTo_57 : decode cX12_nextTo 57 = .ok (.ifCond .eq 13, 3) := by decide +kernel
theorem dX12_nextTo_60 : decode cX12_nextTo 60 = .ok (.bipush 8, 2) := by decide +kernel
theorem dX12_nextTo_62 : decode cX12_nextTo 62 = .ok (.iload 4, 2) := by decide +kernel
theorem dX12_nextTo_64 : decode cX12_nextTo 64 = .ok (.imul, 1) := by decide +kernel
theorem dX12_nextTo_65 : decode cX12_nextTo 65 = .ok (.iload_n 3, 1) := by decide +kernel
theorem dX12_nextTo_66 : decode cX12_nextTo 66 = .ok (.iadd, 1) := by decide +kernel
theorem dX12_nextTo_67 : decode cX12_nextTo 67 = .ok (.goto 4, 3) := by decide +kernel
theorem dX12_nextTo_70 : decode cX12_nextTo 70 = .ok (.iconst (-1), 1) := by decide +kernel
theorem dX12_nextTo_71 : decode cX12_nextTo 71 = .ok (.ireturn, 1) := by decide +kernel
theorem dX12_now_0 : decode cX12_now 0 = .ok (.aload_n 0, 1) := by decide +kernel
theorem dX12_now_1 : decode cX12_now 1 = .ok (.iconst 0, 1) := by decide +kernel
theorem dX12_now_2 : decode cX12_now 2 = .ok (.putfield 1, 3) := by decide +kernel
theorem dX12_now_5 : decode cX12_now 5 = .ok (.iload_n 1, 1) := by decide +kernel
theorem dX12_now_6 : decode cX12_now 6 = .ok (.tableswitch 110 0 7 #[46, 54, 59, 67, 77, 86, 94, 102], 46) := by decide +kernel
theorem dX12_now_52 : decode cX12_now 52 = .ok (.aload_n 0, 1) := by decide +kernel
theorem dX12_now_53 : decode cX12_now 53 = .ok (.getfield 98, 3) := by decide +kernel
theorem dX12_now_56 : decode cX12_now 56 = .ok (.bipush 106, 2) := by decide +kernel
theorem dX12_now_58 : decode cX12_now 58 = .ok (.iaload, 1) := by decide +kernel
theorem dX12_now_59 : decode cX12_now 59 = .ok (.ireturn, 1) := by decide +kernel
theorem dX12_now_60 : decode cX12_now 60 = .ok (.aload_n 0, 1) := by decide +kernel
theorem dX12_now_61 : decode cX12_now 61 = .ok (.invokevirtual 259, 3) := by decide +kernel
theorem dX12_now_64 : decode cX12_now 64 = .ok (.ireturn, 1) := by decide +kernel
theorem dX12_now_65 : decode cX12_now 65 = .ok (.aload_n 0, 1) := by decide +kernel
theorem dX12_now_66 : decode cX12_now 66 = .ok (.getfield 98, 3) := by decide +kernel
theorem dX12_now_69 : decode cX12_now 69 = .ok (.bipush 107, 2) := by decide +kernel
theorem dX12_now_71 : decode cX12_now 71 = .ok (.iaload, 1) := by decide +kernel
theorem dX12_now_72 : decode cX12_now 72 = .ok (.ireturn, 1) := by decide +kernel
theorem dX12_now_73 : decode cX12_now 73 = .ok (.aload_n 0, 1) := by decide +kernel
theorem dX12_now_74 : decode cX12_now 74 = .ok (.sipush 128, 3) := by decide +kernel
theorem dX12_now_77 : decode cX12_now 77 = .ok (.bipush 64, 2) := by decide +kernel
theorem dX12_now_79 : decode cX12_now 79 = .ok (.invokevirtual 286, 3) := by decide +kernel
theorem dX12_now_82 : decode cX12_now 82 = .ok (.ireturn, 1) := by decide +kernel
theorem dX12_now_83 : decode cX12_now 83 = .ok (.aload_n 0, 1) := by decide +kernel
theorem dX12_now_84 : decode cX12_now 84 = .ok (.bipush 122, 2) := by decide +kernel
theorem dX12_now_86 : decode cX12_now 86 = .ok (.bipush 6, 2) := by decide +kernel
theorem dX12_now_88 : decode cX12_now 88 = .ok (.invokevirtual 286, 3) := by decide +kernel
theorem dX12_now_91 : decode cX12_now 91 = .ok (.ireturn, 1) := by decide +kernel
theorem dX12_now_92 : decode cX12_now 92 = .ok (.aload_n 0, 1) := by decide +kernel
theorem dX12_now_93 : decode cX12_now 93 = .ok (.getfield 98, 3) := by decide +kernel
theorem dX12_now_96 : decode cX12_now 96 = .ok (.bipush 108, 2) := by decide +kernel
theorem dX12_now_98 : decode cX12_now 98 = .ok (.iaload, 1) := by decide +kernel
theorem dX12_now_99 : decode cX12_now 99 = .ok (.ireturn, 1) := by decide +kernel
theorem dX12_now_100 : decode cX12_now 100 = .ok (.aload_n 0, 1) := by decide +kernel
theorem dX12_now_101 : decode cX12_now 101 = .ok (.getfield 98, 3) := by decide +kernel
theorem dX12_now_104 : decode cX12_now 104 = .ok (.bipush 109, 2) := by decide +kernel
theorem dX12_now_106 : decode cX12_now 106 = .ok (.iaload, 1) := by decide +kernel
theorem dX12_now_107 : decode cX12_now 107 = .ok (.ireturn, 1) := by decide +kernel
theorem dX12_now_108 : decode cX12_now 108 = .ok (.aload_n 0, 1) := by decide +kernel
theorem dX12_now_109 : decode cX12_now 109 = .ok (.getfield 98, 3) := by decide +kernel
theorem dX12_now_112 : decode cX12_now 112 = .ok (.bipush 110, 2) := by decide +kernel
theorem dX12_now_114 : decode cX12_now 114 = .ok (.iaload, 1) := by decide +kernel
theorem dX12_now_115 : decode cX12_now 115 = .ok (.ireturn, 1) := by decide +kernel
theorem dX12_now_116 : decode cX12_now 116 = .ok (.iconst (-1), 1) := by decide +kernel
theorem dX12_now_117 : decode cX12_now 117 = .ok (.ireturn, 1) := by decide +kernel
theorem dX12_odds_0 : decode cX12_odds 0 = .ok (.aload_n 0, 1) := by decide +kernel
theorem dX12_odds_1 : decode cX12_odds 1 = .ok (.iconst 0, 1) := by decide +kernel
theorem dX12_odds_2 : decode cX12_odds 2 = .ok (.putfield 1, 3) := by decide +kernel
theorem dX12_odds_5 : decode cX12_odds 5 = .ok (.aload_n 0, 1) := by decide +kernel
theorem dX12_odds_6 : decode cX12_odds 6 = .ok (.iload_n 1, 1) := by decide +kernel
theorem dX12_odds_7 : decode cX12_odds 7 = .ok (.invokevirtual 280, 3) := by decide +kernel
theorem dX12_odds_10 : decode cX12_odds 10 = .ok (.ifCond .eq 13, 3) := by decide +kernel
theorem dX12_odds_13 : decode cX12_odds 13 = .ok (.iload_n 2, 1) := by decide +kernel
theorem dX12_odds_14 : decode cX12_odds 14 = .ok (.iconst 1, 1) := by decide +kernel
theorem dX12_odds_15 : decode cX12_odds 15 = .ok (.bipush 30, 2) := by decide +kernel
theorem dX12_odds_17 : decode cX12_odds 17 = .ok (.invokestatic 75, 3) := by decide +kernel
theorem dX12_odds_20 : decode cX12_odds 20 = .ok (.ifCond .ne 5, 3) := by decide +kernel
theorem dX12_odds_23 : decode cX12_odds 23 = .ok (.iconst (-1), 1) := by decide +kernel
theorem dX12_odds_24 : decode cX12_odds 24 = .ok (.ireturn, 1) := by decide +kernel
theorem dX12_odds_25 : decode cX12_odds 25 = .ok (.aload_n 0, 1) := by decide +kernel
theorem dX12_odds_26 : decode cX12_odds 26 = .ok (.invokevirtual 381, 3) := by decide +kernel
theorem dX12_odds_29 : decode cX12_odds 29 = .ok (.iconst 0, 1) := by decide +kernel
theorem dX12_odds_30 : decode cX12_odds 30 = .ok (.istore 4, 2) := by decide +kernel
theorem dX12_odds_32 : decode cX12_odds 32 = .ok (.iconst 0, 1) := by decide +kernel
theorem dX12_odds_33 : decode cX12_odds 33 = .ok (.istore 5, 2) := by decide +kernel
theorem dX12_odds_35 : decode cX12_odds 35 = .ok (.iload 5, 2) := by decide +kernel
theorem dX12_odds_37 : decode cX12_odds 37 = .ok (.iload_n 2, 1) := by decide +kernel
theorem dX12_odds_38 : decode cX12_odds 38 = .ok (.if_icmp .ge 48, 3) := by decide +kernel
theorem dX12_odds_41 : decode cX12_odds 41 = .ok (.aload_n 0, 1) := by decide +kernel
theorem dX12_odds_42 : decode cX12_odds 42 = .ok (.bipush 20, 2) := by decide +kernel
theorem dX12_odds_44 : decode cX12_odds 44 = .ok (.iload_n 3, 1) := by decide +kernel
theorem dX12_odds_45 : decode cX12_odds 45 = .ok (.iload 5, 2) := by decide +kernel
theorem dX12_odds_47 : decode cX12_odds 47 = .ok (.iadd, 1) := by decide +kernel
theorem dX12_odds_48 : decode cX12_odds 48 = .ok (.invokevirtual 378, 3) := by decide +kernel
theorem dX12_odds_51 : decode cX12_odds 51 = .ok (.pop, 1) := by decide +kernel
theorem dX12_odds_52 : decode cX12_odds 52 = .ok (.aload_n 0, 1) := by decide +kernel
theorem dX12_odds_53 : decode cX12_odds 53 = .ok (.getfield 98, 3) := by decide +kernel
theorem dX12_odds_56 : decode cX12_odds 56 = .ok (.bipush 122, 2) := by decide +kernel
theorem dX12_odds_58 : decode cX12_odds 58 = .ok (.iload_n 1, 1) := by decide +kernel
theorem dX12_odds_59 : decode cX12_odds 59 = .ok (.iadd, 1) := by decide +kernel
theorem dX12_odds_60 : decode cX12_odds 60 = .ok (.iaload, 1) := by decide +kernel
theorem dX12_odds_61 : decode cX12_odds 61 = .ok (.aload_n 0, 1) := by decide +kernel
theorem dX12_odds_62 : decode cX12_odds 62 = .ok (.getfield 110, 3) := by decide +kernel
theorem dX12_odds_65 : decode cX12_odds 65 = .ok (.bipush 16, 2) := by decide +kernel
theorem dX12_odds_67 : decode cX12_odds 67 = .ok (.iload_n 1, 1) := by decide +kernel
theorem dX12_odds_68 : decode cX12_odds 68 = .ok (.iadd, 1) := by decide +kernel
theorem dX12_odds_69 : decode cX12_odds 69 = .ok (.iaload, 1) := by decide +kernel
theorem dX12_odds_70 : decode cX12_odds 70 = .ok (.if_icmp .le 6, 3) := by decide +kernel
theorem dX12_odds_73 : decode cX12_odds 73 = .ok (.iinc 4 1, 3) := by decide +kernel
theorem dX12_odds_76 : decode cX12_odds 76 = .ok (.aload_n 0, 1) := by decide +kernel
theorem dX12_odds_77 : decode cX12_odds 77 = .ok (.invokevirtual 384, 3) := by decide +kernel
theorem dX12_odds_80 : decode cX12_odds 80 = .ok (.iinc 5 1, 3) := by decide +kernel
theorem dX12_odds_83 : decode cX12_odds 83 = .ok (.goto (-48), 3) := by decide +kernel
theorem dX12_odds_86 : decode cX12_odds 86 = .ok (.iload 4, 2) := by decide +kernel
theorem dX12_odds_88 : decode cX12_odds 88 = .ok (.ireturn, 1) := by decide +kernel
theorem dX12_passHours_0 : decode cX12_passHours 0 = .ok (.iload_n 1, 1) := by decide +kernel
theorem dX12_passHours_1 : decode cX12_passHours 1 = .ok (.sipush 400, 3) := by decide +kernel
theorem dX12_passHours_4 : decode cX12_passHours 4 = .ok (.aload_n 0, 1) := by decide +kernel
theorem dX12_passHours_5 : decode cX12_passHours 5 = .ok (.getfield 98, 3) := by decide +kernel
theorem dX12_passHours_8 : decode cX12_passHours 8 = .ok (.bipush 106, 2) := by decide +kernel
theorem dX12_passHours_10 : decode cX12_passHours 10 = .ok (.iaload, 1) := by decide +kernel
theorem dX12_passHours_11 : decode cX12_passHours 11 = .ok (.isub, 1) := by decide +kernel
theorem dX12_passHours_12 : decode cX12_passHours 12 = .ok (.invokestatic 316, 3) := by decide +kernel
theorem dX12_passHours_15 : decode cX12_passHours 15 = .ok (.istore_n 2, 1) := by decide +kernel
theorem dX12_passHours_16 : decode cX12_passHours 16 = .ok (.aload_n 0, 1) := by decide +kernel
theorem dX12_passHours_17 : decode cX12_passHours 17 = .ok (.getfield 98, 3) := by decide +kernel
theorem dX12_passHours_20 : decode cX12_passHours 20 = .ok (.bipush 106, 2) := by decide +kernel
theorem dX12_passHours_22 : decode cX12_passHours 22 = .ok (.dup2, 1) := by decide +kernel
theorem dX12_passHours_23 : decode cX12_passHours 23 = .ok (.iaload, 1) := by decide +kernel
theorem dX12_passHours_24 : decode cX12_passHours 24 = .ok (.iload_n 2, 1) := by decide +kernel
theorem dX12_passHours_25 : decode cX12_passHours 25 = .ok (.iadd, 1) := by decide +kernel
theorem dX12_passHours_26 : decode cX12_passHours 26 = .ok (.iastore, 1) := by decide +kernel
theorem dX12_passHours_27 : decode cX12_passHours 27 = .ok (.iload_n 2, 1) := by decide +kernel
theorem dX12_passHours_28 : decode cX12_passHours 28 = .ok (.ireturn, 1) := by decide +kernel
theorem dX12_person_0 : decode cX12_person 0 = .ok (.aload_n 0, 1) := by decide +kernel
theorem dX12_person_1 : decode cX12_person 1 = .ok (.iconst 0, 1) := by decide +kernel
theorem dX12_person_2 : decode cX12_person 2 = .ok (.putfield 1, 3) := by decide +kernel
theorem dX12_person_5 : decode cX12_person 5 = .ok (.aload_n 0, 1) := by decide +kernel
theorem dX12_person_6 : decode cX12_person 6 = .ok (.iload_n 1, 1) := by decide +kernel
theorem dX12_person_7 : decode cX12_person 7 = .ok (.invokevirtual 280, 3) := by decide +kernel
theorem dX12_person_10 : decode cX12_person 10 = .ok (.ifCond .ne 8, 3) := by decide +kernel
theorem dX12_person_13 : decode cX12_person 13 = .ok (.aload_n 0, 1) := by decide +kernel
theorem dX12_person_14 : decode cX12_person 14 = .ok (.invokevirtual 271, 3) := by decide +kernel
theorem dX12_person_17 : decode cX12_person 17 = .ok (.ireturn, 1) := by decide +kernel
theorem dX12_person_18 : decode cX12_person 18 = .ok (.iload_n 2, 1) := by decide +kernel
theorem dX12_person_19 : decode cX12_person 19 = .ok (.tableswitch 119 0 4 #[33, 46, 59, 69, 83], 33) := by decide +kernel
theorem dX12_person_52 : decode cX12_person 52 = .ok (.aload_n 0, 1) := by decide +kernel
theorem dX12_person_53 : decode cX12_person 53 = .ok (.getfield 98, 3) := by decide +kernel
theorem dX12_person_56 : decode cX12_person 56 = .ok (.bipush 116, 2) := by decide +kernel
theorem dX12_person_58 : decode cX12_person 58 = .ok (.iload_n 1, 1) := by decide +kernel
theorem dX12_person_59 : decode cX12_person 59 = .ok (.iadd, 1) := by decide +kernel
theorem dX12_person_60 : decode cX12_person 60 = .ok (.iaload, 1) := by decide +kernel
theorem dX12_person_61 : decode cX12_person 61 = .ok (.bipush 8, 2) := by decide +kernel
theorem dX12_person_63 : decode cX12_person 63 = .ok (.irem, 1) := by decide +kernel
theorem dX12_person_64 : decode cX12_person 64 = .ok (.ireturn, 1) := by decide +kernel
theorem dX12_person_65 : decode cX12_person 65 = .ok (.aload_n 0, 1) := by decide +kernel
theorem dX12_person_66 : decode cX12_person 66 = .ok (.getfield 98, 3) := by decide +kernel
theorem dX12_person_69 : decode cX12_person 69 = .ok (.bipush 116, 2) := by decide +kernel
theorem dX12_person_71 : decode cX12_person 71 = .ok (.iload_n 1, 1) := by decide +kernel
theorem dX12_person_72 : decode cX12_person 72 = .ok (.iadd, 1) := by decide +kernel
theorem dX12_person_73 : decode cX12_person 73 = .ok (.iaload, 1) := by decide +kernel
theorem dX12_person_74 : decode cX12_person 74 = .ok (.bipush 8, 2) := by decide +kernel
theorem dX12_person_76 : decode cX12_person 76 = .ok (.idiv, 1) := by decide +kernel
theorem dX12_person_77 : decode cX12_person 77 = .ok (.ireturn, 1) := by decide +kernel
theorem dX12_person_78 : decode cX12_person 78 = .ok (.aload_n 0, 1) := by decide +kernel
theorem dX12_person_79 : decode cX12_person 79 = .ok (.getfield 98, 3) := by decide +kernel
theorem dX12_person_82 : decode cX12_person 82 = .ok (.bipush 122, 2) := by decide +kernel
theorem dX12_person_84 : decode cX12_person 84 = .ok (.iload_n 1, 1) := by decide +kernel
theorem dX12_person_85 : decode cX12_person 85 = .ok (.iadd, 1) := by decide +kernel
theorem dX12_person_86 : decode cX12_person 86 = .ok (.iaload, 1) := by decide +kernel
theorem dX12_person_87 : decode cX12_person 87 = .ok (.ireturn, 1) := by decide +kernel
theorem dX12_person_88 : decode cX12_person 88 = .ok (.aload_n 0, 1) := by decide +kernel
theorem dX12_person_89 : decode cX12_person 89 = .ok (.aload_n 0, 1) := by decide +kernel
theorem dX12_person_90 : decode cX12_person 90 = .ok (.getfield 98, 3) := by decide +kernel
theorem dX12_person_93 : decode cX12_person 93 = .ok (.bipush 116, 2) := by decide +kernel
theorem dX12_person_95 : decode cX12_person 95 = .ok (.iload_n 1, 1) := by decide +kernel
theorem dX12_person_96 : decode cX12_person 96 = .ok (.iadd, 1) := by decide +kernel
theorem dX12_person_97 : decode cX12_person 97 = .ok (.iaload, 1) := by decide +kernel
theorem dX12_person_98 : decode cX12_person 98 = .ok (.invokevirtual 265, 3) := by decide +kernel
theorem dX12_person_101 : decode cX12_person 101 = .ok (.ireturn, 1) := by decide +kernel
theorem dX12_person_102 : decode cX12_person 102 = .ok (.iconst 0, 1) := by decide +kernel
theorem dX12_person_103 : decode cX12_person 103 = .ok (.istore_n 3, 1) := by decide +kernel
theorem dX12_person_104 : decode cX12_person 104 = .ok (.iconst 0, 1) := by decide +kernel
theorem dX12_person_105 : decode cX12_person 105 = .ok (.istore 4, 2) := by decide +kernel
theorem dX12_person_107 : decode cX12_person 107 = .ok (.iload 4, 2) := by decide +kernel
theorem dX12_person_109 : decode cX12_person 109 = .ok (.iconst 4, 1) := by decide +kernel
theorem dX12_person_110 : decode cX12_person 110 = .ok (.if_icmp .ge 26, 3) := by decide +kernel
theorem dX12_person_113 : decode cX12_person 113 = .ok (.aload_n 0, 1) := by decide +kernel
theorem dX12_person_114 : decode cX12_person 114 = .ok (.iload_n 1, 1) := by decide +kernel
theorem dX12_person_115 : decode cX12_person 115 = .ok (.iload 4, 2) := by decide +kernel
theorem dX12_person_117 : decode cX12_person 117 = .ok (.invokevirtual 283, 3) := by decide +kernel
theorem dX12_person_120 : decode cX12_person 120 = .ok (.ifCond .ne 10, 3) := by decide +kernel
theorem dX12_person_123 : decode cX12_person 123 = .ok (.iload_n 3, 1) := by decide +kernel
theorem dX12_person_124 : decode cX12_person 124 = .ok (.iconst 1, 1) := by decide +kernel
theorem dX12_person_125 : decode cX12_person 125 = .ok (.iload 4, 2) := by decide +kernel
theorem dX12_person_127 : decode cX12_person 127 = .ok (.ishl, 1) := by decide +kernel
theorem dX12_person_128 : decode cX12_person 128 = .ok (.ior, 1) := by decide +kernel
theorem dX12_person_129 : decode cX12_person 129 = .ok (.istore_n 3, 1) := by decide +kernel
theorem dX12_person_130 : decode cX12_person 130 = .ok (.iinc 4 1, 3) := by decide +kernel
theorem dX12_person_133 : decode cX12_person 133 = .ok (.goto (-26), 3) := by decide +kernel
theorem dX12_person_136 : decode cX12_person 136 = .ok (.iload_n 3, 1) := by decide +kernel
theorem dX12_person_137 : decode cX12_person 137 = .ok (.ireturn, 1) := by decide +kernel
theorem dX12_person_138 : decode cX12_person 138 = .ok (.aload_n 0, 1) := by decide +kernel
theorem dX12_person_139 : decode cX12_person 139 = .ok (.invokevirtual 271, 3) := by decide +kernel
theorem dX12_person_142 : decode cX12_person 142 = .ok (.ireturn, 1) := by decide +kernel
theorem dX12_personsAt_0 : decode cX12_personsAt 0 = .ok (.iconst 0, 1) := by decide +kernel
theorem dX12_personsAt_1 : decode cX12_personsAt 1 = .ok (.istore_n 2, 1) := by decide +kernel
theorem dX12_personsAt_2 : decode cX12_personsAt 2 = .ok (.iconst 0, 1) := by decide +kernel
theorem dX12_personsAt_3 : decode cX12_personsAt 3 = .ok (.istore_n 3, 1) := by decide +kernel
theorem dX12_personsAt_4 : decode cX12_personsAt 4 = .ok (.iload_n 3, 1) := by decide +kernel
theorem dX12_personsAt_5 : decode cX12_personsAt 5 = .ok (.aload_n 0, 1) := by decide +kernel
theorem dX12_personsAt_6 : decode cX12_personsAt 6 = .ok (.getfield 98, 3) := by decide +kernel
theorem dX12_personsAt_9 : decode cX12_personsAt 9 = .ok (.iconst 3, 1) := by decide +kernel
theorem dX12_personsAt_10 : decode cX12_personsAt 10 = .ok (.iaload, 1) := by decide +kernel
theorem dX12_personsAt_11 : decode cX12_personsAt 11 = .ok (.if_icmp .ge 28, 3) := by decide +kernel
theorem dX12_personsAt_14 : decode cX12_personsAt 14 = .ok (.aload_n 0, 1) := by decide +kernel
theorem dX12_personsAt_15 : decode cX12_personsAt 15 = .ok (.getfield 98, 3) := by decide +kernel
theorem dX12_personsAt_18 : decode cX12_personsAt 18 = .ok (.bipush 116, 2) := by decide +kernel
theorem dX12_personsAt_20 : decode cX12_personsAt 20 = .ok (.iload_n 3, 1) := by decide +kernel
theorem dX12_personsAt_21 : decode cX12_personsAt 21 = .ok (.iadd, 1) := by decide +kernel
theorem dX12_personsAt_22 : decode cX12_personsAt 22 = .ok (.iaload, 1) := by decide +kernel
theorem dX12_personsAt_23 : decode cX12_personsAt 23 = .ok (.iload_n 1, 1) := by decide +kernel
theorem dX12_personsAt_24 : decode cX12_personsAt 24 = .ok (.if_icmp .ne 9, 3) := by decide +kernel
theorem dX12_personsAt_27 : decode cX12_personsAt 27 = .ok (.iload_n 2, 1) := by decide +kernel
theorem dX12_personsAt_28 : decode cX12_personsAt 28 = .ok (.iconst 1, 1) := by decide +kernel
theorem dX12_personsAt_29 : decode cX12_personsAt 29 = .ok (.iload_n 3, 1) := by decide +kernel
theorem dX12_personsAt_30 : decode cX12_personsAt 30 = .ok (.ishl, 1) := by decide +kernel
theorem dX12_personsAt_31 : decode cX12_personsAt 31 = .ok (.ior, 1) := by decide +kernel
theorem dX12_personsAt_32 : decode cX12_personsAt 32 = .ok (.istore_n 2, 1) := by decide +kernel
theorem dX12_personsAt_33 : decode cX12_personsAt 33 = .ok (.iinc 3 1, 3) := by decide +kernel
theorem dX12_personsAt_36 : decode cX12_personsAt 36 = .ok (.goto (-32), 3) := by decide +kernel
theorem dX12_personsAt_39 : decode cX12_personsAt 39 = .ok (.iload_n 2, 1) := by decide +kernel
theorem dX12_personsAt_40 : decode cX12_personsAt 40 = .ok (.ireturn, 1) := by decide +kernel
theorem dX12_put_0 : decode cX12_put 0 = .ok (.iload_n 2, 1) := by decide +kernel
theorem dX12_put_1 : decode cX12_put 1 = .ok (.ifCond .eq 13, 3) := by decide +kernel
theorem dX12_put_4 : decode cX12_put 4 = .ok (.aload_n 0, 1) := by decide +kernel
theorem dX12_put_5 : decode cX12_put 5 = .ok (.getfield 101, 3) := by decide +kernel
theorem dX12_put_8 : decode cX12_put 8 = .ok (.iload_n 1, 1) := by decide +kernel
theorem dX12_put_9 : decode cX12_put 9 = .ok (.aload_n 0, 1) := by decide +kernel
theorem dX12_put_10 : decode cX12_put 10 = .ok (.getfield 79, 3) := by decide +kernel
theorem dX12_put_13 : decode cX12_put 13 = .ok (.iastore, 1) := by decide +kernel
theorem dX12_put_14 : decode cX12_put 14 = .ok (.iload_n 2, 1) := by decide +kernel
theorem dX12_put_15 : decode cX12_put 15 = .ok (.ireturn, 1) := by decide +kernel
theorem dX12_readAnd_0 : decode cX12_readAnd 0 = .ok (.aload_n 0, 1) := by decide +kernel
theorem dX12_readAnd_1 : decode cX12_readAnd 1 = .ok (.invokevirtual 425, 3) := by decide +kernel
theorem dX12_readAnd_4 : decode cX12_readAnd 4 = .ok (.ifCond .ne 5, 3) := by decide +kernel
theorem dX12_readAnd_7 : decode cX12_readAnd 7 = .ok (.iconst 0, 1) := by decide +kernel
theorem dX12_readAnd_8 : decode cX12_readAnd 8 = .ok (.ireturn, 1) := by decide +kernel
theorem dX12_readAnd_9 : decode cX12_readAnd 9 = .ok (.aload_n 0, 1) := by decide +kernel
theorem dX12_readAnd_10 : decode cX12_readAnd 10 = .ok (.getfield 418, 3) := by decide +kernel
theorem dX12_readAnd_13 : decode cX12_readAnd 13 = .ok (.istore_n 1, 1) := by decide +kernel
theorem dX12_readAnd_14 : decode cX12_readAnd 14 = .ok (.aload_n 0, 1) := by decide +kernel
theorem dX12_readAnd_15 : decode cX12_readAnd 15 = .ok (.bipush 14, 2) := by decide +kernel
theorem dX12_readAnd_17 : decode cX12_readAnd 17 = .ok (.invokevirtual 174, 3) := by decide +kernel
theorem dX12_readAnd_20 : decode cX12_readAnd 20 = .ok (.ifCond .eq 31, 3) := by decide +kernel
theorem dX12_readAnd_23 : decode cX12_readAnd 23 = .ok (.aload_n 0, 1) := by decide +kernel
theorem dX12_readAnd_24 : decode cX12_readAnd 24 = .ok (.invokevirtual 82, 3) := by decide +kernel
theorem dX12_readAnd_27 : decode cX12_readAnd 27 = .ok (.aload_n 0, 1) := by decide +kernel
theorem dX12_readAnd_28 : decode cX12_readAnd 28 = .ok (.invokevirtual 425, 3) := by decide +kernel
theorem dX12_readAnd_31 : decode cX12_readAnd 31 = .ok (.ifCond .ne 5, 3) := by decide +kernel
theorem dX12_readAnd_34 : decode cX12_readAnd 34 = .ok (.iconst 0, 1) := by decide +kernel
theorem dX12_readAnd_35 : decode cX12_readAnd 35 = .ok (.ireturn, 1) := by decide +kernel
theorem dX12_readAnd_36 : decode cX12_readAnd 36 = .ok (.aload_n 0, 1) := by decide +kernel
theorem dX12_readAnd_37 : decode cX12_readAnd 37 = .ok (.iconst 2, 1) := by decide +kernel
theorem dX12_readAnd_38 : decode cX12_readAnd 38 = .ok (.iload_n 1, 1) := by decide +kernel
theorem dX12_readAnd_39 : decode cX12_readAnd 39 = .ok (.aload_n 0, 1) := by decide +kernel
theorem dX12_readAnd_40 : decode cX12_readAnd 40 = .ok (.getfield 418, 3) := by decide +kernel
theorem dX12_readAnd_43 : decode cX12_readAnd 43 = .ok (.iconst 0, 1) := by decide +kernel
theorem dX12_readAnd_44 : decode cX12_readAnd 44 = .ok (.invokevirtual 421, 3) := by decide +kernel
theorem dX12_readAnd_47 : decode cX12_readAnd 47 = .ok (.istore_n 1, 1) := by decide +kernel
theorem dX12_readAnd_48 : decode cX12_readAnd 48 = .ok (.goto (-34), 3) := by decide +kernel
theorem dX12_readAnd_51 : decode cX12_readAnd 51 = .ok (.aload_n 0, 1) := by decide +kernel
theorem dX12_readAnd_52 : decode cX12_readAnd 52 = .ok (.iload_n 1, 1) := by decide +kernel
theorem dX12_readAnd_53 : decode cX12_readAnd 53 = .ok (.putfield 418, 3) := by decide +kernel
theorem dX12_readAnd_56 : decode cX12_readAnd 56 = .ok (.iconst 1, 1) := by decide +kernel
theorem dX12_readAnd_57 : decode cX12_readAnd 57 = .ok (.ireturn, 1) := by decide +kernel
theorem dX12_readBookLine_0 : decode cX12_readBookLine 0 = .ok (.aload_n 0, 1) := by decide +kernel
theorem dX12_readBookLine_1 : decode cX12_readBookLine 1 = .ok (.bipush 12, 2) := by decide +kernel
theorem dX12_readBookLine_3 : decode cX12_readBookLine 3 = .ok (.invokevirtual 174, 3) := by decide +kernel
theorem dX12_readBookLine_6 : decode cX12_readBookLine 6 = .ok (.ifCond .eq 7, 3) := by decide +kernel
theorem dX12_readBookLine_9 : decode cX12_readBookLine 9 = .ok (.iconst 4, 1) := by decide +kernel
theorem dX12_readBookLine_10 : decode cX12_readBookLine 10 = .ok (.goto 4, 3) := by decide +kernel
theorem dX12_readBookLine_13 : decode cX12_readBookLine 13 = .ok (.iconst 0, 1) := by decide +kernel
theorem dX12_readBookLine_14 : decode cX12_readBookLine 14 = .ok (.istore_n 1, 1) := by decide +kernel
theorem dX12_readBookLine_15 : decode cX12_readBookLine 15 = .ok (.iconst 1, 1) := by decide +kernel
theorem dX12_readBookLine_16 : decode cX12_readBookLine 16 = .ok (.istore_n 2, 1) := by decide +kernel
theorem dX12_readBookLine_17 : decode cX12_readBookLine 17 = .ok (.iload_n 2, 1) := by decide +kernel
theorem dX12_readBookLine_18 : decode cX12_readBookLine 18 = .ok (.iconst 3, 1) := by decide +kernel
theorem dX12_readBookLine_19 : decode cX12_readBookLine 19 = .ok (.if_icmp .gt 24, 3) := by decide +kernel
theorem dX12_readBookLine_22 : decode cX12_readBookLine 22 = .ok (.aload_n 0, 1) := by decide +kernel
theorem dX12_readBookLine_23 : decode cX12_readBookLine 23 = .ok (.bipush 9, 2) := by decide +kernel
theorem dX12_readBookLine_25 : decode cX12_readBookLine 25 = .ok (.iload_n 2, 1) := by decide +kernel
theorem dX12_readBookLine_26 : decode cX12_readBookLine 26 = .ok (.iadd, 1) := by decide +kernel
theorem dX12_readBookLine_27 : decode cX12_readBookLine 27 = .ok (.iconst 1, 1) := by decide +kernel
theorem dX12_readBookLine_28 : decode cX12_readBookLine 28 = .ok (.isub, 1) := by decide +kernel
theorem dX12_readBookLine_29 : decode cX12_readBookLine 29 = .ok (.invokevirtual 174, 3) := by decide +kernel
theorem dX12_readBookLine_32 : decode cX12_readBookLine 32 = .ok (.ifCond .eq 5, 3) := by decide +kernel
theorem dX12_readBookLine_35 : decode cX12_readBookLine 35 = .ok (.iload_n 2, 1) := by decide +kernel
theorem dX12_readBookLine_36 : decode cX12_readBookLine 36 = .ok (.istore_n 1, 1) := by decide +kernel
theorem dX12_readBookLine_37 : decode cX12_readBookLine 37 = .ok (.iinc 2 1, 3) := by decide +kernel
theorem dX12_readBookLine_40 : decode cX12_readBookLine 40 = .ok (.goto (-23), 3) := by decide +kernel
theorem dX12_readBookLine_43 : decode cX12_readBookLine 43 = .ok (.iload_n 1, 1) := by decide +kernel
theorem dX12_readBookLine_44 : decode cX12_readBookLine 44 = .ok (.ifCond .ne 44, 3) := by decide +kernel
theorem dX12_readBookLine_47 : decode cX12_readBookLine 47 = .ok (.aload_n 0, 1) := by decide +kernel
theorem dX12_readBookLine_48 : decode cX12_readBookLine 48 = .ok (.invokevirtual 166, 3) := by decide +kernel
theorem dX12_readBookLine_51 : decode cX12_readBookLine 51 = .ok (.ifCond .ne 9, 3) := by decide +kernel
theorem dX12_readBookLine_54 : decode cX12_readBookLine 54 = .ok (.aload_n 0, 1) := by decide +kernel
theorem dX12_readBookLine_55 : decode cX12_readBookLine 55 = .ok (.iconst 1, 1) := by decide +kernel
theorem dX12_readBookLine_56 : decode cX12_readBookLine 56 = .ok (.invokevirtual 72, 3) := by decide +kernel
theorem dX12_readBookLine_59 : decode cX12_readBookLine 59 = .ok (.ireturn, 1) := by decide +kernel
theorem dX12_readBookLine_60 : decode cX12_readBookLine 60 = .ok (.aload_n 0, 1) := by decide +kernel
theorem dX12_readBookLine_61 : decode cX12_readBookLine 61 = .ok (.getfield 113, 3) := by decide +kernel
theorem dX12_readBookLine_64 : decode cX12_readBookLine 64 = .ok (.iconst 5, 1) := by decide +kernel
theorem dX12_readBookLine_65 : decode cX12_readBookLine 65 = .ok (.aload_n 0, 1) := by decide +kernel
theorem dX12_readBookLine_66 : decode cX12_readBookLine 66 = .ok (.getfield 98, 3) := by decide +kernel
theorem dX12_readBookLine_69 : decode cX12_readBookLine 69 = .ok (.iconst 3, 1) := by decide +kernel
theorem dX12_readBookLine_70 : decode cX12_readBookLine 70 = .ok (.iaload, 1) := by decide +kernel
theorem dX12_readBookLine_71 : decode cX12_readBookLine 71 = .ok (.aload_n 0, 1) := by decide +kernel
theorem dX12_readBookLine_72 : decode cX12_readBookLine 72 = .ok (.getfield 43, 3) := by decide +kernel
theorem dX12_readBookLine_75 : decode cX12_readBookLine 75 = .ok (.invokestatic 170, 3) := by decide +kernel
theorem dX12_readBookLine_78 : decode cX12_readBookLine 78 = .ok (.iconst (-1), 1) := by decide +kernel
theorem dX12_readBookLine_79 : decode cX12_readBookLine 79 = .ok (.if_icmp .ne 9, 3) := by decide +kernel
theorem dX12_readBookLine_82 : decode cX12_readBookLine 82 = .ok (.aload_n 0, 1) := by decide +kernel
theorem dX12_readBookLine_83 : decode cX12_readBookLine 83 = .ok (.iconst 3, 1) := by decide +kernel
theorem dX12_readBookLine_84 : decode cX12_readBookLine 84 = .ok (.invokevirtual 72, 3) := by decide +kernel
theorem dX12_readBookLine_87 : decode cX12_readBookLine 87 = .ok (.ireturn, 1) := by decide +kernel
theorem dX12_readBookLine_88 : decode cX12_readBookLine 88 = .ok (.aload_n 0, 1) := by decide +kernel
theorem dX12_readBookLine_89 : decode cX12_readBookLine 89 = .ok (.getfield 390, 3) := by decide +kernel
theorem dX12_readBookLine_92 : decode cX12_readBookLine 92 = .ok (.bipush 40, 2) := by decide +kernel
theorem dX12_readBookLine_94 : decode cX12_readBookLine 94 = .ok (.if_icmp .ne 9, 3) := by decide +kernel
theorem dX12_readBookLine_97 : decode cX12_readBookLine 97 = .ok (.aload_n 0, 1) := by decide +kernel
theorem dX12_readBookLine_98 : decode cX12_readBookLine 98 = .ok (.iconst 4, 1) := by decide +kernel
theorem dX12_readBookLine_99 : decode cX12_readBookLine 99 = .ok (.invokevirtual 72, 3) := by decide +kernel
theorem dX12_readBookLine_102 : decode cX12_readBookLine 102 = .ok (.ireturn, 1) := by decide +kernel
theorem dX12_readBookLine_103 : decode cX12_readBookLine 103 = .ok (.iconst 3, 1) := by decide +kernel
theorem dX12_readBookLine_104 : decode cX12_readBookLine 104 = .ok (.aload_n 0, 1) := by decide +kernel
theorem dX12_readBookLine_105 : decode cX12_readBookLine 105 = .ok (.getfield 390, 3) := by decide +kernel
theorem dX12_readBookLine_108 : decode cX12_readBookLine 108 = .ok (.imul, 1) := by decide +kernel
theorem dX12_readBookLine_109 : decode cX12_readBookLine 109 = .ok (.istore_n 2, 1) := by decide +kernel
theorem dX12_readBookLine_110 : decode cX12_readBookLine 110 = .ok (.aload_n 0, 1) := by decide +kernel
theorem dX12_readBookLine_111 : decode cX12_readBookLine 111 = .ok (.getfield 154, 3) := by decide +kernel
theorem dX12_readBookLine_114 : decode cX12_readBookLine 114 = .ok (.iload_n 2, 1) := by decide +kernel
theorem dX12_readBookLine_115 : decode cX12_readBookLine 115 = .ok (.iload_n 1, 1) := by decide +kernel
theorem dX12_readBookLine_116 : decode cX12_readBookLine 116 = .ok (.iastore, 1) := by decide +kernel
theorem dX12_readBookLine_117 : decode cX12_readBookLine 117 = .ok (.aload_n 0, 1) := by decide +kernel
theorem dX12_readBookLine_118 : decode cX12_readBookLine 118 = .ok (.getfield 154, 3) := by decide +kernel
theorem dX12_readBookLine_121 : decode cX12_readBookLine 121 = .ok (.iload_n 2, 1) := by decide +kernel
theorem dX12_readBookLine_122 : decode cX12_readBookLine 122 = .ok (.iconst 1, 1) := by decide +kernel
theorem dX12_readBookLine_123 : decode cX12_readBookLine 123 = .ok (.iadd, 1) := by decide +kernel
theorem dX12_readBookLine_124 : decode cX12_readBookLine 124 = .ok (.iload_n 1, 1) := by decide +kernel
theorem dX12_readBookLine_125 : decode cX12_readBookLine 125 = .ok (.ifCond .ne 24, 3) := by decide +kernel
theorem dX12_readBookLine_128 : decode cX12_readBookLine 128 = .ok (.aload_n 0, 1) := by decide +kernel
theorem dX12_readBookLine_129 : decode cX12_readBookLine 129 = .ok (.getfield 113, 3) := by decide +kernel
theorem dX12_readBookLine_132 : decode cX12_readBookLine 132 = .ok (.iconst 5, 1) := by decide +kernel
theorem dX12_readBookLine_133 : decode cX12_readBookLine 133 = .ok (.aload_n 0, 1) := by decide +kernel
theorem dX12_readBookLine_134 : decode cX12_readBookLine 134 = .ok (.getfield 98, 3) := by decide +kernel
theorem dX12_readBookLine_137 : decode cX12_readBookLine 137 = .ok (.iconst 3, 1) := by decide +kernel
theorem dX12_readBookLine_138 : decode cX12_readBookLine 138 = .ok (.iaload, 1) := by decide +kernel
theorem dX12_readBookLine_139 : decode cX12_readBookLine 139 = .ok (.aload_n 0, 1) := by decide +kernel
theorem dX12_readBookLine_140 : decode cX12_readBookLine 140 = .ok (.getfield 43, 3) := by decide +kernel
theorem dX12_readBookLine_143 : decode cX12_readBookLine 143 = .ok (.invokestatic 170, 3) := by decide +kernel
theorem dX12_readBookLine_146 : decode cX12_readBookLine 146 = .ok (.goto 4, 3) := by decide +kernel
theorem dX12_readBookLine_149 : decode cX12_readBookLine 149 = .ok (.iconst 0, 1) := by decide +kernel
theorem dX12_readBookLine_150 : decode cX12_readBookLine 150 = .ok (.iastore, 1) := by decide +kernel
theorem dX12_readBookLine_151 : decode cX12_readBookLine 151 = .ok (.aload_n 0, 1) := by decide +kernel
theorem dX12_readBookLine_152 : decode cX12_readBookLine 152 = .ok (.getfield 154, 3) := by decide +kernel
theorem dX12_readBookLine_155 : decode cX12_readBookLine 155 = .ok (.iload_n 2, 1) := by decide +kernel
theorem dX12_readBookLine_156 : decode cX12_readBookLine 156 = .ok (.iconst 2, 1) := by decide +kernel
theorem dX12_readBookLine_157 : decode cX12_readBookLine 157 = .ok (.iadd, 1) := by decide +kernel
theorem dX12_readBookLine_158 : decode cX12_readBookLine 158 = .ok (.iconst 0, 1) := by decide +kernel
theorem dX12_readBookLine_159 : decode cX12_readBookLine 159 = .ok (.iastore, 1) := by decide +kernel
theorem dX12_readBookLine_160 : decode cX12_readBookLine 160 = .ok (.aload_n 0, 1) := by decide +kernel
theorem dX12_readBookLine_161 : decode cX12_readBookLine 161 = .ok (.invokevirtual 82, 3) := by decide +kernel
theorem dX12_readBookLine_164 : decode cX12_readBookLine 164 = .ok (.iload_n 1, 1) := by decide +kernel
theorem dX12_readBookLine_165 : decode cX12_readBookLine 165 = .ok (.tableswitch 113 0 3 #[31, 58, 58, 79], 31) := by decide +kernel
theorem dX12_readBookLine_196 : decode cX12_readBookLine 196 = .ok (.aload_n 0, 1) := by decide +kernel
theorem dX12_readBookLine_197 : decode cX12_readBookLine 197 = .ok (.iload_n 2, 1) := by decide +kernel
theorem dX12_readBookLine_198 : decode cX12_readBookLine 198 = .ok (.iconst 2, 1) := by decide +kernel
theorem dX12_readBookLine_199 : decode cX12_readBookLine 199 = .ok (.iadd, 1) := by decide +kernel
theorem dX12_readBookLine_200 : decode cX12_readBookLine 200 = .ok (.aload_n 0, 1) := by decide +kernel
theorem dX12_readBookLine_201 : decode cX12_readBookLine 201 = .ok (.invokevirtual 205, 3) := by decide +kernel
theorem dX12_readBookLine_204 : decode cX12_readBookLine 204 = .ok (.invokevirtual 387, 3) := by decide +kernel
theorem dX12_readBookLine_207 : decode cX12_readBookLine 207 = .ok (.ifCond .eq 14, 3) := by decide +kernel
theorem dX12_readBookLine_210 : decode cX12_readBookLine 210 = .ok (.aload_n 0, 1) := by decide +kernel
theorem dX12_readBookLine_211 : decode cX12_readBookLine 211 = .ok (.invokevirtual 229, 3) := by decide +kernel
theorem dX12_readBookLine_214 : decode cX12_readBookLine 214 = .ok (.ifCond .eq 7, 3) := by decide +kernel
theorem dX12_readBookLine_217 : decode cX12_readBookLine 217 = .ok (.iconst 1, 1) := by decide +kernel
theorem dX12_readBookLine_218 : decode cX12_readBookLine 218 = .ok (.goto 4, 3) := by decide +kernel
theorem dX12_readBookLine_221 : decode cX12_readBookLine 221 = .ok (.iconst 0, 1) := by decide +kernel
theorem dX12_readBookLine_222 : decode cX12_readBookLine 222 = .ok (.ireturn, 1) := by decide +kernel
theorem dX12_readBookLine_223 : decode cX12_readBookLine 223 = .ok (.aload_n 0, 1) := by decide +kernel
theorem dX12_readBookLine_224 : decode cX12_readBookLine 224 = .ok (.iload_n 2, 1) := by decide +kernel
theorem dX12_readBookLine_225 : decode cX12_readBookLine 225 = .ok (.invokevirtual 393, 3) := by decide +kernel
theorem dX12_readBookLine_228 : decode cX12_readBookLine 228 = .ok (.ifCond .eq 14, 3) := by decide +kernel
theorem dX12_readBookLine_231 : decode cX12_readBookLine 231 = .ok (.aload_n 0, 1) := by decide +kernel
theorem dX12_readBookLine_232 : decode cX12_readBookLine 232 = .ok (.invokevirtual 229, 3) := by decide +kernel
theorem dX12_readBookLine_235 : decode cX12_readBookLine 235 = .ok (.ifCond .eq 7, 3) := by decide +kernel
theorem dX12_readBookLine_238 : decode cX12_readBookLine 238 = .ok (.iconst 1, 1) := by decide +kernel
theorem dX12_readBookLine_239 : decode cX12_readBookLine 239 = .ok (.goto 4, 3) := by decide +kernel
theorem dX12_readBookLine_242 : decode cX12_readBookLine 242 = .ok (.iconst 0, 1) := by decide +kernel
theorem dX12_readBookLine_243 : decode cX12_readBookLine 243 = .ok (.ireturn, 1) := by decide +kernel
theorem dX12_readBookLine_244 : decode cX12_readBookLine 244 = .ok (.aload_n 0, 1) := by decide +kernel
theorem dX12_readBookLine_245 : decode cX12_readBookLine 245 = .ok (.iload_n 2, 1) := by decide +kernel
theorem dX12_readBookLine_246 : decode cX12_readBookLine 246 = .ok (.iconst 1, 1) := by decide +kernel
theorem dX12_readBookLine_247 : decode cX12_readBookLine 247 = .ok (.iadd, 1) := by decide +kernel
theorem dX12_readBookLine_248 : decode cX12_readBookLine 248 = .ok (.aload_n 0, 1) := by decide +kernel
theorem dX12_readBookLine_249 : decode cX12_readBookLine 249 = .ok (.iconst 0, 1) := by decide +kernel
theorem dX12_readBookLine_250 : decode cX12_readBookLine 250 = .ok (.aload_n 0, 1) := by decide +kernel
theorem dX12_readBookLine_251 : decode cX12_readBookLine 251 = .ok (.getfield 98, 3) := by decide +kernel
theorem dX12_readBookLine_254 : decode cX12_readBookLine 254 = .ok (.iconst 2, 1) := by decide +kernel
theorem dX12_readBookLine_255 : decode cX12_readBookLine 255 = .ok (.iaload, 1) := by decide +kernel
theorem dX12_readBookLine_256 : decode cX12_readBookLine 256 = .ok (.invokevirtual 396, 3) := by decide +kernel
theorem dX12_readBookLine_259 : decode cX12_readBookLine 259 = .ok (.invokevirtual 387, 3) := by decide +kernel
theorem dX12_readBookLine_262 : decode cX12_readBookLine 262 = .ok (.ifCond .eq 14, 3) := by decide +kernel
theorem dX12_readBookLine_265 : decode cX12_readBookLine 265 = .ok (.aload_n 0, 1) := by decide +kernel
theorem dX12_readBookLine_266 : decode cX12_readBookLine 266 = .ok (.invokevirtual 229, 3) := by decide +kernel
theorem dX12_readBookLine_269 : decode cX12_readBookLine 269 = .ok (.ifCond .eq 7, 3) := by decide +kernel
theorem dX12_readBookLine_272 : decode cX12_readBookLine 272 = .ok (.iconst 1, 1) := by decide +kernel
theorem dX12_readBookLine_273 : decode cX12_readBookLine 273 = .ok (.goto 4, 3) := by decide +kernel
theorem dX12_readBookLine_276 : decode cX12_readBookLine 276 = .ok (.iconst 0, 1) := by decide +kernel
theorem dX12_readBookLine_277 : decode cX12_readBookLine 277 = .ok (.ireturn, 1) := by decide +kernel
theorem dX12_readBookLine_278 : decode cX12_readBookLine 278 = .ok (.aload_n 0, 1) := by decide +kernel
theorem dX12_readBookLine_279 : decode cX12_readBookLine 279 = .ok (.iload_n 2, 1) := by decide +kernel
theorem dX12_readBookLine_280 : decode cX12_readBookLine 280 = .ok (.iconst 1, 1) := by decide +kernel
theorem dX12_readBookLine_281 : decode cX12_readBookLine 281 = .ok (.iadd, 1) := by decide +kernel
theorem dX12_readBookLine_282 : decode cX12_readBookLine 282 = .ok (.aload_n 0, 1) := by decide +kernel
theorem dX12_readBookLine_283 : decode cX12_readBookLine 283 = .ok (.iconst 1, 1) := by decide +kernel
theorem dX12_readBookLine_284 : decode cX12_readBookLine 284 = .ok (.bipush 60, 2) := by decide +kernel
theorem dX12_readBookLine_286 : decode cX12_readBookLine 286 = .ok (.invokevirtual 184, 3) := by decide +kernel
theorem dX12_readBookLine_289 : decode cX12_readBookLine 289 = .ok (.invokevirtual 387, 3) := by decide +kernel
theorem dX12_readBookLine_292 : decode cX12_readBookLine 292 = .ok (.ifCond .eq 14, 3) := by decide +kernel
theorem dX12_readBookLine_295 : decode cX12_readBookLine 295 = .ok (.aload_n 0, 1) := by decide +kernel
theorem dX12_readBookLine_296 : decode cX12_readBookLine 296 = .ok (.invokevirtual 229, 3) := by decide +kernel
theorem dX12_readBookLine_299 : decode cX12_readBookLine 299 = .ok (.ifCond .eq 7, 3) := by decide +kernel
theorem dX12_readBookLine_302 : decode cX12_readBookLine 302 = .ok (.iconst 1, 1) := by decide +kernel
theorem dX12_readBookLine_303 : decode cX12_readBookLine 303 = .ok (.goto 4, 3) := by decide +kernel
theorem dX12_readBookLine_306 : decode cX12_readBookLine 306 = .ok (.iconst 0, 1) := by decide +kernel
theorem dX12_readBookLine_307 : decode cX12_readBookLine 307 = .ok (.ireturn, 1) := by decide +kernel
theorem dX12_readBracket_0 : decode cX12_readBracket 0 = .ok (.aload_n 0, 1) := by decide +kernel
theorem dX12_readBracket_1 : decode cX12_readBracket 1 = .ok (.invokevirtual 446, 3) := by decide +kernel
theorem dX12_readBracket_4 : decode cX12_readBracket 4 = .ok (.ifCond .ne 5, 3) := by decide +kernel
theorem dX12_readBracket_7 : decode cX12_readBracket 7 = .ok (.iconst 0, 1) := by decide +kernel
theorem dX12_readBracket_8 : decode cX12_readBracket 8 = .ok (.ireturn, 1) := by decide +kernel
theorem dX12_readBracket_9 : decode cX12_readBracket 9 = .ok (.aload_n 0, 1) := by decide +kernel
theorem dX12_readBracket_10 : decode cX12_readBracket 10 = .ok (.bipush 41, 2) := by decide +kernel
theorem dX12_readBracket_12 : decode cX12_readBracket 12 = .ok (.invokevirtual 86, 3) := by decide +kernel
theorem dX12_readBracket_15 : decode cX12_readBracket 15 = .ok (.ifCond .ne 9, 3) := by decide +kernel
theorem dX12_readBracket_18 : decode cX12_readBracket 18 = .ok (.aload_n 0, 1) := by decide +kernel
theorem dX12_readBracket_19 : decode cX12_readBracket 19 = .ok (.iconst 1, 1) := by decide +kernel
theorem dX12_readBracket_20 : decode cX12_readBracket 20 = .ok (.invokevirtual 72, 3) := by decide +kernel
theorem dX12_readBracket_23 : decode cX12_readBracket 23 = .ok (.ireturn, 1) := by decide +kernel
theorem dX12_readBracket_24 : decode cX12_readBracket 24 = .ok (.aload_n 0, 1) := by decide +kernel
theorem dX12_readBracket_25 : decode cX12_readBracket 25 = .ok (.invokevirtual 82, 3) := by decide +kernel
theorem dX12_readBracket_28 : decode cX12_readBracket 28 = .ok (.iconst 1, 1) := by decide +kernel
theorem dX12_readBracket_29 : decode cX12_readBracket 29 = .ok (.ireturn, 1) := by decide +kernel
theorem dX12_readCell_0 : decode cX12_readCell 0 = .ok (.aload_n 0, 1) := by decide +kernel
theorem dX12_readCell_1 : decode cX12_readCell 1 = .ok (.iconst 1, 1) := by decide +kernel
theorem dX12_readCell_2 : decode cX12_readCell 2 = .ok (.putfield 181, 3) := by decide +kernel
theorem dX12_readCell_5 : decode cX12_readCell 5 = .ok (.aload_n 0, 1) := by decide +kernel
theorem dX12_readCell_6 : decode cX12_readCell 6 = .ok (.iconst 0, 1) := by decide +kernel
theorem dX12_readCell_7 : decode cX12_readCell 7 = .ok (.aload_n 0, 1) := by decide +kernel
theorem dX12_readCell_8 : decode cX12_readCell 8 = .ok (.getfield 101, 3) := by decide +kernel
theorem dX12_readCell_11 : decode cX12_readCell 11 = .ok (.iconst 0, 1) := by decide +kernel
theorem dX12_readCell_12 : decode cX12_readCell 12 = .ok (.iaload, 1) := by decide +kernel
theorem dX12_readCell_13 : decode cX12_readCell 13 = .ok (.iconst 1, 1) := by decide +kernel
theorem dX12_readCell_14 : decode cX12_readCell 14 = .ok (.isub, 1) := by decide +kernel
theorem dX12_readCell_15 : decode cX12_readCell 15 = .ok (.invokevirtual 184, 3) := by decide +kernel
theorem dX12_readCell_18 : decode cX12_readCell 18 = .ok (.ifCond .ne 5, 3) := by decide +kernel
theorem dX12_readCell_21 : decode cX12_readCell 21 = .ok (.iconst 0, 1) := by decide +kernel
theorem dX12_readCell_22 : decode cX12_readCell 22 = .ok (.ireturn, 1) := by decide +kernel
theorem dX12_readCell_23 : decode cX12_readCell 23 = .ok (.aload_n 0, 1) := by decide +kernel
theorem dX12_readCell_24 : decode cX12_readCell 24 = .ok (.getfield 79, 3) := by decide +kernel
theorem dX12_readCell_27 : decode cX12_readCell 27 = .ok (.istore_n 2, 1) := by decide +kernel
theorem dX12_readCell_28 : decode cX12_readCell 28 = .ok (.aload_n 0, 1) := by decide +kernel
theorem dX12_readCell_29 : decode cX12_readCell 29 = .ok (.getfield 30, 3) := by decide +kernel
theorem dX12_readCell_32 : decode cX12_readCell 32 = .ok (.iconst 3, 1) := by decide +kernel
theorem dX12_readCell_33 : decode cX12_readCell 33 = .ok (.if_icmp .eq 9, 3) := by decide +kernel
theorem dX12_readCell_36 : decode cX12_readCell 36 = .ok (.aload_n 0, 1) := by decide +kernel
theorem dX12_readCell_37 : decode cX12_readCell 37 = .ok (.iconst 1, 1) := by decide +kernel
theorem dX12_readCell_38 : decode cX12_readCell 38 = .ok (.invokevirtual 72, 3) := by decide +kernel
theorem dX12_readCell_41 : decode cX12_readCell 41 = .ok (.ireturn, 1) := by decide +kernel
theorem dX12_readCell_42 : decode cX12_readCell 42 = .ok (.aload_n 0, 1) := by decide +kernel
theorem dX12_readCell_43 : decode cX12_readCell 43 = .ok (.getfield 47, 3) := by decide +kernel
theorem dX12_readCell_46 : decode cX12_readCell 46 = .ok (.iconst 0, 1) := by decide +kernel
theorem dX12_readCell_47 : decode cX12_readCell 47 = .ok (.aload_n 0, 1) := by decide +kernel
theorem dX12_readCell_48 : decode cX12_readCell 48 = .ok (.getfield 101, 3) := by decide +kernel
theorem dX12_readCell_51 : decode cX12_readCell 51 = .ok (.iconst 1, 1) := by decide +kernel
theorem dX12_readCell_52 : decode cX12_readCell 52 = .ok (.iaload, 1) := by decide +kernel
theorem dX12_readCell_53 : decode cX12_readCell 53 = .ok (.iconst 1, 1) := by decide +kernel
theorem dX12_readCell_54 : decode cX12_readCell 54 = .ok (.isub, 1) := by decide +kernel
theorem dX12_readCell_55 : decode cX12_readCell 55 = .ok (.invokestatic 75, 3) := by decide +kernel
theorem dX12_readCell_58 : decode cX12_readCell 58 = .ok (.ifCond .ne 9, 3) := by decide +kernel
theorem dX12_readCell_61 : decode cX12_readCell 61 = .ok (.aload_n 0, 1) := by decide +kernel
theorem dX12_readCell_62 : decode cX12_readCell 62 = .ok (.iconst 2, 1) := by decide +kernel
theorem dX12_readCell_63 : decode cX12_readCell 63 = .ok (.invokevirtual 72, 3) := by decide +kernel
theorem dX12_readCell_66 : decode cX12_readCell 66 = .ok (.ireturn, 1) := by decide +kernel
theorem dX12_readCell_67 : decode cX12_readCell 67 = .ok (.aload_n 0, 1) := by decide +kernel
theorem dX12_readCell_68 : decode cX12_readCell 68 = .ok (.bipush 8, 2) := by decide +kernel
theorem dX12_readCell_70 : decode cX12_readCell 70 = .ok (.aload_n 0, 1) := by decide +kernel
theorem dX12_readCell_71 : decode cX12_readCell 71 = .ok (.getfield 47, 3) := by decide +kernel
theorem dX12_readCell_74 : decode cX12_readCell 74 = .ok (.imul, 1) := by decide +kernel
theorem dX12_readCell_75 : decode cX12_readCell 75 = .ok (.iload_n 2, 1) := by decide +kernel
theorem dX12_readCell_76 : decode cX12_readCell 76 = .ok (.iadd, 1) := by decide +kernel
theorem dX12_readCell_77 : decode cX12_readCell 77 = .ok (.putfield 79, 3) := by decide +kernel
theorem dX12_readCell_80 : decode cX12_readCell 80 = .ok (.aload_n 0, 1) := by decide +kernel
theorem dX12_readCell_81 : decode cX12_readCell 81 = .ok (.aload_n 0, 1) := by decide +kernel
theorem dX12_readCell_82 : decode cX12_readCell 82 = .ok (.getfield 79, 3) := by decide +kernel
theorem dX12_readCell_85 : decode cX12_readCell 85 = .ok (.iload_n 1, 1) := by decide +kernel
theorem dX12_readCell_86 : decode cX12_readCell 86 = .ok (.invokevirtual 192, 3) := by decide +kernel
theorem dX12_readCell_89 : decode cX12_readCell 89 = .ok (.ifCond .eq 9, 3) := by decide +kernel
theorem dX12_readCell_92 : decode cX12_readCell 92 = .ok (.aload_n 0, 1) := by decide +kernel
theorem dX12_readCell_93 : decode cX12_readCell 93 = .ok (.iconst 3, 1) := by decide +kernel
theorem dX12_readCell_94 : decode cX12_readCell 94 = .ok (.invokevirtual 72, 3) := by decide +kernel
theorem dX12_readCell_97 : decode cX12_readCell 97 = .ok (.ireturn, 1) := by decide +kernel
theorem dX12_readCell_98 : decode cX12_readCell 98 = .ok (.aload_n 0, 1) := by decide +kernel
theorem dX12_readCell_99 : decode cX12_readCell 99 = .ok (.invokevirtual 82, 3) := by decide +kernel
theorem dX12_readCell_102 : decode cX12_readCell 102 = .ok (.iconst 1, 1) := by decide +kernel
theorem dX12_readCell_103 : decode cX12_readCell 103 = .ok (.ireturn, 1) := by decide +kernel
theorem dX12_readCompare_0 : decode cX12_readCompare 0 = .ok (.aload_n 0, 1) := by decide +kernel
theorem dX12_readCompare_1 : decode cX12_readCompare 1 = .ok (.bipush 60, 2) := by decide +kernel
theorem dX12_readCompare_3 : decode cX12_readCompare 3 = .ok (.invokevirtual 86, 3) := by decide +kernel
theorem dX12_readCompare_6 : decode cX12_readCompare 6 = .ok (.ifCond .ne 27, 3) := by decide +kernel
theorem dX12_readCompare_9 : decode cX12_readCompare 9 = .ok (.aload_n 0, 1) := by decide +kernel
theorem dX12_readCompare_10 : decode cX12_readCompare 10 = .ok (.bipush 61, 2) := by decide +kernel
theorem dX12_readCompare_12 : decode cX12_readCompare 12 = .ok (.invokevirtual 86, 3) := by decide +kernel
theorem dX12_readCompare_15 : decode cX12_readCompare 15 = .ok (.ifCond .ne 18, 3) := by decide +kernel
theorem dX12_readCompare_18 : decode cX12_readCompare 18 = .ok (.aload_n 0, 1) := by decide +kernel
theorem dX12_readCompare_19 : decode cX12_readCompare 19 = .ok (.bipush 62, 2) := by decide +kernel
theorem dX12_readCompare_21 : decode cX12_readCompare 21 = .ok (.invokevirtual 86, 3) := by decide +kernel
theorem dX12_readCompare_24 : decode cX12_readCompare 24 = .ok (.ifCond .ne 9, 3) := by decide +kernel
theorem dX12_readCompare_27 : decode cX12_readCompare 27 = .ok (.aload_n 0, 1) := by decide +kernel
theorem dX12_readCompare_28 : decode cX12_readCompare 28 = .ok (.iconst 1, 1) := by decide +kernel
theorem dX12_readCompare_29 : decode cX12_readCompare 29 = .ok (.invokevirtual 72, 3) := by decide +kernel
theorem dX12_readCompare_32 : decode cX12_readCompare 32 = .ok (.ireturn, 1) := by decide +kernel
theorem dX12_readCompare_33 : decode cX12_readCompare 33 = .ok (.aload_n 0, 1) := by decide +kernel
theorem dX12_readCompare_34 : decode cX12_readCompare 34 = .ok (.getfield 40, 3) := by decide +kernel
theorem dX12_readCompare_37 : decode cX12_readCompare 37 = .ok (.istore_n 2, 1) := by decide +kernel
theorem dX12_readCompare_38 : decode cX12_readCompare 38 = .ok (.aload_n 0, 1) := by decide +kernel
theorem dX12_readCompare_39 : decode cX12_readCompare 39 = .ok (.invokevirtual 82, 3) := by decide +kernel
theorem dX12_readCompare_42 : decode cX12_readCompare 42 = .ok (.aload_n 0, 1) := by decide +kernel
theorem dX12_readCompare_43 : decode cX12_readCompare 43 = .ok (.iconst 0, 1) := by decide +kernel
theorem dX12_readCompare_44 : decode cX12_readCompare 44 = .ok (.sipush 999, 3) := by decide +kernel
theorem dX12_readCompare_47 : decode cX12_readCompare 47 = .ok (.invokevirtual 184, 3) := by decide +kernel
theorem dX12_readCompare_50 : decode cX12_readCompare 50 = .ok (.ifCond .ne 5, 3) := by decide +kernel
theorem dX12_readCompare_53 : decode cX12_readCompare 53 = .ok (.iconst 0, 1) := by decide +kernel
theorem dX12_readCompare_54 : decode cX12_readCompare 54 = .ok (.ireturn, 1) := by decide +kernel
theorem dX12_readCompare_55 : decode cX12_readCompare 55 = .ok (.aload_n 0, 1) := by decide +kernel
theorem dX12_readCompare_56 : decode cX12_readCompare 56 = .ok (.aload_n 0, 1) := by decide +kernel
theorem dX12_readCompare_57 : decode cX12_readCompare 57 = .ok (.bipush 50, 2) := by decide +kernel
theorem dX12_readCompare_59 : decode cX12_readCompare 59 = .ok (.iload_n 1, 1) := by decide +kernel
theorem dX12_readCompare_60 : decode cX12_readCompare 60 = .ok (.iadd, 1) := by decide +kernel
theorem dX12_readCompare_61 : decode cX12_readCompare 61 = .ok (.iconst 0, 1) := by decide +kernel
theorem dX12_readCompare_62 : decode cX12_readCompare 62 = .ok (.aload_n 0, 1) := by decide +kernel
theorem dX12_readCompare_63 : decode cX12_readCompare 63 = .ok (.getfield 79, 3) := by decide +kernel
theorem dX12_readCompare_66 : decode cX12_readCompare 66 = .ok (.iload_n 2, 1) := by decide +kernel
theorem dX12_readCompare_67 : decode cX12_readCompare 67 = .ok (.invokevirtual 421, 3) := by decide +kernel
theorem dX12_readCompare_70 : decode cX12_readCompare 70 = .ok (.putfield 418, 3) := by decide +kernel
theorem dX12_readCompare_73 : decode cX12_readCompare 73 = .ok (.iconst 1, 1) := by decide +kernel
theorem dX12_readCompare_74 : decode cX12_readCompare 74 = .ok (.ireturn, 1) := by decide +kernel
theorem dX12_readEnd_0 : decode cX12_readEnd 0 = .ok (.aload_n 0, 1) := by decide +kernel
theorem dX12_readEnd_1 : decode cX12_readEnd 1 = .ok (.bipush 59, 2) := by decide +kernel
theorem dX12_readEnd_3 : decode cX12_readEnd 3 = .ok (.invokevirtual 86, 3) := by decide +kernel
theorem dX12_readEnd_6 : decode cX12_readEnd 6 = .ok (.ifCond .ne 9, 3) := by decide +kernel
theorem dX12_readEnd_9 : decode cX12_readEnd 9 = .ok (.aload_n 0, 1) := by decide +kernel
theorem dX12_readEnd_10 : decode cX12_readEnd 10 = .ok (.iconst 1, 1) := by decide +kernel
theorem dX12_readEnd_11 : decode cX12_readEnd 11 = .ok (.invokevirtual 72, 3) := by decide +kernel
theorem dX12_readEnd_14 : decode cX12_readEnd 14 = .ok (.ireturn, 1) := by decide +kernel
theorem dX12_readEnd_15 : decode cX12_readEnd 15 = .ok (.aload_n 0, 1) := by decide +kernel
theorem dX12_readEnd_16 : decode cX12_readEnd 16 = .ok (.invokevirtual 82, 3) := by decide +kernel
theorem dX12_readEnd_19 : decode cX12_readEnd 19 = .ok (.iconst 1, 1) := by decide +kernel
theorem dX12_readEnd_20 : decode cX12_readEnd 20 = .ok (.ireturn, 1) := by decide +kernel
theorem dX12_readFirst_0 : decode cX12_readFirst 0 = .ok (.aload_n 0, 1) := by decide +kernel
theorem dX12_readFirst_1 : decode cX12_readFirst 1 = .ok (.getfield 101, 3) := by decide +kernel
theorem dX12_readFirst_4 : decode cX12_readFirst 4 = .ok (.iload_n 1, 1) := by decide +kernel
theorem dX12_readFirst_5 : decode cX12_readFirst 5 = .ok (.iaload, 1) := by decide +kernel
theorem dX12_readFirst_6 : decode cX12_readFirst 6 = .ok (.iload_n 2, 1) := by decide +kernel
theorem dX12_readFirst_7 : decode cX12_readFirst 7 = .ok (.if_icmp .ne 9, 3) := by decide +kernel
theorem dX12_readFirst_10 : decode cX12_readFirst 10 = .ok (.aload_n 0, 1) := by decide +kernel
theorem dX12_readFirst_11 : decode cX12_readFirst 11 = .ok (.iconst 4, 1) := by decide +kernel
theorem dX12_readFirst_12 : decode cX12_readFirst 12 = .ok (.invokevirtual 72, 3) := by decide +kernel
theorem dX12_readFirst_15 : decode cX12_readFirst 15 = .ok (.ireturn, 1) := by decide +kernel
theorem dX12_readFirst_16 : decode cX12_readFirst 16 = .ok (.aload_n 0, 1) := by decide +kernel
theorem dX12_readFirst_17 : decode cX12_readFirst 17 = .ok (.invokevirtual 82, 3) := by decide +kernel
theorem dX12_readFirst_20 : decode cX12_readFirst 20 = .ok (.iconst 1, 1) := by decide +kernel
theorem dX12_readFirst_21 : decode cX12_readFirst 21 = .ok (.ireturn, 1) := by decide +kernel
theorem dX12_readGround_0 : decode cX12_readGround 0 = .ok (.aload_n 0, 1) := by decide +kernel
theorem dX12_readGround_1 : decode cX12_readGround 1 = .ok (.getfield 177, 3) := by decide +kernel
theorem dX12_readGround_4 : decode cX12_readGround 4 = .ok (.ifCond .ne 10, 3) := by decide +kernel
theorem dX12_readGround_7 : decode cX12_readGround 7 = .ok (.aload_n 0, 1) := by decide +kernel
theorem dX12_readGround_8 : decode cX12_readGround 8 = .ok (.getfield 181, 3) := by decide +kernel
theorem dX12_readGround_11 : decode cX12_readGround 11 = .ok (.ifCond .eq 9, 3) := by decide +kernel
theorem dX12_readGround_14 : decode cX12_readGround 14 = .ok (.aload_n 0, 1) := by decide +kernel
theorem dX12_readGround_15 : decode cX12_readGround 15 = .ok (.iconst 3, 1) := by decide +kernel
theorem dX12_readGround_16 : decode cX12_readGround 16 = .ok (.invokevirtual 72, 3) := by decide +kernel
theorem dX12_readGround_19 : decode cX12_readGround 19 = .ok (.ireturn, 1) := by decide +kernel
theorem dX12_readGround_20 : decode cX12_readGround 20 = .ok (.aload_n 0, 1) := by decide +kernel
theorem dX12_readGround_21 : decode cX12_readGround 21 = .ok (.iconst 1, 1) := by decide +kernel
theorem dX12_readGround_22 : decode cX12_readGround 22 = .ok (.putfield 177, 3) := by decide +kernel
theorem dX12_readGround_25 : decode cX12_readGround 25 = .ok (.aload_n 0, 1) := by decide +kernel
theorem dX12_readGround_26 : decode cX12_readGround 26 = .ok (.invokevirtual 82, 3) := by decide +kernel
theorem dX12_readGround_29 : decode cX12_readGround 29 = .ok (.aload_n 0, 1) := by decide +kernel
theorem dX12_readGround_30 : decode cX12_readGround 30 = .ok (.iconst 0, 1) := by decide +kernel
theorem dX12_readGround_31 : decode cX12_readGround 31 = .ok (.aload_n 0, 1) := by decide +kernel
theorem dX12_readGround_32 : decode cX12_readGround 32 = .ok (.iconst 2, 1) := by decide +kernel
theorem dX12_readGround_33 : decode cX12_readGround 33 = .ok (.bipush 8, 2) := by decide +kernel
theorem dX12_readGround_35 : decode cX12_readGround 35 = .ok (.invokevirtual 184, 3) := by decide +kernel
theorem dX12_readGround_38 : decode cX12_readGround 38 = .ok (.invokevirtual 188, 3) := by decide +kernel
theorem dX12_readGround_41 : decode cX12_readGround 41 = .ok (.ifCond .eq 22, 3) := by decide +kernel
theorem dX12_readGround_44 : decode cX12_readGround 44 = .ok (.aload_n 0, 1) := by decide +kernel
theorem dX12_readGround_45 : decode cX12_readGround 45 = .ok (.iconst 1, 1) := by decide +kernel
theorem dX12_readGround_46 : decode cX12_readGround 46 = .ok (.aload_n 0, 1) := by decide +kernel
theorem dX12_readGround_47 : decode cX12_readGround 47 = .ok (.iconst 2, 1) := by decide +kernel
theorem dX12_readGround_48 : decode cX12_readGround 48 = .ok (.bipush 8, 2) := by decide +kernel
theorem dX12_readGround_50 : decode cX12_readGround 50 = .ok (.invokevirtual 184, 3) := by decide +kernel
theorem dX12_readGround_53 : decode cX12_readGround 53 = .ok (.invokevirtual 188, 3) := by decide +kernel
theorem dX12_readGround_56 : decode cX12_readGround 56 = .ok (.ifCond .eq 7, 3) := by decide +kernel
theorem dX12_readGround_59 : decode cX12_readGround 59 = .ok (.iconst 1, 1) := by decide +kernel
theorem dX12_readGround_60 : decode cX12_readGround 60 = .ok (.goto 4, 3) := by decide +kernel
theorem dX12_readGround_63 : decode cX12_readGround 63 = .ok (.iconst 0, 1) := by decide +kernel
theorem dX12_readGround_64 : decode cX12_readGround 64 = .ok (.ireturn, 1) := by decide +kernel
theorem dX12_readHouse_0 : decode cX12_readHouse 0 = .ok (.aload_n 0, 1) := by decide +kernel
theorem dX12_readHouse_1 : decode cX12_readHouse 1 = .ok (.iconst 2, 1) := by decide +kernel
theorem dX12_readHouse_2 : decode cX12_readHouse 2 = .ok (.iconst 5, 1) := by decide +kernel
theorem dX12_readHouse_3 : decode cX12_readHouse 3 = .ok (.invokevirtual 199, 3) := by decide +kernel
theorem dX12_readHouse_6 : decode cX12_readHouse 6 = .ok (.ifCond .ne 5, 3) := by decide +kernel
theorem dX12_readHouse_9 : decode cX12_readHouse 9 = .ok (.iconst 0, 1) := by decide +kernel
theorem dX12_readHouse_10 : decode cX12_readHouse 10 = .ok (.ireturn, 1) := by decide +kernel
theorem dX12_readHouse_11 : decode cX12_readHouse 11 = .ok (.aload_n 0, 1) := by decide +kernel
theorem dX12_readHouse_12 : decode cX12_readHouse 12 = .ok (.getfield 101, 3) := by decide +kernel
theorem dX12_readHouse_15 : decode cX12_readHouse 15 = .ok (.iconst 2, 1) := by decide +kernel
theorem dX12_readHouse_16 : decode cX12_readHouse 16 = .ok (.iaload, 1) := by decide +kernel
theorem dX12_readHouse_17 : decode cX12_readHouse 17 = .ok (.istore_n 1, 1) := by decide +kernel
theorem dX12_readHouse_18 : decode cX12_readHouse 18 = .ok (.aload_n 0, 1) := by decide +kernel
theorem dX12_readHouse_19 : decode cX12_readHouse 19 = .ok (.iload_n 1, 1) := by decide +kernel
theorem dX12_readHouse_20 : decode cX12_readHouse 20 = .ok (.invokevirtual 202, 3) := by decide +kernel
theorem dX12_readHouse_23 : decode cX12_readHouse 23 = .ok (.ifCond .eq 54, 3) := by decide +kernel
theorem dX12_readHouse_26 : decode cX12_readHouse 26 = .ok (.aload_n 0, 1) := by decide +kernel
theorem dX12_readHouse_27 : decode cX12_readHouse 27 = .ok (.iconst 5, 1) := by decide +kernel
theorem dX12_readHouse_28 : decode cX12_readHouse 28 = .ok (.iload_n 1, 1) := by decide +kernel
theorem dX12_readHouse_29 : decode cX12_readHouse 29 = .ok (.iadd, 1) := by decide +kernel
theorem dX12_readHouse_30 : decode cX12_readHouse 30 = .ok (.aload_n 0, 1) := by decide +kernel
theorem dX12_readHouse_31 : decode cX12_readHouse 31 = .ok (.iconst 0, 1) := by decide +kernel
theorem dX12_readHouse_32 : decode cX12_readHouse 32 = .ok (.invokevirtual 195, 3) := by decide +kernel
theorem dX12_readHouse_35 : decode cX12_readHouse 35 = .ok (.invokevirtual 188, 3) := by decide +kernel
theorem dX12_readHouse_38 : decode cX12_readHouse 38 = .ok (.ifCond .eq 39, 3) := by decide +kernel
theorem dX12_readHouse_41 : decode cX12_readHouse 41 = .ok (.aload_n 0, 1) := by decide +kernel
theorem dX12_readHouse_42 : decode cX12_readHouse 42 = .ok (.bipush 10, 2) := by decide +kernel
theorem dX12_readHouse_44 : decode cX12_readHouse 44 = .ok (.iload_n 1, 1) := by decide +kernel
theorem dX12_readHouse_45 : decode cX12_readHouse 45 = .ok (.iadd, 1) := by decide +kernel
theorem dX12_readHouse_46 : decode cX12_readHouse 46 = .ok (.aload_n 0, 1) := by decide +kernel
theorem dX12_readHouse_47 : decode cX12_readHouse 47 = .ok (.iconst 1, 1) := by decide +kernel
theorem dX12_readHouse_48 : decode cX12_readHouse 48 = .ok (.bipush 9, 2) := by decide +kernel
theorem dX12_readHouse_50 : decode cX12_readHouse 50 = .ok (.invokevirtual 184, 3) := by decide +kernel
theorem dX12_readHouse_53 : decode cX12_readHouse 53 = .ok (.invokevirtual 188, 3) := by decide +kernel
theorem dX12_readHouse_56 : decode cX12_readHouse 56 = .ok (.ifCond .eq 21, 3) := by decide +kernel
theorem dX12_readHouse_59 : decode cX12_readHouse 59 = .ok (.aload_n 0, 1) := by decide +kernel
theorem dX12_readHouse_60 : decode cX12_readHouse 60 = .ok (.bipush 15, 2) := by decide +kernel
theorem dX12_readHouse_62 : decode cX12_readHouse 62 = .ok (.iload_n 1, 1) := by decide +kernel
theorem dX12_readHouse_63 : decode cX12_readHouse 63 = .ok (.iadd, 1) := by decide +kernel
theorem dX12_readHouse_64 : decode cX12_readHouse 64 = .ok (.aload_n 0, 1) := by decide +kernel
theorem dX12_readHouse_65 : decode cX12_readHouse 65 = .ok (.iconst 0, 1) := by decide +kernel
theorem dX12_readHouse_66 : decode cX12_readHouse 66 = .ok (.bipush 99, 2) := by decide +kernel
theorem dX12_readHouse_68 : decode cX12_readHouse 68 = .ok (.invokevirtual 184, 3) := by decide +kernel
theorem dX12_readHouse_71 : decode cX12_readHouse 71 = .ok (.invokevirtual 188, 3) := by decide +kernel
theorem dX12_readHouse_74 : decode cX12_readHouse 74 = .ok (.ifCond .ne 5, 3) := by decide +kernel
theorem dX12_readHouse_77 : decode cX12_readHouse 77 = .ok (.iconst 0, 1) := by decide +kernel
theorem dX12_readHouse_78 : decode cX12_readHouse 78 = .ok (.ireturn, 1) := by decide +kernel
theorem dX12_readHouse_79 : decode cX12_readHouse 79 = .ok (.aload_n 0, 1) := by decide +kernel
theorem dX12_readHouse_80 : decode cX12_readHouse 80 = .ok (.getfield 101, 3) := by decide +kernel
theorem dX12_readHouse_83 : decode cX12_readHouse 83 = .ok (.iconst 2, 1) := by decide +kernel
theorem dX12_readHouse_84 : decode cX12_readHouse 84 = .ok (.dup2, 1) := by decide +kernel
theorem dX12_readHouse_85 : decode cX12_readHouse 85 = .ok (.iaload, 1) := by decide +kernel
theorem dX12_readHouse_86 : decode cX12_readHouse 86 = .ok (.iconst 1, 1) := by decide +kernel
theorem dX12_readHouse_87 : decode cX12_readHouse 87 = .ok (.iadd, 1) := by decide +kernel
theorem dX12_readHouse_88 : decode cX12_readHouse 88 = .ok (.iastore, 1) := by decide +kernel
theorem dX12_readHouse_89 : decode cX12_readHouse 89 = .ok (.iconst 1, 1) := by decide +kernel
theorem dX12_readHouse_90 : decode cX12_readHouse 90 = .ok (.ireturn, 1) := by decide +kernel
theorem dX12_readHouseName_0 : decode cX12_readHouseName 0 = .ok (.aload_n 0, 1) := by decide +kernel
theorem dX12_readHouseName_1 : decode cX12_readHouseName 1 = .ok (.iconst 0, 1) := by decide +kernel
theorem dX12_readHouseName_2 : decode cX12_readHouseName 2 = .ok (.aload_n 0, 1) := by decide +kernel
theorem dX12_readHouseName_3 : decode cX12_readHouseName 3 = .ok (.getfield 98, 3) := by decide +kernel
theorem dX12_readHouseName_6 : decode cX12_readHouseName 6 = .ok (.iconst 2, 1) := by decide +kernel
theorem dX12_readHouseName_7 : decode cX12_readHouseName 7 = .ok (.iaload, 1) := by decide +kernel
theorem dX12_readHouseName_8 : decode cX12_readHouseName 8 = .ok (.invokevirtual 396, 3) := by decide +kernel
theorem dX12_readHouseName_11 : decode cX12_readHouseName 11 = .ok (.ireturn, 1) := by decide +kernel
theorem dX12_readLine_0 : decode cX12_readLine 0 = .ok (.aload_n 0, 1) := by decide +kernel
theorem dX12_readLine_1 : decode cX12_readLine 1 = .ok (.iconst 0, 1) := by decide +kernel
theorem dX12_readLine_2 : decode cX12_readLine 2 = .ok (.invokevirtual 174, 3) := by decide +kernel
theorem dX12_readLine_5 : decode cX12_readLine 5 = .ok (.ifCond .eq 8, 3) := by decide +kernel
theorem dX12_readLine_8 : decode cX12_readLine 8 = .ok (.aload_n 0, 1) := by decide +kernel
theorem dX12_readLine_9 : decode cX12_readLine 9 = .ok (.invokevirtual 208, 3) := by decide +kernel
theorem dX12_readLine_12 : decode cX12_readLine 12 = .ok (.ireturn, 1) := by decide +kernel
theorem dX12_readLine_13 : decode cX12_readLine 13 = .ok (.aload_n 0, 1) := by decide +kernel
theorem dX12_readLine_14 : decode cX12_readLine 14 = .ok (.iconst 1, 1) := by decide +kernel
theorem dX12_readLine_15 : decode cX12_readLine 15 = .ok (.invokevirtual 174, 3) := by decide +kernel
theorem dX12_readLine_18 : decode cX12_readLine 18 = .ok (.ifCond .eq 8, 3) := by decide +kernel
theorem dX12_readLine_21 : decode cX12_readLine 21 = .ok (.aload_n 0, 1) := by decide +kernel
theorem dX12_readLine_22 : decode cX12_readLine 22 = .ok (.invokevirtual 211, 3) := by decide +kernel
theorem dX12_readLine_25 : decode cX12_readLine 25 = .ok (.ireturn, 1) := by decide +kernel
theorem dX12_readLine_26 : decode cX12_readLine 26 = .ok (.aload_n 0, 1) := by decide +kernel
theorem dX12_readLine_27 : decode cX12_readLine 27 = .ok (.iconst 2, 1) := by decide +kernel
theorem dX12_readLine_28 : decode cX12_readLine 28 = .ok (.invokevirtual 174, 3) := by decide +kernel
theorem dX12_readLine_31 : decode cX12_readLine 31 = .ok (.ifCond .eq 8, 3) := by decide +kernel
theorem dX12_readLine_34 : decode cX12_readLine 34 = .ok (.aload_n 0, 1) := by decide +kernel
theorem dX12_readLine_35 : decode cX12_readLine 35 = .ok (.invokevirtual 214, 3) := by decide +kernel
theorem dX12_readLine_38 : decode cX12_readLine 38 = .ok (.ireturn, 1) := by decide +kernel
theorem dX12_readLine_39 : decode cX12_readLine 39 = .ok (.aload_n 0, 1) := by decide +kernel
theorem dX12_readLine_40 : decode cX12_readLine 40 = .ok (.iconst 3, 1) := by decide +kernel
theorem dX12_readLine_41 : decode cX12_readLine 41 = .ok (.invokevirtual 174, 3) := by decide +kernel
theorem dX12_readLine_44 : decode cX12_readLine 44 = .ok (.ifCond .eq 8, 3) := by decide +kernel
theorem dX12_readLine_47 : decode cX12_readLine 47 = .ok (.aload_n 0, 1) := by decide +kernel
theorem dX12_readLine_48 : decode cX12_readLine 48 = .ok (.invokevirtual 217, 3) := by decide +kernel
theorem dX12_readLine_51 : decode cX12_readLine 51 = .ok (.ireturn, 1) := by decide +kernel
theorem dX12_readLine_52 : decode cX12_readLine 52 = .ok (.aload_n 0, 1) := by decide +kernel
theorem dX12_readLine_53 : decode cX12_readLine 53 = .ok (.iconst 4, 1) := by decide +kernel
theorem dX12_readLine_54 : decode cX12_readLine 54 = .ok (.invokevirtual 174, 3) := by decide +kernel
theorem dX12_readLine_57 : decode cX12_readLine 57 = .ok (.ifCond .eq 10, 3) := by decide +kernel
theorem dX12_readLine_60 : decode cX12_readLine 60 = .ok (.aload_n 0, 1) := by decide +kernel
theorem dX12_readLine_61 : decode cX12_readLine 61 = .ok (.invokevirtual 220, 3) := by decide +kernel
theorem dX12_readLine_64 : decode cX12_readLine 64 = .ok (.goto 8, 3) := by decide +kernel
theorem dX12_readLine_67 : decode cX12_readLine 67 = .ok (.aload_n 0, 1) := by decide +kernel
theorem dX12_readLine_68 : decode cX12_readLine 68 = .ok (.iconst 1, 1) := by decide +kernel
theorem dX12_readLine_69 : decode cX12_readLine 69 = .ok (.invokevirtual 72, 3) := by decide +kernel
theorem dX12_readLine_72 : decode cX12_readLine 72 = .ok (.ireturn, 1) := by decide +kernel
theorem dX12_readNamed_0 : decode cX12_readNamed 0 = .ok (.aload_n 0, 1) := by decide +kernel
theorem dX12_readNamed_1 : decode cX12_readNamed 1 = .ok (.invokevirtual 166, 3) := by decide +kernel
theorem dX12_readNamed_4 : decode cX12_readNamed 4 = .ok (.ifCond .ne 9, 3) := by decide +kernel
theorem dX12_readNamed_7 : decode cX12_readNamed 7 = .ok (.aload_n 0, 1) := by decide +kernel
theorem dX12_readNamed_8 : decode cX12_readNamed 8 = .ok (.iconst 1, 1) := by decide +kernel
theorem dX12_readNamed_9 : decode cX12_readNamed 9 = .ok (.invokevirtual 72, 3) := by decide +kernel
theorem dX12_readNamed_12 : decode cX12_readNamed 12 = .ok (.ireturn, 1) := by decide +kernel
theorem dX12_readNamed_13 : decode cX12_readNamed 13 = .ok (.aload_n 0, 1) := by decide +kernel
theorem dX12_readNamed_14 : decode cX12_readNamed 14 = .ok (.aload_n 0, 1) := by decide +kernel
theorem dX12_readNamed_15 : decode cX12_readNamed 15 = .ok (.getfield 113, 3) := by decide +kernel
theorem dX12_readNamed_18 : decode cX12_readNamed 18 = .ok (.iload_n 1, 1) := by decide +kernel
theorem dX12_readNamed_19 : decode cX12_readNamed 19 = .ok (.iload_n 2, 1) := by decide +kernel
theorem dX12_readNamed_20 : decode cX12_readNamed 20 = .ok (.aload_n 0, 1) := by decide +kernel
theorem dX12_readNamed_21 : decode cX12_readNamed 21 = .ok (.getfield 43, 3) := by decide +kernel
theorem dX12_readNamed_24 : decode cX12_readNamed 24 = .ok (.invokestatic 170, 3) := by decide +kernel
theorem dX12_readNamed_27 : decode cX12_readNamed 27 = .ok (.putfield 79, 3) := by decide +kernel
theorem dX12_readNamed_30 : decode cX12_readNamed 30 = .ok (.aload_n 0, 1) := by decide +kernel
theorem dX12_readNamed_31 : decode cX12_readNamed 31 = .ok (.getfield 79, 3) := by decide +kernel
theorem dX12_readNamed_34 : decode cX12_readNamed 34 = .ok (.iconst (-1), 1) := by decide +kernel
theorem dX12_readNamed_35 : decode cX12_readNamed 35 = .ok (.if_icmp .ne 9, 3) := by decide +kernel
theorem dX12_readNamed_38 : decode cX12_readNamed 38 = .ok (.aload_n 0, 1) := by decide +kernel
theorem dX12_readNamed_39 : decode cX12_readNamed 39 = .ok (.iconst 3, 1) := by decide +kernel
theorem dX12_readNamed_40 : decode cX12_readNamed 40 = .ok (.invokevirtual 72, 3) := by decide +kernel
theorem dX12_readNamed_43 : decode cX12_readNamed 43 = .ok (.ireturn, 1) := by decide +kernel
theorem dX12_readNamed_44 : decode cX12_readNamed 44 = .ok (.aload_n 0, 1) := by decide +kernel
theorem dX12_readNamed_45 : decode cX12_readNamed 45 = .ok (.invokevirtual 82, 3) := by decide +kernel
theorem dX12_readNamed_48 : decode cX12_readNamed 48 = .ok (.iconst 1, 1) := by decide +kernel
theorem dX12_readNamed_49 : decode cX12_readNamed 49 = .ok (.ireturn, 1) := by decide +kernel
theorem dX12_readNew_0 : decode cX12_readNew 0 = .ok (.aload_n 0, 1) := by decide +kernel
theorem dX12_readNew_1 : decode cX12_readNew 1 = .ok (.invokevirtual 166, 3) := by decide +kernel
theorem dX12_readNew_4 : decode cX12_readNew 4 = .ok (.ifCond .ne 9, 3) := by decide +kernel
theorem dX12_readNew_7 : decode cX12_readNew 7 = .ok (.aload_n 0, 1) := by decide +kernel
theorem dX12_readNew_8 : decode cX12_readNew 8 = .ok (.iconst 1, 1) := by decide +kernel
theorem dX12_readNew_9 : decode cX12_readNew 9 = .ok (.invokevirtual 72, 3) := by decide +kernel
theorem dX12_readNew_12 : decode cX12_readNew 12 = .ok (.ireturn, 1) := by decide +kernel
theorem dX12_readNew_13 : decode cX12_readNew 13 = .ok (.aload_n 0, 1) := by decide +kernel
theorem dX12_readNew_14 : decode cX12_readNew 14 = .ok (.getfield 117, 3) := by decide +kernel
theorem dX12_readNew_17 : decode cX12_readNew 17 = .ok (.iconst 0, 1) := by decide +kernel
theorem dX12_readNew_18 : decode cX12_readNew 18 = .ok (.aload_n 0, 1) := by decide +kernel
theorem dX12_readNew_19 : decode cX12_readNew 19 = .ok (.getfield 101, 3) := by decide +kernel
theorem dX12_readNew_22 : decode cX12_readNew 22 = .ok (.iconst 2, 1) := by decide +kernel
theorem dX12_readNew_23 : decode cX12_readNew 23 = .ok (.iaload, 1) := by decide +kernel
theorem dX12_readNew_24 : decode cX12_readNew 24 = .ok (.aload_n 0, 1) := by decide +kernel
theorem dX12_readNew_25 : decode cX12_readNew 25 = .ok (.getfield 43, 3) := by decide +kernel
theorem dX12_readNew_28 : decode cX12_readNew 28 = .ok (.invokestatic 170, 3) := by decide +kernel
theorem dX12_readNew_31 : decode cX12_readNew 31 = .ok (.iconst (-1), 1) := by decide +kernel
theorem dX12_readNew_32 : decode cX12_readNew 32 = .ok (.if_icmp .ne 25, 3) := by decide +kernel
theorem dX12_readNew_35 : decode cX12_readNew 35 = .ok (.aload_n 0, 1) := by decide +kernel
theorem dX12_readNew_36 : decode cX12_readNew 36 = .ok (.getfield 117, 3) := by decide +kernel
theorem dX12_readNew_39 : decode cX12_readNew 39 = .ok (.iconst 5, 1) := by decide +kernel
theorem dX12_readNew_40 : decode cX12_readNew 40 = .ok (.aload_n 0, 1) := by decide +kernel
theorem dX12_readNew_41 : decode cX12_readNew 41 = .ok (.getfield 101, 3) := by decide +kernel
theorem dX12_readNew_44 : decode cX12_readNew 44 = .ok (.iconst 3, 1) := by decide +kernel
theorem dX12_readNew_45 : decode cX12_readNew 45 = .ok (.iaload, 1) := by decide +kernel
theorem dX12_readNew_46 : decode cX12_readNew 46 = .ok (.aload_n 0, 1) := by decide +kernel
theorem dX12_readNew_47 : decode cX12_readNew 47 = .ok (.getfield 43, 3) := by decide +kernel
theorem dX12_readNew_50 : decode cX12_readNew 50 = .ok (.invokestatic 170, 3) := by decide +kernel
theorem dX12_readNew_53 : decode cX12_readNew 53 = .ok (.iconst (-1), 1) := by decide +kernel
theorem dX12_readNew_54 : decode cX12_readNew 54 = .ok (.if_icmp .eq 9, 3) := by decide +kernel
theorem dX12_readNew_57 : decode cX12_readNew 57 = .ok (.aload_n 0, 1) := by decide +kernel
theorem dX12_readNew_58 : decode cX12_readNew 58 = .ok (.iconst 3, 1) := by decide +kernel
theorem dX12_readNew_59 : decode cX12_readNew 59 = .ok (.invokevirtual 72, 3) := by decide +kernel
theorem dX12_readNew_62 : decode cX12_readNew 62 = .ok (.ireturn, 1) := by decide +kernel
theorem dX12_readNew_63 : decode cX12_readNew 63 = .ok (.aload_n 0, 1) := by decide +kernel
theorem dX12_readNew_64 : decode cX12_readNew 64 = .ok (.getfield 117, 3) := by decide +kernel
theorem dX12_readNew_67 : decode cX12_readNew 67 = .ok (.iload_n 1, 1) := by decide +kernel
theorem dX12_readNew_68 : decode cX12_readNew 68 = .ok (.aload_n 0, 1) := by decide +kernel
theorem dX12_readNew_69 : decode cX12_readNew 69 = .ok (.getfield 43, 3) := by decide +kernel
theorem dX12_readNew_72 : decode cX12_readNew 72 = .ok (.lastore, 1) := by decide +kernel
theorem dX12_readNew_73 : decode cX12_readNew 73 = .ok (.aload_n 0, 1) := by decide +kernel
theorem dX12_readNew_74 : decode cX12_readNew 74 = .ok (.invokevirtual 82, 3) := by decide +kernel
theorem dX12_readNew_77 : decode cX12_readNew 77 = .ok (.iconst 1, 1) := by decide +kernel
theorem dX12_readNew_78 : decode cX12_readNew 78 = .ok (.ireturn, 1) := by decide +kernel
theorem dX12_readNot_0 : decode cX12_readNot 0 = .ok (.aload_n 0, 1) := by decide +kernel
theorem dX12_readNot_1 : decode cX12_readNot 1 = .ok (.invokevirtual 425, 3) := by decide +kernel
theorem dX12_readNot_4 : decode cX12_readNot 4 = .ok (.ifCond .ne 5, 3) := by decide +kernel
theorem dX12_readNot_7 : decode cX12_readNot 7 = .ok (.iconst 0, 1) := by decide +kernel
theorem dX12_readNot_8 : decode cX12_readNot 8 = .ok (.ireturn, 1) := by decide +kernel
theorem dX12_readNot_9 : decode cX12_readNot 9 = .ok (.aload_n 0, 1) := by decide +kernel
theorem dX12_readNot_10 : decode cX12_readNot 10 = .ok (.aload_n 0, 1) := by decide +kernel
theorem dX12_readNot_11 : decode cX12_readNot 11 = .ok (.iconst 1, 1) := by decide +kernel
theorem dX12_readNot_12 : decode cX12_readNot 12 = .ok (.aload_n 0, 1) := by decide +kernel
theorem dX12_readNot_13 : decode cX12_readNot 13 = .ok (.getfield 418, 3) := by decide +kernel
theorem dX12_readNot_16 : decode cX12_readNot 16 = .ok (.iconst 0, 1) := by decide +kernel
theorem dX12_readNot_17 : decode cX12_readNot 17 = .ok (.iconst 0, 1) := by decide +kernel
theorem dX12_readNot_18 : decode cX12_readNot 18 = .ok (.invokevirtual 421, 3) := by decide +kernel
theorem dX12_readNot_21 : decode cX12_readNot 21 = .ok (.putfield 418, 3) := by decide +kernel
theorem dX12_readNot_24 : decode cX12_readNot 24 = .ok (.iconst 1, 1) := by decide +kernel
theorem dX12_readNot_25 : decode cX12_readNot 25 = .ok (.ireturn, 1) := by decide +kernel
theorem dX12_readNumber_0 : decode cX12_readNumber 0 = .ok (.aload_n 0, 1) := by decide +kernel
theorem dX12_readNumber_1 : decode cX12_readNumber 1 = .ok (.getfield 30, 3) := by decide +kernel
theorem dX12_readNumber_4 : decode cX12_readNumber 4 = .ok (.iconst 3, 1) := by decide +kernel
theorem dX12_readNumber_5 : decode cX12_readNumber 5 = .ok (.if_icmp .eq 9, 3) := by decide +kernel
theorem dX12_readNumber_8 : decode cX12_readNumber 8 = .ok (.aload_n 0, 1) := by decide +kernel
theorem dX12_readNumber_9 : decode cX12_readNumber 9 = .ok (.iconst 1, 1) := by decide +kernel
theorem dX12_readNumber_10 : decode cX12_readNumber 10 = .ok (.invokevirtual 72, 3) := by decide +kernel
theorem dX12_readNumber_13 : decode cX12_readNumber 13 = .ok (.ireturn, 1) := by decide +kernel
theorem dX12_readNumber_14 : decode cX12_readNumber 14 = .ok (.aload_n 0, 1) := by decide +kernel
theorem dX12_readNumber_15 : decode cX12_readNumber 15 = .ok (.getfield 47, 3) := by decide +kernel
theorem dX12_readNumber_18 : decode cX12_readNumber 18 = .ok (.iload_n 1, 1) := by decide +kernel
theorem dX12_readNumber_19 : decode cX12_readNumber 19 = .ok (.iload_n 2, 1) := by decide +kernel
theorem dX12_readNumber_20 : decode cX12_readNumber 20 = .ok (.invokestatic 75, 3) := by decide +kernel
theorem dX12_readNumber_23 : decode cX12_readNumber 23 = .ok (.ifCond .ne 9, 3) := by decide +kernel
theorem dX12_readNumber_26 : decode cX12_readNumber 26 = .ok (.aload_n 0, 1) := by decide +kernel
theorem dX12_readNumber_27 : decode cX12_readNumber 27 = .ok (.iconst 2, 1) := by decide +kernel
theorem dX12_readNumber_28 : decode cX12_readNumber 28 = .ok (.invokevirtual 72, 3) := by decide +kernel
theorem dX12_readNumber_31 : decode cX12_readNumber 31 = .ok (.ireturn, 1) := by decide +kernel
theorem dX12_readNumber_32 : decode cX12_readNumber 32 = .ok (.aload_n 0, 1) := by decide +kernel
theorem dX12_readNumber_33 : decode cX12_readNumber 33 = .ok (.aload_n 0, 1) := by decide +kernel
theorem dX12_readNumber_34 : decode cX12_readNumber 34 = .ok (.getfield 47, 3) := by decide +kernel
theorem dX12_readNumber_37 : decode cX12_readNumber 37 = .ok (.putfield 79, 3) := by decide +kernel
theorem dX12_readNumber_40 : decode cX12_readNumber 40 = .ok (.aload_n 0, 1) := by decide +kernel
theorem dX12_readNumber_41 : decode cX12_readNumber 41 = .ok (.invokevirtual 82, 3) := by decide +kernel
theorem dX12_readNumber_44 : decode cX12_readNumber 44 = .ok (.iconst 1, 1) := by decide +kernel
theorem dX12_readNumber_45 : decode cX12_readNumber 45 = .ok (.ireturn, 1) := by decide +kernel
theorem dX12_readOf_0 : decode cX12_readOf 0 = .ok (.aload_n 0, 1) := by decide +kernel
theorem dX12_readOf_1 : decode cX12_readOf 1 = .ok (.invokevirtual 449, 3) := by decide +kernel
theorem dX12_readOf_4 : decode cX12_readOf 4 = .ok (.ifCond .ne 5, 3) := by decide +kernel
theorem dX12_readOf_7 : decode cX12_readOf 7 = .ok (.iconst 0, 1) := by decide +kernel
theorem dX12_readOf_8 : decode cX12_readOf 8 = .ok (.ireturn, 1) := by decide +kernel
theorem dX12_readOf_9 : decode cX12_readOf 9 = .ok (.aload_n 0, 1) := by decide +kernel
theorem dX12_readOf_10 : decode cX12_readOf 10 = .ok (.aload_n 0, 1) := by decide +kernel
theorem dX12_readOf_11 : decode cX12_readOf 11 = .ok (.bipush 50, 2) := by decide +kernel
theorem dX12_readOf_13 : decode cX12_readOf 13 = .ok (.iload_n 1, 1) := by decide +kernel
theorem dX12_readOf_14 : decode cX12_readOf 14 = .ok (.iadd, 1) := by decide +kernel
theorem dX12_readOf_15 : decode cX12_readOf 15 = .ok (.aload_n 0, 1) := by decide +kernel
theorem dX12_readOf_16 : decode cX12_readOf 16 = .ok (.getfield 79, 3) := by decide +kernel
theorem dX12_readOf_19 : decode cX12_readOf 19 = .ok (.iconst 0, 1) := by decide +kernel
theorem dX12_readOf_20 : decode cX12_readOf 20 = .ok (.iconst 0, 1) := by decide +kernel
theorem dX12_readOf_21 : decode cX12_readOf 21 = .ok (.invokevirtual 421, 3) := by decide +kernel
theorem dX12_readOf_24 : decode cX12_readOf 24 = .ok (.putfield 418, 3) := by decide +kernel
theorem dX12_readOf_27 : decode cX12_readOf 27 = .ok (.iconst 1, 1) := by decide +kernel
theorem dX12_readOf_28 : decode cX12_readOf 28 = .ok (.ireturn, 1) := by decide +kernel
theorem dX12_readOr_0 : decode cX12_readOr 0 = .ok (.aload_n 0, 1) := by decide +kernel
theorem dX12_readOr_1 : decode cX12_readOr 1 = .ok (.invokevirtual 415, 3) := by decide +kernel
theorem dX12_readOr_4 : decode cX12_readOr 4 = .ok (.ifCond .ne 5, 3) := by decide +kernel
theorem dX12_readOr_7 : decode cX12_readOr 7 = .ok (.iconst 0, 1) := by decide +kernel
theorem dX12_readOr_8 : decode cX12_readOr 8 = .ok (.ireturn, 1) := by decide +kernel
theorem dX12_readOr_9 : decode cX12_readOr 9 = .ok (.aload_n 0, 1) := by decide +kernel
theorem dX12_readOr_10 : decode cX12_readOr 10 = .ok (.getfield 418, 3) := by decide +kernel
theorem dX12_readOr_13 : decode cX12_readOr 13 = .ok (.istore_n 1, 1) := by decide +kernel
theorem dX12_readOr_14 : decode cX12_readOr 14 = .ok (.aload_n 0, 1) := by decide +kernel
theorem dX12_readOr_15 : decode cX12_readOr 15 = .ok (.bipush 13, 2) := by decide +kernel
theorem dX12_readOr_17 : decode cX12_readOr 17 = .ok (.invokevirtual 174, 3) := by decide +kernel
theorem dX12_readOr_20 : decode cX12_readOr 20 = .ok (.ifCond .eq 31, 3) := by decide +kernel
theorem dX12_readOr_23 : decode cX12_readOr 23 = .ok (.aload_n 0, 1) := by decide +kernel
theorem dX12_readOr_24 : decode cX12_readOr 24 = .ok (.invokevirtual 82, 3) := by decide +kernel
theorem dX12_readOr_27 : decode cX12_readOr 27 = .ok (.aload_n 0, 1) := by decide +kernel
theorem dX12_readOr_28 : decode cX12_readOr 28 = .ok (.invokevirtual 415, 3) := by decide +kernel
theorem dX12_readOr_31 : decode cX12_readOr 31 = .ok (.ifCond .ne 5, 3) := by decide +kernel
theorem dX12_readOr_34 : decode cX12_readOr 34 = .ok (.iconst 0, 1) := by decide +kernel
theorem dX12_readOr_35 : decode cX12_readOr 35 = .ok (.ireturn, 1) := by decide +kernel
theorem dX12_readOr_36 : decode cX12_readOr 36 = .ok (.aload_n 0, 1) := by decide +kernel
theorem dX12_readOr_37 : decode cX12_readOr 37 = .ok (.iconst 3, 1) := by decide +kernel
theorem dX12_readOr_38 : decode cX12_readOr 38 = .ok (.iload_n 1, 1) := by decide +kernel
theorem dX12_readOr_39 : decode cX12_readOr 39 = .ok (.aload_n 0, 1) := by decide +kernel
theorem dX12_readOr_40 : decode cX12_readOr 40 = .ok (.getfield 418, 3) := by decide +kernel
theorem dX12_readOr_43 : decode cX12_readOr 43 = .ok (.iconst 0, 1) := by decide +kernel
theorem dX12_readOr_44 : decode cX12_readOr 44 = .ok (.invokevirtual 421, 3) := by decide +kernel
theorem dX12_readOr_47 : decode cX12_readOr 47 = .ok (.istore_n 1, 1) := by decide +kernel
theorem dX12_readOr_48 : decode cX12_readOr 48 = .ok (.goto (-34), 3) := by decide +kernel
theorem dX12_readOr_51 : decode cX12_readOr 51 = .ok (.aload_n 0, 1) := by decide +kernel
theorem dX12_readOr_52 : decode cX12_readOr 52 = .ok (.iload_n 1, 1) := by decide +kernel
theorem dX12_readOr_53 : decode cX12_readOr 53 = .ok (.putfield 418, 3) := by decide +kernel
theorem dX12_readOr_56 : decode cX12_readOr 56 = .ok (.iconst 1, 1) := by decide +kernel
theorem dX12_readOr_57 : decode cX12_readOr 57 = .ok (.ireturn, 1) := by decide +kernel
theorem dX12_readPerson_0 : decode cX12_readPerson 0 = .ok (.aload_n 0, 1) := by decide +kernel
theorem dX12_readPerson_1 : decode cX12_readPerson 1 = .ok (.iconst 3, 1) := by decide +kernel
theorem dX12_readPerson_2 : decode cX12_readPerson 2 = .ok (.bipush 6, 2) := by decide +kernel
theorem dX12_readPerson_4 : decode cX12_readPerson 4 = .ok (.invokevirtual 199, 3) := by decide +kernel
theorem dX12_readPerson_7 : decode cX12_readPerson 7 = .ok (.ifCond .ne 5, 3) := by decide +kernel
theorem dX12_readPerson_10 : decode cX12_readPerson 10 = .ok (.iconst 0, 1) := by decide +kernel
theorem dX12_readPerson_11 : decode cX12_readPerson 11 = .ok (.ireturn, 1) := by decide +kernel
theorem dX12_readPerson_12 : decode cX12_readPerson 12 = .ok (.aload_n 0, 1) := by decide +kernel
theorem dX12_readPerson_13 : decode cX12_readPerson 13 = .ok (.getfield 101, 3) := by decide +kernel
theorem dX12_readPerson_16 : decode cX12_readPerson 16 = .ok (.iconst 3, 1) := by decide +kernel
theorem dX12_readPerson_17 : decode cX12_readPerson 17 = .ok (.iaload, 1) := by decide +kernel
theorem dX12_readPerson_18 : decode cX12_readPerson 18 = .ok (.istore_n 1, 1) := by decide +kernel
theorem dX12_readPerson_19 : decode cX12_readPerson 19 = .ok (.aload_n 0, 1) := by decide +kernel
theorem dX12_readPerson_20 : decode cX12_readPerson 20 = .ok (.iconst 5, 1) := by decide +kernel
theorem dX12_readPerson_21 : decode cX12_readPerson 21 = .ok (.iload_n 1, 1) := by decide +kernel
theorem dX12_readPerson_22 : decode cX12_readPerson 22 = .ok (.iadd, 1) := by decide +kernel
theorem dX12_readPerson_23 : decode cX12_readPerson 23 = .ok (.invokevirtual 202, 3) := by decide +kernel
theorem dX12_readPerson_26 : decode cX12_readPerson 26 = .ok (.ifCond .eq 19, 3) := by decide +kernel
theorem dX12_readPerson_29 : decode cX12_readPerson 29 = .ok (.aload_n 0, 1) := by decide +kernel
theorem dX12_readPerson_30 : decode cX12_readPerson 30 = .ok (.bipush 20, 2) := by decide +kernel
theorem dX12_readPerson_32 : decode cX12_readPerson 32 = .ok (.iload_n 1, 1) := by decide +kernel
theorem dX12_readPerson_33 : decode cX12_readPerson 33 = .ok (.iadd, 1) := by decide +kernel
theorem dX12_readPerson_34 : decode cX12_readPerson 34 = .ok (.aload_n 0, 1) := by decide +kernel
theorem dX12_readPerson_35 : decode cX12_readPerson 35 = .ok (.iconst 1, 1) := by decide +kernel
theorem dX12_readPerson_36 : decode cX12_readPerson 36 = .ok (.invokevirtual 195, 3) := by decide +kernel
theorem dX12_readPerson_39 : decode cX12_readPerson 39 = .ok (.invokevirtual 188, 3) := by decide +kernel
theorem dX12_readPerson_42 : decode cX12_readPerson 42 = .ok (.ifCond .ne 5, 3) := by decide +kernel
theorem dX12_readPerson_45 : decode cX12_readPerson 45 = .ok (.iconst 0, 1) := by decide +kernel
theorem dX12_readPerson_46 : decode cX12_readPerson 46 = .ok (.ireturn, 1) := by decide +kernel
theorem dX12_readPerson_47 : decode cX12_readPerson 47 = .ok (.aload_n 0, 1) := by decide +kernel
theorem dX12_readPerson_48 : decode cX12_readPerson 48 = .ok (.getfield 101, 3) := by decide +kernel
theorem dX12_readPerson_51 : decode cX12_readPerson 51 = .ok (.iconst 3, 1) := by decide +kernel
theorem dX12_readPerson_52 : decode cX12_readPerson 52 = .ok (.dup2, 1) := by decide +kernel
theorem dX12_readPerson_53 : decode cX12_readPerson 53 = .ok (.iaload, 1) := by decide +kernel
theorem dX12_readPerson_54 : decode cX12_readPerson 54 = .ok (.iconst 1, 1) := by decide +kernel
theorem dX12_readPerson_55 : decode cX12_readPerson 55 = .ok (.iadd, 1) := by decide +kernel
theorem dX12_readPerson_56 : decode cX12_readPerson 56 = .ok (.iastore, 1) := by decide +kernel
theorem dX12_readPerson_57 : decode cX12_readPerson 57 = .ok (.iconst 1, 1) := by decide +kernel
theorem dX12_readPerson_58 : decode cX12_readPerson 58 = .ok (.ireturn, 1) := by decide +kernel
theorem dX12_readPlace_0 : decode cX12_readPlace 0 = .ok (.aload_n 0, 1) := by decide +kernel
theorem dX12_readPlace_1 : decode cX12_readPlace 1 = .ok (.iload_n 1, 1) := by decide +kernel
theorem dX12_readPlace_2 : decode cX12_readPlace 2 = .ok (.iconst 1, 1) := by decide +kernel
theorem dX12_readPlace_3 : decode cX12_readPlace 3 = .ok (.iadd, 1) := by decide +kernel
theorem dX12_readPlace_4 : decode cX12_readPlace 4 = .ok (.aload_n 0, 1) := by decide +kernel
theorem dX12_readPlace_5 : decode cX12_readPlace 5 = .ok (.iconst 0, 1) := by decide +kernel
theorem dX12_readPlace_6 : decode cX12_readPlace 6 = .ok (.bipush 7, 2) := by decide +kernel
theorem dX12_readPlace_8 : decode cX12_readPlace 8 = .ok (.invokevirtual 184, 3) := by decide +kernel
theorem dX12_readPlace_11 : decode cX12_readPlace 11 = .ok (.invokevirtual 387, 3) := by decide +kernel
theorem dX12_readPlace_14 : decode cX12_readPlace 14 = .ok (.ifCond .eq 24, 3) := by decide +kernel
theorem dX12_readPlace_17 : decode cX12_readPlace 17 = .ok (.aload_n 0, 1) := by decide +kernel
theorem dX12_readPlace_18 : decode cX12_readPlace 18 = .ok (.iload_n 1, 1) := by decide +kernel
theorem dX12_readPlace_19 : decode cX12_readPlace 19 = .ok (.iconst 2, 1) := by decide +kernel
theorem dX12_readPlace_20 : decode cX12_readPlace 20 = .ok (.iadd, 1) := by decide +kernel
theorem dX12_readPlace_21 : decode cX12_readPlace 21 = .ok (.aload_n 0, 1) := by decide +kernel
theorem dX12_readPlace_22 : decode cX12_readPlace 22 = .ok (.iconst 0, 1) := by decide +kernel
theorem dX12_readPlace_23 : decode cX12_readPlace 23 = .ok (.bipush 7, 2) := by decide +kernel
theorem dX12_readPlace_25 : decode cX12_readPlace 25 = .ok (.invokevirtual 184, 3) := by decide +kernel
theorem dX12_readPlace_28 : decode cX12_readPlace 28 = .ok (.invokevirtual 387, 3) := by decide +kernel
theorem dX12_readPlace_31 : decode cX12_readPlace 31 = .ok (.ifCond .eq 7, 3) := by decide +kernel
theorem dX12_readPlace_34 : decode cX12_readPlace 34 = .ok (.iconst 1, 1) := by decide +kernel
theorem dX12_readPlace_35 : decode cX12_readPlace 35 = .ok (.goto 4, 3) := by decide +kernel
theorem dX12_readPlace_38 : decode cX12_readPlace 38 = .ok (.iconst 0, 1) := by decide +kernel
theorem dX12_readPlace_39 : decode cX12_readPlace 39 = .ok (.ireturn, 1) := by decide +kernel
theorem dX12_readSaid_0 : decode cX12_readSaid 0 = .ok (.aload_n 0, 1) := by decide +kernel
theorem dX12_readSaid_1 : decode cX12_readSaid 1 = .ok (.bipush 40, 2) := by decide +kernel
theorem dX12_readSaid_3 : decode cX12_readSaid 3 = .ok (.invokevirtual 86, 3) := by decide +kernel
theorem dX12_readSaid_6 : decode cX12_readSaid 6 = .ok (.istore_n 1, 1) := by decide +kernel
theorem dX12_readSaid_7 : decode cX12_readSaid 7 = .ok (.bipush 15, 2) := by decide +kernel
theorem dX12_readSaid_9 : decode cX12_readSaid 9 = .ok (.istore_n 2, 1) := by decide +kernel
theorem dX12_readSaid_10 : decode cX12_readSaid 10 = .ok (.iload_n 2, 1) := by decide +kernel
theorem dX12_readSaid_11 : decode cX12_readSaid 11 = .ok (.bipush 23, 2) := by decide +kernel
theorem dX12_readSaid_13 : decode cX12_readSaid 13 = .ok (.if_icmp .gt 17, 3) := by decide +kernel
theorem dX12_readSaid_16 : decode cX12_readSaid 16 = .ok (.aload_n 0, 1) := by decide +kernel
theorem dX12_readSaid_17 : decode cX12_readSaid 17 = .ok (.iload_n 2, 1) := by decide +kernel
theorem dX12_readSaid_18 : decode cX12_readSaid 18 = .ok (.invokevirtual 174, 3) := by decide +kernel
theorem dX12_readSaid_21 : decode cX12_readSaid 21 = .ok (.ifCond .ne 9, 3) := by decide +kernel
theorem dX12_readSaid_24 : decode cX12_readSaid 24 = .ok (.iinc 2 1, 3) := by decide +kernel
theorem dX12_readSaid_27 : decode cX12_readSaid 27 = .ok (.goto (-17), 3) := by decide +kernel
theorem dX12_readSaid_30 : decode cX12_readSaid 30 = .ok (.iload_n 1, 1) := by decide +kernel
theorem dX12_readSaid_31 : decode cX12_readSaid 31 = .ok (.ifCond .ne 15, 3) := by decide +kernel
theorem dX12_readSaid_34 : decode cX12_readSaid 34 = .ok (.iload_n 2, 1) := by decide +kernel
theorem dX12_readSaid_35 : decode cX12_readSaid 35 = .ok (.bipush 23, 2) := by decide +kernel
theorem dX12_readSaid_37 : decode cX12_readSaid 37 = .ok (.if_icmp .le 9, 3) := by decide +kernel
theorem dX12_readSaid_40 : decode cX12_readSaid 40 = .ok (.aload_n 0, 1) := by decide +kernel
theorem dX12_readSaid_41 : decode cX12_readSaid 41 = .ok (.iconst 1, 1) := by decide +kernel
theorem dX12_readSaid_42 : decode cX12_readSaid 42 = .ok (.invokevirtual 72, 3) := by decide +kernel
theorem dX12_readSaid_45 : decode cX12_readSaid 45 = .ok (.ireturn, 1) := by decide +kernel
theorem dX12_readSaid_46 : decode cX12_readSaid 46 = .ok (.aload_n 0, 1) := by decide +kernel
theorem dX12_readSaid_47 : decode cX12_readSaid 47 = .ok (.getfield 428, 3) := by decide +kernel
theorem dX12_readSaid_50 : decode cX12_readSaid 50 = .ok (.bipush 20, 2) := by decide +kernel
theorem dX12_readSaid_52 : decode cX12_readSaid 52 = .ok (.if_icmp .eq 12, 3) := by decide +kernel
theorem dX12_readSaid_55 : decode cX12_readSaid 55 = .ok (.aload_n 0, 1) := by decide +kernel
theorem dX12_readSaid_56 : decode cX12_readSaid 56 = .ok (.getfield 431, 3) := by decide +kernel
theorem dX12_readSaid_59 : decode cX12_readSaid 59 = .ok (.bipush 8, 2) := by decide +kernel
theorem dX12_readSaid_61 : decode cX12_readSaid 61 = .ok (.if_icmp .ne 9, 3) := by decide +kernel
theorem dX12_readSaid_64 : decode cX12_readSaid 64 = .ok (.aload_n 0, 1) := by decide +kernel
theorem dX12_readSaid_65 : decode cX12_readSaid 65 = .ok (.iconst 4, 1) := by decide +kernel
theorem dX12_readSaid_66 : decode cX12_readSaid 66 = .ok (.invokevirtual 72, 3) := by decide +kernel
theorem dX12_readSaid_69 : decode cX12_readSaid 69 = .ok (.ireturn, 1) := by decide +kernel
