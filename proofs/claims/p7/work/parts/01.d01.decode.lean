theorem dX6_init_38 : decode cX6_init 38 = .ok (.putfield 26, 3) := by decide +kernel
theorem dX6_init_41 : decode cX6_init 41 = .ok (.aload_n 0, 1) := by decide +kernel
theorem dX6_init_42 : decode cX6_init 42 = .ok (.aload_n 1, 1) := by decide +kernel
theorem dX6_init_43 : decode cX6_init 43 = .ok (.putfield 29, 3) := by decide +kernel
theorem dX6_init_46 : decode cX6_init 46 = .ok (.return_, 1) := by decide +kernel
theorem dX6_scan_0 : decode cX6_scan 0 = .ok (.aload_n 0, 1) := by decide +kernel
theorem dX6_scan_1 : decode cX6_scan 1 = .ok (.iconst 0, 1) := by decide +kernel
theorem dX6_scan_2 : decode cX6_scan 2 = .ok (.putfield 22, 3) := by decide +kernel
theorem dX6_scan_5 : decode cX6_scan 5 = .ok (.iconst 0, 1) := by decide +kernel
theorem dX6_scan_6 : decode cX6_scan 6 = .ok (.istore_n 1, 1) := by decide +kernel
theorem dX6_scan_7 : decode cX6_scan 7 = .ok (.iconst 0, 1) := by decide +kernel
theorem dX6_scan_8 : decode cX6_scan 8 = .ok (.istore_n 2, 1) := by decide +kernel
theorem dX6_scan_9 : decode cX6_scan 9 = .ok (.iload_n 2, 1) := by decide +kernel
theorem dX6_scan_10 : decode cX6_scan 10 = .ok (.sipush 700, 3) := by decide +kernel
theorem dX6_scan_13 : decode cX6_scan 13 = .ok (.if_icmp .ge 91, 3) := by decide +kernel
theorem dX6_scan_16 : decode cX6_scan 16 = .ok (.iload_n 1, 1) := by decide +kernel
theorem dX6_scan_17 : decode cX6_scan 17 = .ok (.aload_n 0, 1) := by decide +kernel
theorem dX6_scan_18 : decode cX6_scan 18 = .ok (.getfield 29, 3) := by decide +kernel
theorem dX6_scan_21 : decode cX6_scan 21 = .ok (.getfield 33, 3) := by decide +kernel
theorem dX6_scan_24 : decode cX6_scan 24 = .ok (.if_icmp .ge 80, 3) := by decide +kernel
theorem dX6_scan_27 : decode cX6_scan 27 = .ok (.aload_n 0, 1) := by decide +kernel
theorem dX6_scan_28 : decode cX6_scan 28 = .ok (.getfield 29, 3) := by decide +kernel
theorem dX6_scan_31 : decode cX6_scan 31 = .ok (.getfield 38, 3) := by decide +kernel
theorem dX6_scan_34 : decode cX6_scan 34 = .ok (.iload_n 1, 1) := by decide +kernel
theorem dX6_scan_35 : decode cX6_scan 35 = .ok (.caload, 1) := by decide +kernel
theorem dX6_scan_36 : decode cX6_scan 36 = .ok (.istore_n 3, 1) := by decide +kernel
theorem dX6_scan_37 : decode cX6_scan 37 = .ok (.iload_n 3, 1) := by decide +kernel
theorem dX6_scan_38 : decode cX6_scan 38 = .ok (.invokestatic 42, 3) := by decide +kernel
theorem dX6_scan_41 : decode cX6_scan 41 = .ok (.ifCond .eq 12, 3) := by decide +kernel
theorem dX6_scan_44 : decode cX6_scan 44 = .ok (.aload_n 0, 1) := by decide +kernel
theorem dX6_scan_45 : decode cX6_scan 45 = .ok (.iload_n 1, 1) := by decide +kernel
theorem dX6_scan_46 : decode cX6_scan 46 = .ok (.invokevirtual 46, 3) := by decide +kernel
theorem dX6_scan_49 : decode cX6_scan 49 = .ok (.istore_n 1, 1) := by decide +kernel
theorem dX6_scan_50 : decode cX6_scan 50 = .ok (.goto 48, 3) := by decide +kernel
theorem dX6_scan_53 : decode cX6_scan 53 = .ok (.iload_n 3, 1) := by decide +kernel
theorem dX6_scan_54 : decode cX6_scan 54 = .ok (.invokestatic 50, 3) := by decide +kernel
theorem dX6_scan_57 : decode cX6_scan 57 = .ok (.ifCond .eq 12, 3) := by decide +kernel
theorem dX6_scan_60 : decode cX6_scan 60 = .ok (.aload_n 0, 1) := by decide +kernel
theorem dX6_scan_61 : decode cX6_scan 61 = .ok (.iload_n 1, 1) := by decide +kernel
theorem dX6_scan_62 : decode cX6_scan 62 = .ok (.invokevirtual 53, 3) := by decide +kernel
theorem dX6_scan_65 : decode cX6_scan 65 = .ok (.istore_n 1, 1) := by decide +kernel
theorem dX6_scan_66 : decode cX6_scan 66 = .ok (.goto 32, 3) := by decide +kernel
theorem dX6_scan_69 : decode cX6_scan 69 = .ok (.iload_n 3, 1) := by decide +kernel
theorem dX6_scan_70 : decode cX6_scan 70 = .ok (.bipush 32, 2) := by decide +kernel
theorem dX6_scan_72 : decode cX6_scan 72 = .ok (.if_icmp .eq 23, 3) := by decide +kernel
theorem dX6_scan_75 : decode cX6_scan 75 = .ok (.aload_n 0, 1) := by decide +kernel
theorem dX6_scan_76 : decode cX6_scan 76 = .ok (.ldc 56, 2) := by decide +kernel
theorem dX6_scan_78 : decode cX6_scan 78 = .ok (.iload_n 3, 1) := by decide +kernel
theorem dX6_scan_79 : decode cX6_scan 79 = .ok (.invokevirtual 58, 3) := by decide +kernel
theorem dX6_scan_82 : decode cX6_scan 82 = .ok (.ifCond .lt 7, 3) := by decide +kernel
theorem dX6_scan_85 : decode cX6_scan 85 = .ok (.iload_n 3, 1) := by decide +kernel
theorem dX6_scan_86 : decode cX6_scan 86 = .ok (.goto 4, 3) := by decide +kernel
theorem dX6_scan_89 : decode cX6_scan 89 = .ok (.iconst 3, 1) := by decide +kernel
theorem dX6_scan_90 : decode cX6_scan 90 = .ok (.iload_n 1, 1) := by decide +kernel
theorem dX6_scan_91 : decode cX6_scan 91 = .ok (.lconst 0, 1) := by decide +kernel
theorem dX6_scan_92 : decode cX6_scan 92 = .ok (.invokevirtual 63, 3) := by decide +kernel
theorem dX6_scan_95 : decode cX6_scan 95 = .ok (.iinc 1 1, 3) := by decide +kernel
theorem dX6_scan_98 : decode cX6_scan 98 = .ok (.iinc 2 1, 3) := by decide +kernel
theorem dX6_scan_101 : decode cX6_scan 101 = .ok (.goto (-92), 3) := by decide +kernel
theorem dX6_scan_104 : decode cX6_scan 104 = .ok (.aload_n 0, 1) := by decide +kernel
theorem dX6_scan_105 : decode cX6_scan 105 = .ok (.iconst 0, 1) := by decide +kernel
theorem dX6_scan_106 : decode cX6_scan 106 = .ok (.aload_n 0, 1) := by decide +kernel
theorem dX6_scan_107 : decode cX6_scan 107 = .ok (.getfield 29, 3) := by decide +kernel
theorem dX6_scan_110 : decode cX6_scan 110 = .ok (.getfield 33, 3) := by decide +kernel
theorem dX6_scan_113 : decode cX6_scan 113 = .ok (.lconst 0, 1) := by decide +kernel
theorem dX6_scan_114 : decode cX6_scan 114 = .ok (.invokevirtual 63, 3) := by decide +kernel
theorem dX6_scan_117 : decode cX6_scan 117 = .ok (.aload_n 0, 1) := by decide +kernel
theorem dX6_scan_118 : decode cX6_scan 118 = .ok (.iconst 0, 1) := by decide +kernel
theorem dX6_scan_119 : decode cX6_scan 119 = .ok (.putfield 26, 3) := by decide +kernel
theorem dX6_scan_122 : decode cX6_scan 122 = .ok (.return_, 1) := by decide +kernel
theorem dX6_kind_0 : decode cX6_kind 0 = .ok (.aload_n 0, 1) := by decide +kernel
theorem dX6_kind_1 : decode cX6_kind 1 = .ok (.getfield 26, 3) := by decide +kernel
theorem dX6_kind_4 : decode cX6_kind 4 = .ok (.aload_n 0, 1) := by decide +kernel
theorem dX6_kind_5 : decode cX6_kind 5 = .ok (.getfield 22, 3) := by decide +kernel
theorem dX6_kind_8 : decode cX6_kind 8 = .ok (.if_icmp .ge 15, 3) := by decide +kernel
theorem dX6_kind_11 : decode cX6_kind 11 = .ok (.aload_n 0, 1) := by decide +kernel
theorem dX6_kind_12 : decode cX6_kind 12 = .ok (.getfield 9, 3) := by decide +kernel
theorem dX6_kind_15 : decode cX6_kind 15 = .ok (.aload_n 0, 1) := by decide +kernel
theorem dX6_kind_16 : decode cX6_kind 16 = .ok (.getfield 26, 3) := by decide +kernel
theorem dX6_kind_19 : decode cX6_kind 19 = .ok (.iaload, 1) := by decide +kernel
theorem dX6_kind_20 : decode cX6_kind 20 = .ok (.goto 4, 3) := by decide +kernel
theorem dX6_kind_23 : decode cX6_kind 23 = .ok (.iconst 0, 1) := by decide +kernel
theorem dX6_kind_24 : decode cX6_kind 24 = .ok (.ireturn, 1) := by decide +kernel
theorem dX6_follower_0 : decode cX6_follower 0 = .ok (.aload_n 0, 1) := by decide +kernel
theorem dX6_follower_1 : decode cX6_follower 1 = .ok (.getfield 26, 3) := by decide +kernel
theorem dX6_follower_4 : decode cX6_follower 4 = .ok (.iconst 1, 1) := by decide +kernel
theorem dX6_follower_5 : decode cX6_follower 5 = .ok (.iadd, 1) := by decide +kernel
theorem dX6_follower_6 : decode cX6_follower 6 = .ok (.aload_n 0, 1) := by decide +kernel
theorem dX6_follower_7 : decode cX6_follower 7 = .ok (.getfield 22, 3) := by decide +kernel
theorem dX6_follower_10 : decode cX6_follower 10 = .ok (.if_icmp .ge 17, 3) := by decide +kernel
theorem dX6_follower_13 : decode cX6_follower 13 = .ok (.aload_n 0, 1) := by decide +kernel
theorem dX6_follower_14 : decode cX6_follower 14 = .ok (.getfield 9, 3) := by decide +kernel
theorem dX6_follower_17 : decode cX6_follower 17 = .ok (.aload_n 0, 1) := by decide +kernel
theorem dX6_follower_18 : decode cX6_follower 18 = .ok (.getfield 26, 3) := by decide +kernel
theorem dX6_follower_21 : decode cX6_follower 21 = .ok (.iconst 1, 1) := by decide +kernel
theorem dX6_follower_22 : decode cX6_follower 22 = .ok (.iadd, 1) := by decide +kernel
theorem dX6_follower_23 : decode cX6_follower 23 = .ok (.iaload, 1) := by decide +kernel
theorem dX6_follower_24 : decode cX6_follower 24 = .ok (.goto 4, 3) := by decide +kernel
theorem dX6_follower_27 : decode cX6_follower 27 = .ok (.iconst 0, 1) := by decide +kernel
theorem dX6_follower_28 : decode cX6_follower 28 = .ok (.ireturn, 1) := by decide +kernel
theorem dX6_place_0 : decode cX6_place 0 = .ok (.aload_n 0, 1) := by decide +kernel
theorem dX6_place_1 : decode cX6_place 1 = .ok (.getfield 26, 3) := by decide +kernel
theorem dX6_place_4 : decode cX6_place 4 = .ok (.aload_n 0, 1) := by decide +kernel
theorem dX6_place_5 : decode cX6_place 5 = .ok (.getfield 22, 3) := by decide +kernel
theorem dX6_place_8 : decode cX6_place 8 = .ok (.if_icmp .ge 15, 3) := by decide +kernel
theorem dX6_place_11 : decode cX6_place 11 = .ok (.aload_n 0, 1) := by decide +kernel
theorem dX6_place_12 : decode cX6_place 12 = .ok (.getfield 15, 3) := by decide +kernel
theorem dX6_place_15 : decode cX6_place 15 = .ok (.aload_n 0, 1) := by decide +kernel
theorem dX6_place_16 : decode cX6_place 16 = .ok (.getfield 26, 3) := by decide +kernel
theorem dX6_place_19 : decode cX6_place 19 = .ok (.iaload, 1) := by decide +kernel
theorem dX6_place_20 : decode cX6_place 20 = .ok (.goto 10, 3) := by decide +kernel
theorem dX6_place_23 : decode cX6_place 23 = .ok (.aload_n 0, 1) := by decide +kernel
theorem dX6_place_24 : decode cX6_place 24 = .ok (.getfield 29, 3) := by decide +kernel
theorem dX6_place_27 : decode cX6_place 27 = .ok (.getfield 33, 3) := by decide +kernel
theorem dX6_place_30 : decode cX6_place 30 = .ok (.ireturn, 1) := by decide +kernel
theorem dX6_value_0 : decode cX6_value 0 = .ok (.aload_n 0, 1) := by decide +kernel
theorem dX6_value_1 : decode cX6_value 1 = .ok (.getfield 26, 3) := by decide +kernel
theorem dX6_value_4 : decode cX6_value 4 = .ok (.aload_n 0, 1) := by decide +kernel
theorem dX6_value_5 : decode cX6_value 5 = .ok (.getfield 22, 3) := by decide +kernel
theorem dX6_value_8 : decode cX6_value 8 = .ok (.if_icmp .ge 15, 3) := by decide +kernel
theorem dX6_value_11 : decode cX6_value 11 = .ok (.aload_n 0, 1) := by decide +kernel
theorem dX6_value_12 : decode cX6_value 12 = .ok (.getfield 18, 3) := by decide +kernel
theorem dX6_value_15 : decode cX6_value 15 = .ok (.aload_n 0, 1) := by decide +kernel
theorem dX6_value_16 : decode cX6_value 16 = .ok (.getfield 26, 3) := by decide +kernel
theorem dX6_value_19 : decode cX6_value 19 = .ok (.laload, 1) := by decide +kernel
theorem dX6_value_20 : decode cX6_value 20 = .ok (.goto 4, 3) := by decide +kernel
theorem dX6_value_23 : decode cX6_value 23 = .ok (.lconst 0, 1) := by decide +kernel
theorem dX6_value_24 : decode cX6_value 24 = .ok (.lreturn, 1) := by decide +kernel
theorem dX6_index_0 : decode cX6_index 0 = .ok (.aload_n 0, 1) := by decide +kernel
theorem dX6_index_1 : decode cX6_index 1 = .ok (.getfield 26, 3) := by decide +kernel
theorem dX6_index_4 : decode cX6_index 4 = .ok (.ireturn, 1) := by decide +kernel
theorem dX6_goTo_0 : decode cX6_goTo 0 = .ok (.aload_n 0, 1) := by decide +kernel
theorem dX6_goTo_1 : decode cX6_goTo 1 = .ok (.iload_n 1, 1) := by decide +kernel
theorem dX6_goTo_2 : decode cX6_goTo 2 = .ok (.iconst 0, 1) := by decide +kernel
theorem dX6_goTo_3 : decode cX6_goTo 3 = .ok (.invokestatic 67, 3) := by decide +kernel
theorem dX6_goTo_6 : decode cX6_goTo 6 = .ok (.putfield 26, 3) := by decide +kernel
theorem dX6_goTo_9 : decode cX6_goTo 9 = .ok (.return_, 1) := by decide +kernel
theorem dX6_advance_0 : decode cX6_advance 0 = .ok (.aload_n 0, 1) := by decide +kernel
theorem dX6_advance_1 : decode cX6_advance 1 = .ok (.dup, 1) := by decide +kernel
theorem dX6_advance_2 : decode cX6_advance 2 = .ok (.getfield 26, 3) := by decide +kernel
theorem dX6_advance_5 : decode cX6_advance 5 = .ok (.iconst 1, 1) := by decide +kernel
theorem dX6_advance_6 : decode cX6_advance 6 = .ok (.iadd, 1) := by decide +kernel
theorem dX6_advance_7 : decode cX6_advance 7 = .ok (.putfield 26, 3) := by decide +kernel
theorem dX6_advance_10 : decode cX6_advance 10 = .ok (.return_, 1) := by decide +kernel
theorem dX6_numbered_0 : decode cX6_numbered 0 = .ok (.aload_n 0, 1) := by decide +kernel
theorem dX6_numbered_1 : decode cX6_numbered 1 = .ok (.invokevirtual 73, 3) := by decide +kernel
theorem dX6_numbered_4 : decode cX6_numbered 4 = .ok (.iconst 1, 1) := by decide +kernel
theorem dX6_numbered_5 : decode cX6_numbered 5 = .ok (.if_icmp .eq 5, 3) := by decide +kernel
theorem dX6_numbered_8 : decode cX6_numbered 8 = .ok (.iconst (-1), 1) := by decide +kernel
theorem dX6_numbered_9 : decode cX6_numbered 9 = .ok (.ireturn, 1) := by decide +kernel
theorem dX6_numbered_10 : decode cX6_numbered 10 = .ok (.iconst 0, 1) := by decide +kernel
theorem dX6_numbered_11 : decode cX6_numbered 11 = .ok (.istore_n 3, 1) := by decide +kernel
theorem dX6_numbered_12 : decode cX6_numbered 12 = .ok (.iload_n 3, 1) := by decide +kernel
theorem dX6_numbered_13 : decode cX6_numbered 13 = .ok (.iload_n 2, 1) := by decide +kernel
theorem dX6_numbered_14 : decode cX6_numbered 14 = .ok (.if_icmp .gt 24, 3) := by decide +kernel
theorem dX6_numbered_17 : decode cX6_numbered 17 = .ok (.aload_n 0, 1) := by decide +kernel
theorem dX6_numbered_18 : decode cX6_numbered 18 = .ok (.invokevirtual 77, 3) := by decide +kernel
theorem dX6_numbered_21 : decode cX6_numbered 21 = .ok (.iload_n 1, 1) := by decide +kernel
theorem dX6_numbered_22 : decode cX6_numbered 22 = .ok (.iload_n 3, 1) := by decide +kernel
theorem dX6_numbered_23 : decode cX6_numbered 23 = .ok (.invokestatic 81, 3) := by decide +kernel
theorem dX6_numbered_26 : decode cX6_numbered 26 = .ok (.lcmp, 1) := by decide +kernel
theorem dX6_numbered_27 : decode cX6_numbered 27 = .ok (.ifCond .ne 5, 3) := by decide +kernel
theorem dX6_numbered_30 : decode cX6_numbered 30 = .ok (.iload_n 3, 1) := by decide +kernel
theorem dX6_numbered_31 : decode cX6_numbered 31 = .ok (.ireturn, 1) := by decide +kernel
theorem dX6_numbered_32 : decode cX6_numbered 32 = .ok (.iinc 3 1, 3) := by decide +kernel
theorem dX6_numbered_35 : decode cX6_numbered 35 = .ok (.goto (-23), 3) := by decide +kernel
theorem dX6_numbered_38 : decode cX6_numbered 38 = .ok (.iconst (-1), 1) := by decide +kernel
theorem dX6_numbered_39 : decode cX6_numbered 39 = .ok (.ireturn, 1) := by decide +kernel
theorem dX6_numberedKey_0 : decode cX6_numberedKey 0 = .ok (.bipush 48, 2) := by decide +kernel
theorem dX6_numberedKey_2 : decode cX6_numberedKey 2 = .ok (.iload_n 1, 1) := by decide +kernel
theorem dX6_numberedKey_3 : decode cX6_numberedKey 3 = .ok (.bipush 10, 2) := by decide +kernel
theorem dX6_numberedKey_5 : decode cX6_numberedKey 5 = .ok (.irem, 1) := by decide +kernel
theorem dX6_numberedKey_6 : decode cX6_numberedKey 6 = .ok (.iadd, 1) := by decide +kernel
theorem dX6_numberedKey_7 : decode cX6_numberedKey 7 = .ok (.i2l, 1) := by decide +kernel
theorem dX6_numberedKey_8 : decode cX6_numberedKey 8 = .ok (.lstore_n 2, 1) := by decide +kernel
theorem dX6_numberedKey_9 : decode cX6_numberedKey 9 = .ok (.iload_n 1, 1) := by decide +kernel
theorem dX6_numberedKey_10 : decode cX6_numberedKey 10 = .ok (.bipush 10, 2) := by decide +kernel
theorem dX6_numberedKey_12 : decode cX6_numberedKey 12 = .ok (.if_icmp .ge 11, 3) := by decide +kernel
theorem dX6_numberedKey_15 : decode cX6_numberedKey 15 = .ok (.iload_n 0, 1) := by decide +kernel
theorem dX6_numberedKey_16 : decode cX6_numberedKey 16 = .ok (.i2l, 1) := by decide +kernel
theorem dX6_numberedKey_17 : decode cX6_numberedKey 17 = .ok (.bipush 8, 2) := by decide +kernel
theorem dX6_numberedKey_19 : decode cX6_numberedKey 19 = .ok (.lshl, 1) := by decide +kernel
theorem dX6_numberedKey_20 : decode cX6_numberedKey 20 = .ok (.lload_n 2, 1) := by decide +kernel
theorem dX6_numberedKey_21 : decode cX6_numberedKey 21 = .ok (.lor, 1) := by decide +kernel
theorem dX6_numberedKey_22 : decode cX6_numberedKey 22 = .ok (.lreturn, 1) := by decide +kernel
theorem dX6_numberedKey_23 : decode cX6_numberedKey 23 = .ok (.iload_n 0, 1) := by decide +kernel
theorem dX6_numberedKey_24 : decode cX6_numberedKey 24 = .ok (.i2l, 1) := by decide +kernel
theorem dX6_numberedKey_25 : decode cX6_numberedKey 25 = .ok (.bipush 16, 2) := by decide +kernel
theorem dX6_numberedKey_27 : decode cX6_numberedKey 27 = .ok (.lshl, 1) := by decide +kernel
theorem dX6_numberedKey_28 : decode cX6_numberedKey 28 = .ok (.bipush 48, 2) := by decide +kernel
theorem dX6_numberedKey_30 : decode cX6_numberedKey 30 = .ok (.iload_n 1, 1) := by decide +kernel
theorem dX6_numberedKey_31 : decode cX6_numberedKey 31 = .ok (.bipush 10, 2) := by decide +kernel
theorem dX6_numberedKey_33 : decode cX6_numberedKey 33 = .ok (.idiv, 1) := by decide +kernel
theorem dX6_numberedKey_34 : decode cX6_numberedKey 34 = .ok (.iadd, 1) := by decide +kernel
theorem dX6_numberedKey_35 : decode cX6_numberedKey 35 = .ok (.i2l, 1) := by decide +kernel
theorem dX6_numberedKey_36 : decode cX6_numberedKey 36 = .ok (.bipush 8, 2) := by decide +kernel
theorem dX6_numberedKey_38 : decode cX6_numberedKey 38 = .ok (.lshl, 1) := by decide +kernel
theorem dX6_numberedKey_39 : decode cX6_numberedKey 39 = .ok (.lor, 1) := by decide +kernel
theorem dX6_numberedKey_40 : decode cX6_numberedKey 40 = .ok (.lload_n 2, 1) := by decide +kernel
theorem dX6_numberedKey_41 : decode cX6_numberedKey 41 = .ok (.lor, 1) := by decide +kernel
theorem dX6_numberedKey_42 : decode cX6_numberedKey 42 = .ok (.lreturn, 1) := by decide +kernel
theorem dX6_takeName_0 : decode cX6_takeName 0 = .ok (.lconst 0, 1) := by decide +kernel
theorem dX6_takeName_1 : decode cX6_takeName 1 = .ok (.lstore_n 2, 1) := by decide +kernel
theorem dX6_takeName_2 : decode cX6_takeName 2 = .ok (.iload_n 1, 1) := by decide +kernel
theorem dX6_takeName_3 : decode cX6_takeName 3 = .ok (.istore 4, 2) := by decide +kernel
theorem dX6_takeName_5 : decode cX6_takeName 5 = .ok (.iload 4, 2) := by decide +kernel
theorem dX6_takeName_7 : decode cX6_takeName 7 = .ok (.aload_n 0, 1) := by decide +kernel
theorem dX6_takeName_8 : decode cX6_takeName 8 = .ok (.getfield 29, 3) := by decide +kernel
theorem dX6_takeName_11 : decode cX6_takeName 11 = .ok (.getfield 33, 3) := by decide +kernel
theorem dX6_takeName_14 : decode cX6_takeName 14 = .ok (.if_icmp .ge 58, 3) := by decide +kernel
theorem dX6_takeName_17 : decode cX6_takeName 17 = .ok (.aload_n 0, 1) := by decide +kernel
theorem dX6_takeName_18 : decode cX6_takeName 18 = .ok (.getfield 29, 3) := by decide +kernel
theorem dX6_takeName_21 : decode cX6_takeName 21 = .ok (.getfield 38, 3) := by decide +kernel
theorem dX6_takeName_24 : decode cX6_takeName 24 = .ok (.iload 4, 2) := by decide +kernel
theorem dX6_takeName_26 : decode cX6_takeName 26 = .ok (.caload, 1) := by decide +kernel
theorem dX6_takeName_27 : decode cX6_takeName 27 = .ok (.invokestatic 42, 3) := by decide +kernel
theorem dX6_takeName_30 : decode cX6_takeName 30 = .ok (.ifCond .ne 19, 3) := by decide +kernel
theorem dX6_takeName_33 : decode cX6_takeName 33 = .ok (.aload_n 0, 1) := by decide +kernel
theorem dX6_takeName_34 : decode cX6_takeName 34 = .ok (.getfield 29, 3) := by decide +kernel
theorem dX6_takeName_37 : decode cX6_takeName 37 = .ok (.getfield 38, 3) := by decide +kernel
theorem dX6_takeName_40 : decode cX6_takeName 40 = .ok (.iload 4, 2) := by decide +kernel
theorem dX6_takeName_42 : decode cX6_takeName 42 = .ok (.caload, 1) := by decide +kernel
theorem dX6_takeName_43 : decode cX6_takeName 43 = .ok (.invokestatic 50, 3) := by decide +kernel
theorem dX6_takeName_46 : decode cX6_takeName 46 = .ok (.ifCond .eq 26, 3) := by decide +kernel
theorem dX6_takeName_49 : decode cX6_takeName 49 = .ok (.lload_n 2, 1) := by decide +kernel
theorem dX6_takeName_50 : decode cX6_takeName 50 = .ok (.bipush 8, 2) := by decide +kernel
theorem dX6_takeName_52 : decode cX6_takeName 52 = .ok (.lshl, 1) := by decide +kernel
theorem dX6_takeName_53 : decode cX6_takeName 53 = .ok (.aload_n 0, 1) := by decide +kernel
theorem dX6_takeName_54 : decode cX6_takeName 54 = .ok (.getfield 29, 3) := by decide +kernel
theorem dX6_takeName_57 : decode cX6_takeName 57 = .ok (.getfield 38, 3) := by decide +kernel
theorem dX6_takeName_60 : decode cX6_takeName 60 = .ok (.iload 4, 2) := by decide +kernel
theorem dX6_takeName_62 : decode cX6_takeName 62 = .ok (.caload, 1) := by decide +kernel
theorem dX6_takeName_63 : decode cX6_takeName 63 = .ok (.i2l, 1) := by decide +kernel
theorem dX6_takeName_64 : decode cX6_takeName 64 = .ok (.lor, 1) := by decide +kernel
theorem dX6_takeName_65 : decode cX6_takeName 65 = .ok (.lstore_n 2, 1) := by decide +kernel
theorem dX6_takeName_66 : decode cX6_takeName 66 = .ok (.iinc 4 1, 3) := by decide +kernel
theorem dX6_takeName_69 : decode cX6_takeName 69 = .ok (.goto (-64), 3) := by decide +kernel
theorem dX6_takeName_72 : decode cX6_takeName 72 = .ok (.aload_n 0, 1) := by decide +kernel
theorem dX6_takeName_73 : decode cX6_takeName 73 = .ok (.iload 4, 2) := by decide +kernel
theorem dX6_takeName_75 : decode cX6_takeName 75 = .ok (.iload_n 1, 1) := by decide +kernel
theorem dX6_takeName_76 : decode cX6_takeName 76 = .ok (.isub, 1) := by decide +kernel
theorem dX6_takeName_77 : decode cX6_takeName 77 = .ok (.bipush 8, 2) := by decide +kernel
theorem dX6_takeName_79 : decode cX6_takeName 79 = .ok (.if_icmp .gt 7, 3) := by decide +kernel
theorem dX6_takeName_82 : decode cX6_takeName 82 = .ok (.iconst 1, 1) := by decide +kernel
theorem dX6_takeName_83 : decode cX6_takeName 83 = .ok (.goto 4, 3) := by decide +kernel
theorem dX6_takeName_86 : decode cX6_takeName 86 = .ok (.iconst 3, 1) := by decide +kernel
theorem dX6_takeName_87 : decode cX6_takeName 87 = .ok (.iload_n 1, 1) := by decide +kernel
theorem dX6_takeName_88 : decode cX6_takeName 88 = .ok (.lload_n 2, 1) := by decide +kernel
theorem dX6_takeName_89 : decode cX6_takeName 89 = .ok (.invokevirtual 63, 3) := by decide +kernel
theorem dX6_takeName_92 : decode cX6_takeName 92 = .ok (.iload 4, 2) := by decide +kernel
theorem dX6_takeName_94 : decode cX6_takeName 94 = .ok (.ireturn, 1) := by decide +kernel
theorem dX6_takeNumber_0 : decode cX6_takeNumber 0 = .ok (.lconst 0, 1) := by decide +kernel
theorem dX6_takeNumber_1 : decode cX6_takeNumber 1 = .ok (.lstore_n 2, 1) := by decide +kernel
theorem dX6_takeNumber_2 : decode cX6_takeNumber 2 = .ok (.iload_n 1, 1) := by decide +kernel
theorem dX6_takeNumber_3 : decode cX6_takeNumber 3 = .ok (.istore 4, 2) := by decide +kernel
theorem dX6_takeNumber_5 : decode cX6_takeNumber 5 = .ok (.iload 4, 2) := by decide +kernel
theorem dX6_takeNumber_7 : decode cX6_takeNumber 7 = .ok (.aload_n 0, 1) := by decide +kernel
theorem dX6_takeNumber_8 : decode cX6_takeNumber 8 = .ok (.getfield 29, 3) := by decide +kernel
theorem dX6_takeNumber_11 : decode cX6_takeNumber 11 = .ok (.getfield 33, 3) := by decide +kernel
theorem dX6_takeNumber_14 : decode cX6_takeNumber 14 = .ok (.if_icmp .ge 55, 3) := by decide +kernel
theorem dX6_takeNumber_17 : decode cX6_takeNumber 17 = .ok (.aload_n 0, 1) := by decide +kernel
theorem dX6_takeNumber_18 : decode cX6_takeNumber 18 = .ok (.getfield 29, 3) := by decide +kernel
theorem dX6_takeNumber_21 : decode cX6_takeNumber 21 = .ok (.getfield 38, 3) := by decide +kernel
theorem dX6_takeNumber_24 : decode cX6_takeNumber 24 = .ok (.iload 4, 2) := by decide +kernel
theorem dX6_takeNumber_26 : decode cX6_takeNumber 26 = .ok (.caload, 1) := by decide +kernel
theorem dX6_takeNumber_27 : decode cX6_takeNumber 27 = .ok (.invokestatic 50, 3) := by decide +kernel
theorem dX6_takeNumber_30 : decode cX6_takeNumber 30 = .ok (.ifCond .eq 39, 3) := by decide +kernel
theorem dX6_takeNumber_33 : decode cX6_takeNumber 33 = .ok (.iload 4, 2) := by decide +kernel
theorem dX6_takeNumber_35 : decode cX6_takeNumber 35 = .ok (.iload_n 1, 1) := by decide +kernel
theorem dX6_takeNumber_36 : decode cX6_takeNumber 36 = .ok (.isub, 1) := by decide +kernel
theorem dX6_takeNumber_37 : decode cX6_takeNumber 37 = .ok (.bipush 10, 2) := by decide +kernel
theorem dX6_takeNumber_39 : decode cX6_takeNumber 39 = .ok (.if_icmp .ge 24, 3) := by decide +kernel
theorem dX6_takeNumber_42 : decode cX6_takeNumber 42 = .ok (.lload_n 2, 1) := by decide +kernel
theorem dX6_takeNumber_43 : decode cX6_takeNumber 43 = .ok (.ldc2_w 85, 3) := by decide +kernel
theorem dX6_takeNumber_46 : decode cX6_takeNumber 46 = .ok (.lmul, 1) := by decide +kernel
theorem dX6_takeNumber_47 : decode cX6_takeNumber 47 = .ok (.aload_n 0, 1) := by decide +kernel
theorem dX6_takeNumber_48 : decode cX6_takeNumber 48 = .ok (.getfield 29, 3) := by decide +kernel
theorem dX6_takeNumber_51 : decode cX6_takeNumber 51 = .ok (.getfield 38, 3) := by decide +kernel
theorem dX6_takeNumber_54 : decode cX6_takeNumber 54 = .ok (.iload 4, 2) := by decide +kernel
theorem dX6_takeNumber_56 : decode cX6_takeNumber 56 = .ok (.caload, 1) := by decide +kernel
theorem dX6_takeNumber_57 : decode cX6_takeNumber 57 = .ok (.bipush 48, 2) := by decide +kernel
theorem dX6_takeNumber_59 : decode cX6_takeNumber 59 = .ok (.isub, 1) := by decide +kernel
theorem dX6_takeNumber_60 : decode cX6_takeNumber 60 = .ok (.i2l, 1) := by decide +kernel
theorem dX6_takeNumber_61 : decode cX6_takeNumber 61 = .ok (.ladd, 1) := by decide +kernel
theorem dX6_takeNumber_62 : decode cX6_takeNumber 62 = .ok (.lstore_n 2, 1) := by decide +kernel
theorem dX6_takeNumber_63 : decode cX6_takeNumber 63 = .ok (.iinc 4 1, 3) := by decide +kernel
theorem dX6_takeNumber_66 : decode cX6_takeNumber 66 = .ok (.goto (-61), 3) := by decide +kernel
theorem dX6_takeNumber_69 : decode cX6_takeNumber 69 = .ok (.iload 4, 2) := by decide +kernel
theorem dX6_takeNumber_71 : decode cX6_takeNumber 71 = .ok (.iload_n 1, 1) := by decide +kernel
theorem dX6_takeNumber_72 : decode cX6_takeNumber 72 = .ok (.isub, 1) := by decide +kernel
theorem dX6_takeNumber_73 : decode cX6_takeNumber 73 = .ok (.bipush 10, 2) := by decide +kernel
theorem dX6_takeNumber_75 : decode cX6_takeNumber 75 = .ok (.if_icmp .gt 15, 3) := by decide +kernel
theorem dX6_takeNumber_78 : decode cX6_takeNumber 78 = .ok (.lload_n 2, 1) := by decide +kernel
theorem dX6_takeNumber_79 : decode cX6_takeNumber 79 = .ok (.ldc2_w 87, 3) := by decide +kernel
theorem dX6_takeNumber_82 : decode cX6_takeNumber 82 = .ok (.lcmp, 1) := by decide +kernel
theorem dX6_takeNumber_83 : decode cX6_takeNumber 83 = .ok (.ifCond .gt 7, 3) := by decide +kernel
theorem dX6_takeNumber_86 : decode cX6_takeNumber 86 = .ok (.iconst 1, 1) := by decide +kernel
theorem dX6_takeNumber_87 : decode cX6_takeNumber 87 = .ok (.goto 4, 3) := by decide +kernel
theorem dX6_takeNumber_90 : decode cX6_takeNumber 90 = .ok (.iconst 0, 1) := by decide +kernel
theorem dX6_takeNumber_91 : decode cX6_takeNumber 91 = .ok (.istore 5, 2) := by decide +kernel
theorem dX6_takeNumber_93 : decode cX6_takeNumber 93 = .ok (.aload_n 0, 1) := by decide +kernel
theorem dX6_takeNumber_94 : decode cX6_takeNumber 94 = .ok (.iload 5, 2) := by decide +kernel
theorem dX6_takeNumber_96 : decode cX6_takeNumber 96 = .ok (.ifCond .eq 7, 3) := by decide +kernel
theorem dX6_takeNumber_99 : decode cX6_takeNumber 99 = .ok (.iconst 2, 1) := by decide +kernel
theorem dX6_takeNumber_100 : decode cX6_takeNumber 100 = .ok (.goto 4, 3) := by decide +kernel
theorem dX6_takeNumber_103 : decode cX6_takeNumber 103 = .ok (.iconst 3, 1) := by decide +kernel
theorem dX6_takeNumber_104 : decode cX6_takeNumber 104 = .ok (.iload_n 1, 1) := by decide +kernel
theorem dX6_takeNumber_105 : decode cX6_takeNumber 105 = .ok (.lload_n 2, 1) := by decide +kernel
theorem dX6_takeNumber_106 : decode cX6_takeNumber 106 = .ok (.invokevirtual 63, 3) := by decide +kernel
theorem dX6_takeNumber_109 : decode cX6_takeNumber 109 = .ok (.iload 4, 2) := by decide +kernel
theorem dX6_takeNumber_111 : decode cX6_takeNumber 111 = .ok (.ireturn, 1) := by decide +kernel
theorem dX6_put_0 : decode cX6_put 0 = .ok (.aload_n 0, 1) := by decide +kernel
theorem dX6_put_1 : decode cX6_put 1 = .ok (.getfield 22, 3) := by decide +kernel
theorem dX6_put_4 : decode cX6_put 4 = .ok (.sipush 700, 3) := by decide +kernel
theorem dX6_put_7 : decode cX6_put 7 = .ok (.if_icmp .le 4, 3) := by decide +kernel
theorem dX6_put_10 : decode cX6_put 10 = .ok (.return_, 1) := by decide +kernel
theorem dX6_put_11 : decode cX6_put 11 = .ok (.aload_n 0, 1) := by decide +kernel
theorem dX6_put_12 : decode cX6_put 12 = .ok (.getfield 9, 3) := by decide +kernel
theorem dX6_put_15 : decode cX6_put 15 = .ok (.aload_n 0, 1) := by decide +kernel
theorem dX6_put_16 : decode cX6_put 16 = .ok (.getfield 22, 3) := by decide +kernel
theorem dX6_put_19 : decode cX6_put 19 = .ok (.iload_n 1, 1) := by decide +kernel
theorem dX6_put_20 : decode cX6_put 20 = .ok (.iastore, 1) := by decide +kernel
theorem dX6_put_21 : decode cX6_put 21 = .ok (.aload_n 0, 1) := by decide +kernel
theorem dX6_put_22 : decode cX6_put 22 = .ok (.getfield 15, 3) := by decide +kernel
theorem dX6_put_25 : decode cX6_put 25 = .ok (.aload_n 0, 1) := by decide +kernel
theorem dX6_put_26 : decode cX6_put 26 = .ok (.getfield 22, 3) := by decide +kernel
theorem dX6_put_29 : decode cX6_put 29 = .ok (.iload_n 2, 1) := by decide +kernel
theorem dX6_put_30 : decode cX6_put 30 = .ok (.iastore, 1) := by decide +kernel
theorem dX6_put_31 : decode cX6_put 31 = .ok (.aload_n 0, 1) := by decide +kernel
theorem dX6_put_32 : decode cX6_put 32 = .ok (.getfield 18, 3) := by decide +kernel
theorem dX6_put_35 : decode cX6_put 35 = .ok (.aload_n 0, 1) := by decide +kernel
theorem dX6_put_36 : decode cX6_put 36 = .ok (.getfield 22, 3) := by decide +kernel
theorem dX6_put_39 : decode cX6_put 39 = .ok (.lload_n 3, 1) := by decide +kernel
theorem dX6_put_40 : decode cX6_put 40 = .ok (.lastore, 1) := by decide +kernel
theorem dX6_put_41 : decode cX6_put 41 = .ok (.aload_n 0, 1) := by decide +kernel
theorem dX6_put_42 : decode cX6_put 42 = .ok (.dup, 1) := by decide +kernel
theorem dX6_put_43 : decode cX6_put 43 = .ok (.getfield 22, 3) := by decide +kernel
theorem dX6_put_46 : decode cX6_put 46 = .ok (.iconst 1, 1) := by decide +kernel
theorem dX6_put_47 : decode cX6_put 47 = .ok (.iadd, 1) := by decide +kernel
theorem dX6_put_48 : decode cX6_put 48 = .ok (.putfield 22, 3) := by decide +kernel
theorem dX6_put_51 : decode cX6_put 51 = .ok (.return_, 1) := by decide +kernel
theorem dX6_isSmall_0 : decode cX6_isSmall 0 = .ok (.iload_n 0, 1) := by decide +kernel
theorem dX6_isSmall_1 : decode cX6_isSmall 1 = .ok (.bipush 97, 2) := by decide +kernel
theorem dX6_isSmall_3 : decode cX6_isSmall 3 = .ok (.if_icmp .lt 13, 3) := by decide +kernel
theorem dX6_isSmall_6 : decode cX6_isSmall 6 = .ok (.iload_n 0, 1) := by decide +kernel
theorem dX6_isSmall_7 : decode cX6_isSmall 7 = .ok (.bipush 122, 2) := by decide +kernel
theorem dX6_isSmall_9 : decode cX6_isSmall 9 = .ok (.if_icmp .gt 7, 3) := by decide +kernel
theorem dX6_isSmall_12 : decode cX6_isSmall 12 = .ok (.iconst 1, 1) := by decide +kernel
theorem dX6_isSmall_13 : decode cX6_isSmall 13 = .ok (.goto 4, 3) := by decide +kernel
theorem dX6_isSmall_16 : decode cX6_isSmall 16 = .ok (.iconst 0, 1) := by decide +kernel
theorem dX6_isSmall_17 : decode cX6_isSmall 17 = .ok (.ireturn, 1) := by decide +kernel
theorem dX6_isDigit_0 : decode cX6_isDigit 0 = .ok (.iload_n 0, 1) := by decide +kernel
theorem dX6_isDigit_1 : decode cX6_isDigit 1 = .ok (.bipush 48, 2) := by decide +kernel
theorem dX6_isDigit_3 : decode cX6_isDigit 3 = .ok (.if_icmp .lt 13, 3) := by decide +kernel
theorem dX6_isDigit_6 : decode cX6_isDigit 6 = .ok (.iload_n 0, 1) := by decide +kernel
theorem dX6_isDigit_7 : decode cX6_isDigit 7 = .ok (.bipush 57, 2) := by decide +kernel
theorem dX6_isDigit_9 : decode cX6_isDigit 9 = .ok (.if_icmp .gt 7, 3) := by decide +kernel
theorem dX6_isDigit_12 : decode cX6_isDigit 12 = .ok (.iconst 1, 1) := by decide +kernel
theorem dX6_isDigit_13 : decode cX6_isDigit 13 = .ok (.goto 4, 3) := by decide +kernel
theorem dX6_isDigit_16 : decode cX6_isDigit 16 = .ok (.iconst 0, 1) := by decide +kernel
theorem dX6_isDigit_17 : decode cX6_isDigit 17 = .ok (.ireturn, 1) := by decide +kernel
theorem dX7_init_0 : decode cX7_init 0 = .ok (.aload_n 0, 1) := by decide +kernel
theorem dX7_init_1 : decode cX7_init 1 = .ok (.invokespecial 3, 3) := by decide +kernel
theorem dX7_init_4 : decode cX7_init 4 = .ok (.aload_n 0, 1) := by decide +kernel
theorem dX7_init_5 : decode cX7_init 5 = .ok (.aload_n 1, 1) := by decide +kernel
theorem dX7_init_6 : decode cX7_init 6 = .ok (.putfield 9, 3) := by decide +kernel
theorem dX7_init_9 : decode cX7_init 9 = .ok (.return_, 1) := by decide +kernel
theorem dX7_first_0 : decode cX7_first 0 = .ok (.aload_n 0, 1) := by decide +kernel
theorem dX7_first_1 : decode cX7_first 1 = .ok (.getfield 9, 3) := by decide +kernel
theorem dX7_first_4 : decode cX7_first 4 = .ok (.iload_n 1, 1) := by decide +kernel
theorem dX7_first_5 : decode cX7_first 5 = .ok (.invokevirtual 15, 3) := by decide +kernel
theorem dX7_first_8 : decode cX7_first 8 = .ok (.ifCond .eq 15, 3) := by decide +kernel
theorem dX7_first_11 : decode cX7_first 11 = .ok (.aload_n 0, 1) := by decide +kernel
theorem dX7_first_12 : decode cX7_first 12 = .ok (.getfield 9, 3) := by decide +kernel
theorem dX7_first_15 : decode cX7_first 15 = .ok (.getfield 21, 3) := by decide +kernel
theorem dX7_first_18 : decode cX7_first 18 = .ok (.iload_n 1, 1) := by decide +kernel
theorem dX7_first_19 : decode cX7_first 19 = .ok (.aaload, 1) := by decide +kernel
theorem dX7_first_20 : decode cX7_first 20 = .ok (.ifnonnull 5, 3) := by decide +kernel
theorem dX7_first_23 : decode cX7_first 23 = .ok (.iconst (-1), 1) := by decide +kernel
theorem dX7_first_24 : decode cX7_first 24 = .ok (.ireturn, 1) := by decide +kernel
theorem dX7_first_25 : decode cX7_first 25 = .ok (.aload_n 0, 1) := by decide +kernel
theorem dX7_first_26 : decode cX7_first 26 = .ok (.getfield 9, 3) := by decide +kernel
theorem dX7_first_29 : decode cX7_first 29 = .ok (.getfield 21, 3) := by decide +kernel
theorem dX7_first_32 : decode cX7_first 32 = .ok (.iload_n 1, 1) := by decide +kernel
theorem dX7_first_33 : decode cX7_first 33 = .ok (.aaload, 1) := by decide +kernel
theorem dX7_first_34 : decode cX7_first 34 = .ok (.invokevirtual 25, 3) := by decide +kernel
theorem dX7_first_37 : decode cX7_first 37 = .ok (.ifCond .eq 18, 3) := by decide +kernel
theorem dX7_first_40 : decode cX7_first 40 = .ok (.bipush 116, 2) := by decide +kernel
theorem dX7_first_42 : decode cX7_first 42 = .ok (.aload_n 0, 1) := by decide +kernel
theorem dX7_first_43 : decode cX7_first 43 = .ok (.getfield 9, 3) := by decide +kernel
theorem dX7_first_46 : decode cX7_first 46 = .ok (.getfield 31, 3) := by decide +kernel
theorem dX7_first_49 : decode cX7_first 49 = .ok (.iload_n 1, 1) := by decide +kernel
theorem dX7_first_50 : decode cX7_first 50 = .ok (.laload, 1) := by decide +kernel
theorem dX7_first_51 : decode cX7_first 51 = .ok (.invokestatic 35, 3) := by decide +kernel
theorem dX7_first_54 : decode cX7_first 54 = .ok (.ireturn, 1) := by decide +kernel
theorem dX7_first_55 : decode cX7_first 55 = .ok (.aload_n 0, 1) := by decide +kernel
theorem dX7_first_56 : decode cX7_first 56 = .ok (.getfield 9, 3) := by decide +kernel
theorem dX7_first_59 : decode cX7_first 59 = .ok (.getfield 21, 3) := by decide +kernel
theorem dX7_first_62 : decode cX7_first 62 = .ok (.iload_n 1, 1) := by decide +kernel
theorem dX7_first_63 : decode cX7_first 63 = .ok (.aaload, 1) := by decide +kernel
theorem dX7_first_64 : decode cX7_first 64 = .ok (.invokevirtual 39, 3) := by decide +kernel
theorem dX7_first_67 : decode cX7_first 67 = .ok (.ifCond .eq 22, 3) := by decide +kernel
theorem dX7_first_70 : decode cX7_first 70 = .ok (.aload_n 0, 1) := by decide +kernel
theorem dX7_first_71 : decode cX7_first 71 = .ok (.getfield 9, 3) := by decide +kernel
theorem dX7_first_74 : decode cX7_first 74 = .ok (.getfield 31, 3) := by decide +kernel
theorem dX7_first_77 : decode cX7_first 77 = .ok (.iload_n 1, 1) := by decide +kernel
theorem dX7_first_78 : decode cX7_first 78 = .ok (.laload, 1) := by decide +kernel
theorem dX7_first_79 : decode cX7_first 79 = .ok (.invokestatic 42, 3) := by decide +kernel
theorem dX7_first_82 : decode cX7_first 82 = .ok (.ifCond .ne 7, 3) := by decide +kernel
theorem dX7_first_85 : decode cX7_first 85 = .ok (.iconst (-1), 1) := by decide +kernel
theorem dX7_first_86 : decode cX7_first 86 = .ok (.goto 6, 3) := by decide +kernel
theorem dX7_first_89 : decode cX7_first 89 = .ok (.iload_n 1, 1) := by decide +kernel
theorem dX7_first_90 : decode cX7_first 90 = .ok (.iconst 1, 1) := by decide +kernel
theorem dX7_first_91 : decode cX7_first 91 = .ok (.iadd, 1) := by decide +kernel
theorem dX7_first_92 : decode cX7_first 92 = .ok (.ireturn, 1) := by decide +kernel
theorem dX7_second_0 : decode cX7_second 0 = .ok (.aload_n 0, 1) := by decide +kernel
theorem dX7_second_1 : decode cX7_second 1 = .ok (.getfield 9, 3) := by decide +kernel
theorem dX7_second_4 : decode cX7_second 4 = .ok (.iload_n 1, 1) := by decide +kernel
theorem dX7_second_5 : decode cX7_second 5 = .ok (.invokevirtual 15, 3) := by decide +kernel
theorem dX7_second_8 : decode cX7_second 8 = .ok (.ifCond .eq 15, 3) := by decide +kernel
theorem dX7_second_11 : decode cX7_second 11 = .ok (.aload_n 0, 1) := by decide +kernel
theorem dX7_second_12 : decode cX7_second 12 = .ok (.getfield 9, 3) := by decide +kernel
theorem dX7_second_15 : decode cX7_second 15 = .ok (.getfield 21, 3) := by decide +kernel
theorem dX7_second_18 : decode cX7_second 18 = .ok (.iload_n 1, 1) := by decide +kernel
theorem dX7_second_19 : decode cX7_second 19 = .ok (.aaload, 1) := by decide +kernel
theorem dX7_second_20 : decode cX7_second 20 = .ok (.ifnonnull 5, 3) := by decide +kernel
theorem dX7_second_23 : decode cX7_second 23 = .ok (.iconst (-1), 1) := by decide +kernel
theorem dX7_second_24 : decode cX7_second 24 = .ok (.ireturn, 1) := by decide +kernel
theorem dX7_second_25 : decode cX7_second 25 = .ok (.aload_n 0, 1) := by decide +kernel
theorem dX7_second_26 : decode cX7_second 26 = .ok (.getfield 9, 3) := by decide +kernel
theorem dX7_second_29 : decode cX7_second 29 = .ok (.getfield 21, 3) := by decide +kernel
theorem dX7_second_32 : decode cX7_second 32 = .ok (.iload_n 1, 1) := by decide +kernel
theorem dX7_second_33 : decode cX7_second 33 = .ok (.aaload, 1) := by decide +kernel
theorem dX7_second_34 : decode cX7_second 34 = .ok (.invokevirtual 25, 3) := by decide +kernel
theorem dX7_second_37 : decode cX7_second 37 = .ok (.ifCond .eq 24, 3) := by decide +kernel
theorem dX7_second_40 : decode cX7_second 40 = .ok (.aload_n 0, 1) := by decide +kernel
theorem dX7_second_41 : decode cX7_second 41 = .ok (.getfield 9, 3) := by decide +kernel
theorem dX7_second_44 : decode cX7_second 44 = .ok (.getfield 31, 3) := by decide +kernel
theorem dX7_second_47 : decode cX7_second 47 = .ok (.iload_n 1, 1) := by decide +kernel
theorem dX7_second_48 : decode cX7_second 48 = .ok (.laload, 1) := by decide +kernel
theorem dX7_second_49 : decode cX7_second 49 = .ok (.invokestatic 42, 3) := by decide +kernel
theorem dX7_second_52 : decode cX7_second 52 = .ok (.ifCond .eq 9, 3) := by decide +kernel
theorem dX7_second_55 : decode cX7_second 55 = .ok (.iload_n 1, 1) := by decide +kernel
theorem dX7_second_56 : decode cX7_second 56 = .ok (.iconst 1, 1) := by decide +kernel
theorem dX7_second_57 : decode cX7_second 57 = .ok (.iadd, 1) := by decide +kernel
theorem dX7_second_58 : decode cX7_second 58 = .ok (.goto 4, 3) := by decide +kernel
theorem dX7_second_61 : decode cX7_second 61 = .ok (.iconst (-1), 1) := by decide +kernel
theorem dX7_second_62 : decode cX7_second 62 = .ok (.ireturn, 1) := by decide +kernel
theorem dX7_fromStart_0 : decode cX7_fromStart 0 = .ok (.aload_n 0, 1) := by decide +kernel
theorem dX7_fromStart_1 : decode cX7_fromStart 1 = .ok (.iconst 0, 1) := by decide +kernel
theorem dX7_fromStart_2 : decode cX7_fromStart 2 = .ok (.lconst 0, 1) := by decide +kernel
theorem dX7_fromStart_3 : decode cX7_fromStart 3 = .ok (.invokevirtual 46, 3) := by decide +kernel
theorem dX7_fromStart_6 : decode cX7_fromStart 6 = .ok (.lreturn, 1) := by decide +kernel
theorem dX7_comesToRead_0 : decode cX7_comesToRead 0 = .ok (.aload_n 0, 1) := by decide +kernel
theorem dX7_comesToRead_1 : decode cX7_comesToRead 1 = .ok (.iload_n 1, 1) := by decide +kernel
theorem dX7_comesToRead_2 : decode cX7_comesToRead 2 = .ok (.aload_n 0, 1) := by decide +kernel
theorem dX7_comesToRead_3 : decode cX7_comesToRead 3 = .ok (.getfield 9, 3) := by decide +kernel
theorem dX7_comesToRead_6 : decode cX7_comesToRead 6 = .ok (.iload_n 2, 1) := by decide +kernel
theorem dX7_comesToRead_7 : decode cX7_comesToRead 7 = .ok (.invokevirtual 50, 3) := by decide +kernel
theorem dX7_comesToRead_10 : decode cX7_comesToRead 10 = .ok (.invokevirtual 46, 3) := by decide +kernel
theorem dX7_comesToRead_13 : decode cX7_comesToRead 13 = .ok (.aload_n 0, 1) := by decide +kernel
theorem dX7_comesToRead_14 : decode cX7_comesToRead 14 = .ok (.getfield 9, 3) := by decide +kernel
theorem dX7_comesToRead_17 : decode cX7_comesToRead 17 = .ok (.iload_n 2, 1) := by decide +kernel
theorem dX7_comesToRead_18 : decode cX7_comesToRead 18 = .ok (.invokevirtual 54, 3) := by decide +kernel
theorem dX7_comesToRead_21 : decode cX7_comesToRead 21 = .ok (.land, 1) := by decide +kernel
theorem dX7_comesToRead_22 : decode cX7_comesToRead 22 = .ok (.lconst 0, 1) := by decide +kernel
theorem dX7_comesToRead_23 : decode cX7_comesToRead 23 = .ok (.lcmp, 1) := by decide +kernel
theorem dX7_comesToRead_24 : decode cX7_comesToRead 24 = .ok (.ifCond .eq 7, 3) := by decide +kernel
theorem dX7_comesToRead_27 : decode cX7_comesToRead 27 = .ok (.iconst 1, 1) := by decide +kernel
theorem dX7_comesToRead_28 : decode cX7_comesToRead 28 = .ok (.goto 4, 3) := by decide +kernel
theorem dX7_comesToRead_31 : decode cX7_comesToRead 31 = .ok (.iconst 0, 1) := by decide +kernel
theorem dX7_comesToRead_32 : decode cX7_comesToRead 32 = .ok (.ireturn, 1) := by decide +kernel
theorem dX7_meetOf_0 : decode cX7_meetOf 0 = .ok (.aload_n 0, 1) := by decide +kernel
theorem dX7_meetOf_1 : decode cX7_meetOf 1 = .ok (.iload_n 1, 1) := by decide +kernel
theorem dX7_meetOf_2 : decode cX7_meetOf 2 = .ok (.invokevirtual 57, 3) := by decide +kernel
theorem dX7_meetOf_5 : decode cX7_meetOf 5 = .ok (.iconst (-1), 1) := by decide +kernel
theorem dX7_meetOf_6 : decode cX7_meetOf 6 = .ok (.if_icmp .eq 20, 3) := by decide +kernel
theorem dX7_meetOf_9 : decode cX7_meetOf 9 = .ok (.aload_n 0, 1) := by decide +kernel
theorem dX7_meetOf_10 : decode cX7_meetOf 10 = .ok (.iload_n 1, 1) := by decide +kernel
theorem dX7_meetOf_11 : decode cX7_meetOf 11 = .ok (.invokevirtual 61, 3) := by decide +kernel
theorem dX7_meetOf_14 : decode cX7_meetOf 14 = .ok (.aload_n 0, 1) := by decide +kernel
theorem dX7_meetOf_15 : decode cX7_meetOf 15 = .ok (.iload_n 1, 1) := by decide +kernel
theorem dX7_meetOf_16 : decode cX7_meetOf 16 = .ok (.invokevirtual 57, 3) := by decide +kernel
theorem dX7_meetOf_19 : decode cX7_meetOf 19 = .ok (.if_icmp .eq 7, 3) := by decide +kernel
theorem dX7_meetOf_22 : decode cX7_meetOf 22 = .ok (.iconst 1, 1) := by decide +kernel
theorem dX7_meetOf_23 : decode cX7_meetOf 23 = .ok (.goto 4, 3) := by decide +kernel
theorem dX7_meetOf_26 : decode cX7_meetOf 26 = .ok (.iconst 0, 1) := by decide +kernel
theorem dX7_meetOf_27 : decode cX7_meetOf 27 = .ok (.istore_n 2, 1) := by decide +kernel
theorem dX7_meetOf_28 : decode cX7_meetOf 28 = .ok (.iload_n 2, 1) := by decide +kernel
theorem dX7_meetOf_29 : decode cX7_meetOf 29 = .ok (.ifCond .eq 34, 3) := by decide +kernel
theorem dX7_meetOf_32 : decode cX7_meetOf 32 = .ok (.aload_n 0, 1) := by decide +kernel
theorem dX7_meetOf_33 : decode cX7_meetOf 33 = .ok (.invokevirtual 64, 3) := by decide +kernel
theorem dX7_meetOf_36 : decode cX7_meetOf 36 = .ok (.aload_n 0, 1) := by decide +kernel
theorem dX7_meetOf_37 : decode cX7_meetOf 37 = .ok (.getfield 9, 3) := by decide +kernel
theorem dX7_meetOf_40 : decode cX7_meetOf 40 = .ok (.iload_n 1, 1) := by decide +kernel
theorem dX7_meetOf_41 : decode cX7_meetOf 41 = .ok (.invokevirtual 68, 3) := by decide +kernel
theorem dX7_meetOf_44 : decode cX7_meetOf 44 = .ok (.land, 1) := by decide +kernel
theorem dX7_meetOf_45 : decode cX7_meetOf 45 = .ok (.lconst 0, 1) := by decide +kernel
theorem dX7_meetOf_46 : decode cX7_meetOf 46 = .ok (.lcmp, 1) := by decide +kernel
theorem dX7_meetOf_47 : decode cX7_meetOf 47 = .ok (.ifCond .eq 16, 3) := by decide +kernel
theorem dX7_meetOf_50 : decode cX7_meetOf 50 = .ok (.aload_n 0, 1) := by decide +kernel
theorem dX7_meetOf_51 : decode cX7_meetOf 51 = .ok (.aload_n 0, 1) := by decide +kernel
theorem dX7_meetOf_52 : decode cX7_meetOf 52 = .ok (.iload_n 1, 1) := by decide +kernel
theorem dX7_meetOf_53 : decode cX7_meetOf 53 = .ok (.lconst 0, 1) := by decide +kernel
theorem dX7_meetOf_54 : decode cX7_meetOf 54 = .ok (.invokevirtual 46, 3) := by decide +kernel
theorem dX7_meetOf_57 : decode cX7_meetOf 57 = .ok (.invokevirtual 71, 3) := by decide +kernel
theorem dX7_meetOf_60 : decode cX7_meetOf 60 = .ok (.ifCond .ne 5, 3) := by decide +kernel
theorem dX7_meetOf_63 : decode cX7_meetOf 63 = .ok (.iconst (-1), 1) := by decide +kernel
theorem dX7_meetOf_64 : decode cX7_meetOf 64 = .ok (.ireturn, 1) := by decide +kernel
theorem dX7_meetOf_65 : decode cX7_meetOf 65 = .ok (.aload_n 0, 1) := by decide +kernel
theorem dX7_meetOf_66 : decode cX7_meetOf 66 = .ok (.iload_n 1, 1) := by decide +kernel
theorem dX7_meetOf_67 : decode cX7_meetOf 67 = .ok (.invokevirtual 74, 3) := by decide +kernel
theorem dX7_meetOf_70 : decode cX7_meetOf 70 = .ok (.lstore_n 3, 1) := by decide +kernel
theorem dX7_meetOf_71 : decode cX7_meetOf 71 = .ok (.iconst 0, 1) := by decide +kernel
theorem dX7_meetOf_72 : decode cX7_meetOf 72 = .ok (.istore 5, 2) := by decide +kernel
theorem dX7_meetOf_74 : decode cX7_meetOf 74 = .ok (.iload 5, 2) := by decide +kernel
theorem dX7_meetOf_76 : decode cX7_meetOf 76 = .ok (.aload_n 0, 1) := by decide +kernel
theorem dX7_meetOf_77 : decode cX7_meetOf 77 = .ok (.getfield 9, 3) := by decide +kernel
theorem dX7_meetOf_80 : decode cX7_meetOf 80 = .ok (.getfield 77, 3) := by decide +kernel
theorem dX7_meetOf_83 : decode cX7_meetOf 83 = .ok (.if_icmp .ge 47, 3) := by decide +kernel
theorem dX7_meetOf_86 : decode cX7_meetOf 86 = .ok (.aload_n 0, 1) := by decide +kernel
theorem dX7_meetOf_87 : decode cX7_meetOf 87 = .ok (.getfield 9, 3) := by decide +kernel
theorem dX7_meetOf_90 : decode cX7_meetOf 90 = .ok (.iload 5, 2) := by decide +kernel
theorem dX7_meetOf_92 : decode cX7_meetOf 92 = .ok (.invokevirtual 68, 3) := by decide +kernel
theorem dX7_meetOf_95 : decode cX7_meetOf 95 = .ok (.lstore 6, 2) := by decide +kernel
theorem dX7_meetOf_97 : decode cX7_meetOf 97 = .ok (.lload_n 3, 1) := by decide +kernel
theorem dX7_meetOf_98 : decode cX7_meetOf 98 = .ok (.lload 6, 2) := by decide +kernel
theorem dX7_meetOf_100 : decode cX7_meetOf 100 = .ok (.land, 1) := by decide +kernel
theorem dX7_meetOf_101 : decode cX7_meetOf 101 = .ok (.lconst 0, 1) := by decide +kernel
theorem dX7_meetOf_102 : decode cX7_meetOf 102 = .ok (.lcmp, 1) := by decide +kernel
theorem dX7_meetOf_103 : decode cX7_meetOf 103 = .ok (.ifCond .eq 21, 3) := by decide +kernel
theorem dX7_meetOf_106 : decode cX7_meetOf 106 = .ok (.aload_n 0, 1) := by decide +kernel
theorem dX7_meetOf_107 : decode cX7_meetOf 107 = .ok (.iload_n 1, 1) := by decide +kernel
theorem dX7_meetOf_108 : decode cX7_meetOf 108 = .ok (.lload 6, 2) := by decide +kernel
theorem dX7_meetOf_110 : decode cX7_meetOf 110 = .ok (.invokevirtual 46, 3) := by decide +kernel
theorem dX7_meetOf_113 : decode cX7_meetOf 113 = .ok (.lload_n 3, 1) := by decide +kernel
theorem dX7_meetOf_114 : decode cX7_meetOf 114 = .ok (.land, 1) := by decide +kernel
theorem dX7_meetOf_115 : decode cX7_meetOf 115 = .ok (.lload 6, 2) := by decide +kernel
theorem dX7_meetOf_117 : decode cX7_meetOf 117 = .ok (.lcmp, 1) := by decide +kernel
theorem dX7_meetOf_118 : decode cX7_meetOf 118 = .ok (.ifCond .ne 6, 3) := by decide +kernel
theorem dX7_meetOf_121 : decode cX7_meetOf 121 = .ok (.iload 5, 2) := by decide +kernel
theorem dX7_meetOf_123 : decode cX7_meetOf 123 = .ok (.ireturn, 1) := by decide +kernel
theorem dX7_meetOf_124 : decode cX7_meetOf 124 = .ok (.iinc 5 1, 3) := by decide +kernel
theorem dX7_meetOf_127 : decode cX7_meetOf 127 = .ok (.goto (-53), 3) := by decide +kernel
theorem dX7_meetOf_130 : decode cX7_meetOf 130 = .ok (.iconst (-1), 1) := by decide +kernel
theorem dX7_meetOf_131 : decode cX7_meetOf 131 = .ok (.ireturn, 1) := by decide +kernel
theorem dX7_throughAll_0 : decode cX7_throughAll 0 = .ok (.lconst 0, 1) := by decide +kernel
theorem dX7_throughAll_1 : decode cX7_throughAll 1 = .ok (.lstore_n 2, 1) := by decide +kernel
theorem dX7_throughAll_2 : decode cX7_throughAll 2 = .ok (.iconst 0, 1) := by decide +kernel
theorem dX7_throughAll_3 : decode cX7_throughAll 3 = .ok (.istore 4, 2) := by decide +kernel
theorem dX7_throughAll_5 : decode cX7_throughAll 5 = .ok (.iload 4, 2) := by decide +kernel
theorem dX7_throughAll_7 : decode cX7_throughAll 7 = .ok (.aload_n 0, 1) := by decide +kernel
theorem dX7_throughAll_8 : decode cX7_throughAll 8 = .ok (.getfield 9, 3) := by decide +kernel
theorem dX7_throughAll_11 : decode cX7_throughAll 11 = .ok (.getfield 77, 3) := by decide +kernel
theorem dX7_throughAll_14 : decode cX7_throughAll 14 = .ok (.if_icmp .ge 52, 3) := by decide +kernel
theorem dX7_throughAll_17 : decode cX7_throughAll 17 = .ok (.aload_n 0, 1) := by decide +kernel
theorem dX7_throughAll_18 : decode cX7_throughAll 18 = .ok (.getfield 9, 3) := by decide +kernel
theorem dX7_throughAll_21 : decode cX7_throughAll 21 = .ok (.iload 4, 2) := by decide +kernel
theorem dX7_throughAll_23 : decode cX7_throughAll 23 = .ok (.invokevirtual 68, 3) := by decide +kernel
theorem dX7_throughAll_26 : decode cX7_throughAll 26 = .ok (.lstore 5, 2) := by decide +kernel
theorem dX7_throughAll_28 : decode cX7_throughAll 28 = .ok (.iload 4, 2) := by decide +kernel
theorem dX7_throughAll_30 : decode cX7_throughAll 30 = .ok (.iload_n 1, 1) := by decide +kernel
theorem dX7_throughAll_31 : decode cX7_throughAll 31 = .ok (.if_icmp .eq 29, 3) := by decide +kernel
theorem dX7_throughAll_34 : decode cX7_throughAll 34 = .ok (.aload_n 0, 1) := by decide +kernel
theorem dX7_throughAll_35 : decode cX7_throughAll 35 = .ok (.aload_n 0, 1) := by decide +kernel
theorem dX7_throughAll_36 : decode cX7_throughAll 36 = .ok (.iload_n 1, 1) := by decide +kernel
theorem dX7_throughAll_37 : decode cX7_throughAll 37 = .ok (.lload 5, 2) := by decide +kernel
theorem dX7_throughAll_39 : decode cX7_throughAll 39 = .ok (.invokevirtual 46, 3) := by decide +kernel
theorem dX7_throughAll_42 : decode cX7_throughAll 42 = .ok (.lload 5, 2) := by decide +kernel
theorem dX7_throughAll_44 : decode cX7_throughAll 44 = .ok (.ldc2_w 81, 3) := by decide +kernel
theorem dX7_throughAll_47 : decode cX7_throughAll 47 = .ok (.lxor, 1) := by decide +kernel
theorem dX7_throughAll_48 : decode cX7_throughAll 48 = .ok (.land, 1) := by decide +kernel
theorem dX7_throughAll_49 : decode cX7_throughAll 49 = .ok (.invokevirtual 71, 3) := by decide +kernel
theorem dX7_throughAll_52 : decode cX7_throughAll 52 = .ok (.ifCond .ne 8, 3) := by decide +kernel
theorem dX7_throughAll_55 : decode cX7_throughAll 55 = .ok (.lload_n 2, 1) := by decide +kernel
theorem dX7_throughAll_56 : decode cX7_throughAll 56 = .ok (.lload 5, 2) := by decide +kernel
theorem dX7_throughAll_58 : decode cX7_throughAll 58 = .ok (.lor, 1) := by decide +kernel
theorem dX7_throughAll_59 : decode cX7_throughAll 59 = .ok (.lstore_n 2, 1) := by decide +kernel
theorem dX7_throughAll_60 : decode cX7_throughAll 60 = .ok (.iinc 4 1, 3) := by decide +kernel
theorem dX7_throughAll_63 : decode cX7_throughAll 63 = .ok (.goto (-58), 3) := by decide +kernel
theorem dX7_throughAll_66 : decode cX7_throughAll 66 = .ok (.lload_n 2, 1) := by decide +kernel
theorem dX7_throughAll_67 : decode cX7_throughAll 67 = .ok (.lreturn, 1) := by decide +kernel
theorem dX7_walk_0 : decode cX7_walk 0 = .ok (.aload_n 0, 1) := by decide +kernel
theorem dX7_walk_1 : decode cX7_walk 1 = .ok (.getfield 9, 3) := by decide +kernel
theorem dX7_walk_4 : decode cX7_walk 4 = .ok (.iload_n 1, 1) := by decide +kernel
theorem dX7_walk_5 : decode cX7_walk 5 = .ok (.invokevirtual 68, 3) := by decide +kernel
theorem dX7_walk_8 : decode cX7_walk 8 = .ok (.lstore 4, 2) := by decide +kernel
theorem dX7_walk_10 : decode cX7_walk 10 = .ok (.lload 4, 2) := by decide +kernel
theorem dX7_walk_12 : decode cX7_walk 12 = .ok (.lload_n 2, 1) := by decide +kernel
theorem dX7_walk_13 : decode cX7_walk 13 = .ok (.ldc2_w 81, 3) := by decide +kernel
theorem dX7_walk_16 : decode cX7_walk 16 = .ok (.lxor, 1) := by decide +kernel
theorem dX7_walk_17 : decode cX7_walk 17 = .ok (.land, 1) := by decide +kernel
theorem dX7_walk_18 : decode cX7_walk 18 = .ok (.lstore 6, 2) := by decide +kernel
theorem dX7_walk_20 : decode cX7_walk 20 = .ok (.iconst 0, 1) := by decide +kernel
theorem dX7_walk_21 : decode cX7_walk 21 = .ok (.istore 8, 2) := by decide +kernel
theorem dX7_walk_23 : decode cX7_walk 23 = .ok (.iload 8, 2) := by decide +kernel
theorem dX7_walk_25 : decode cX7_walk 25 = .ok (.bipush 64, 2) := by decide +kernel
theorem dX7_walk_27 : decode cX7_walk 27 = .ok (.if_icmp .ge 92, 3) := by decide +kernel
theorem dX7_walk_30 : decode cX7_walk 30 = .ok (.lload 6, 2) := by decide +kernel
theorem dX7_walk_32 : decode cX7_walk 32 = .ok (.lconst 0, 1) := by decide +kernel
theorem dX7_walk_33 : decode cX7_walk 33 = .ok (.lcmp, 1) := by decide +kernel
theorem dX7_walk_34 : decode cX7_walk 34 = .ok (.ifCond .eq 85, 3) := by decide +kernel
theorem dX7_walk_37 : decode cX7_walk 37 = .ok (.lload 6, 2) := by decide +kernel
theorem dX7_walk_39 : decode cX7_walk 39 = .ok (.lload 6, 2) := by decide +kernel
theorem dX7_walk_41 : decode cX7_walk 41 = .ok (.lneg, 1) := by decide +kernel
theorem dX7_walk_42 : decode cX7_walk 42 = .ok (.land, 1) := by decide +kernel
theorem dX7_walk_43 : decode cX7_walk 43 = .ok (.lstore 9, 2) := by decide +kernel
theorem dX7_walk_45 : decode cX7_walk 45 = .ok (.lload 9, 2) := by decide +kernel
theorem dX7_walk_47 : decode cX7_walk 47 = .ok (.lconst 1, 1) := by decide +kernel
theorem dX7_walk_48 : decode cX7_walk 48 = .ok (.lsub, 1) := by decide +kernel
theorem dX7_walk_49 : decode cX7_walk 49 = .ok (.invokestatic 83, 3) := by decide +kernel
theorem dX7_walk_52 : decode cX7_walk 52 = .ok (.istore 11, 2) := by decide +kernel
theorem dX7_walk_54 : decode cX7_walk 54 = .ok (.aload_n 0, 1) := by decide +kernel
theorem dX7_walk_55 : decode cX7_walk 55 = .ok (.getfield 9, 3) := by decide +kernel
theorem dX7_walk_58 : decode cX7_walk 58 = .ok (.aload_n 0, 1) := by decide +kernel
theorem dX7_walk_59 : decode cX7_walk 59 = .ok (.iload 11, 2) := by decide +kernel
theorem dX7_walk_61 : decode cX7_walk 61 = .ok (.invokevirtual 61, 3) := by decide +kernel
theorem dX7_walk_64 : decode cX7_walk 64 = .ok (.invokevirtual 68, 3) := by decide +kernel
theorem dX7_walk_67 : decode cX7_walk 67 = .ok (.aload_n 0, 1) := by decide +kernel
theorem dX7_walk_68 : decode cX7_walk 68 = .ok (.getfield 9, 3) := by decide +kernel
theorem dX7_walk_71 : decode cX7_walk 71 = .ok (.aload_n 0, 1) := by decide +kernel
theorem dX7_walk_72 : decode cX7_walk 72 = .ok (.iload 11, 2) := by decide +kernel
theorem dX7_walk_74 : decode cX7_walk 74 = .ok (.invokevirtual 57, 3) := by decide +kernel
theorem dX7_walk_77 : decode cX7_walk 77 = .ok (.invokevirtual 68, 3) := by decide +kernel
theorem dX7_walk_80 : decode cX7_walk 80 = .ok (.lor, 1) := by decide +kernel
theorem dX7_walk_81 : decode cX7_walk 81 = .ok (.lload 4, 2) := by decide +kernel
theorem dX7_walk_83 : decode cX7_walk 83 = .ok (.ldc2_w 81, 3) := by decide +kernel
theorem dX7_walk_86 : decode cX7_walk 86 = .ok (.lxor, 1) := by decide +kernel
theorem dX7_walk_87 : decode cX7_walk 87 = .ok (.land, 1) := by decide +kernel
theorem dX7_walk_88 : decode cX7_walk 88 = .ok (.lstore 12, 2) := by decide +kernel
theorem dX7_walk_90 : decode cX7_walk 90 = .ok (.lload 4, 2) := by decide +kernel
theorem dX7_walk_92 : decode cX7_walk 92 = .ok (.lload 12, 2) := by decide +kernel
theorem dX7_walk_94 : decode cX7_walk 94 = .ok (.lor, 1) := by decide +kernel
theorem dX7_walk_95 : decode cX7_walk 95 = .ok (.lstore 4, 2) := by decide +kernel
theorem dX7_walk_97 : decode cX7_walk 97 = .ok (.lload 6, 2) := by decide +kernel
theorem dX7_walk_99 : decode cX7_walk 99 = .ok (.lload 9, 2) := by decide +kernel
theorem dX7_walk_101 : decode cX7_walk 101 = .ok (.lxor, 1) := by decide +kernel
theorem dX7_walk_102 : decode cX7_walk 102 = .ok (.lload 12, 2) := by decide +kernel
theorem dX7_walk_104 : decode cX7_walk 104 = .ok (.lload_n 2, 1) := by decide +kernel
theorem dX7_walk_105 : decode cX7_walk 105 = .ok (.ldc2_w 81, 3) := by decide +kernel
theorem dX7_walk_108 : decode cX7_walk 108 = .ok (.lxor, 1) := by decide +kernel
theorem dX7_walk_109 : decode cX7_walk 109 = .ok (.land, 1) := by decide +kernel
theorem dX7_walk_110 : decode cX7_walk 110 = .ok (.lor, 1) := by decide +kernel
theorem dX7_walk_111 : decode cX7_walk 111 = .ok (.lstore 6, 2) := by decide +kernel
theorem dX7_walk_113 : decode cX7_walk 113 = .ok (.iinc 8 1, 3) := by decide +kernel
theorem dX7_walk_116 : decode cX7_walk 116 = .ok (.goto (-93), 3) := by decide +kernel
theorem dX7_walk_119 : decode cX7_walk 119 = .ok (.lload 4, 2) := by decide +kernel
theorem dX7_walk_121 : decode cX7_walk 121 = .ok (.lreturn, 1) := by decide +kernel
theorem dX7_hasEnd_0 : decode cX7_hasEnd 0 = .ok (.iconst 0, 1) := by decide +kernel
theorem dX7_hasEnd_1 : decode cX7_hasEnd 1 = .ok (.istore_n 3, 1) := by decide +kernel
theorem dX7_hasEnd_2 : decode cX7_hasEnd 2 = .ok (.iload_n 3, 1) := by decide +kernel
theorem dX7_hasEnd_3 : decode cX7_hasEnd 3 = .ok (.aload_n 0, 1) := by decide +kernel
theorem dX7_hasEnd_4 : decode cX7_hasEnd 4 = .ok (.getfield 9, 3) := by decide +kernel
theorem dX7_hasEnd_7 : decode cX7_hasEnd 7 = .ok (.getfield 77, 3) := by decide +kernel
theorem dX7_hasEnd_10 : decode cX7_hasEnd 10 = .ok (.if_icmp .ge 34, 3) := by decide +kernel
theorem dX7_hasEnd_13 : decode cX7_hasEnd 13 = .ok (.lload_n 1, 1) := by decide +kernel
theorem dX7_hasEnd_14 : decode cX7_hasEnd 14 = .ok (.aload_n 0, 1) := by decide +kernel
theorem dX7_hasEnd_15 : decode cX7_hasEnd 15 = .ok (.getfield 9, 3) := by decide +kernel
theorem dX7_hasEnd_18 : decode cX7_hasEnd 18 = .ok (.iload_n 3, 1) := by decide +kernel
theorem dX7_hasEnd_19 : decode cX7_hasEnd 19 = .ok (.invokevirtual 68, 3) := by decide +kernel
theorem dX7_hasEnd_22 : decode cX7_hasEnd 22 = .ok (.land, 1) := by decide +kernel
theorem dX7_hasEnd_23 : decode cX7_hasEnd 23 = .ok (.lconst 0, 1) := by decide +kernel
theorem dX7_hasEnd_24 : decode cX7_hasEnd 24 = .ok (.lcmp, 1) := by decide +kernel
theorem dX7_hasEnd_25 : decode cX7_hasEnd 25 = .ok (.ifCond .eq 13, 3) := by decide +kernel
theorem dX7_hasEnd_28 : decode cX7_hasEnd 28 = .ok (.aload_n 0, 1) := by decide +kernel
theorem dX7_hasEnd_29 : decode cX7_hasEnd 29 = .ok (.iload_n 3, 1) := by decide +kernel
theorem dX7_hasEnd_30 : decode cX7_hasEnd 30 = .ok (.invokevirtual 89, 3) := by decide +kernel
theorem dX7_hasEnd_33 : decode cX7_hasEnd 33 = .ok (.ifCond .eq 5, 3) := by decide +kernel
theorem dX7_hasEnd_36 : decode cX7_hasEnd 36 = .ok (.iconst 1, 1) := by decide +kernel
theorem dX7_hasEnd_37 : decode cX7_hasEnd 37 = .ok (.ireturn, 1) := by decide +kernel
theorem dX7_hasEnd_38 : decode cX7_hasEnd 38 = .ok (.iinc 3 1, 3) := by decide +kernel
theorem dX7_hasEnd_41 : decode cX7_hasEnd 41 = .ok (.goto (-39), 3) := by decide +kernel
theorem dX7_hasEnd_44 : decode cX7_hasEnd 44 = .ok (.iconst 0, 1) := by decide +kernel
theorem dX7_hasEnd_45 : decode cX7_hasEnd 45 = .ok (.ireturn, 1) := by decide +kernel
theorem dX7_isEnd_0 : decode cX7_isEnd 0 = .ok (.aload_n 0, 1) := by decide +kernel
theorem dX7_isEnd_1 : decode cX7_isEnd 1 = .ok (.iload_n 1, 1) := by decide +kernel
theorem dX7_isEnd_2 : decode cX7_isEnd 2 = .ok (.invokevirtual 57, 3) := by decide +kernel
theorem dX7_isEnd_5 : decode cX7_isEnd 5 = .ok (.iconst (-1), 1) := by decide +kernel
theorem dX7_isEnd_6 : decode cX7_isEnd 6 = .ok (.if_icmp .eq 22, 3) := by decide +kernel
theorem dX7_isEnd_9 : decode cX7_isEnd 9 = .ok (.aload_n 0, 1) := by decide +kernel
theorem dX7_isEnd_10 : decode cX7_isEnd 10 = .ok (.getfield 9, 3) := by decide +kernel
theorem dX7_isEnd_13 : decode cX7_isEnd 13 = .ok (.aload_n 0, 1) := by decide +kernel
theorem dX7_isEnd_14 : decode cX7_isEnd 14 = .ok (.iload_n 1, 1) := by decide +kernel
theorem dX7_isEnd_15 : decode cX7_isEnd 15 = .ok (.invokevirtual 57, 3) := by decide +kernel
theorem dX7_isEnd_18 : decode cX7_isEnd 18 = .ok (.invokevirtual 15, 3) := by decide +kernel
theorem dX7_isEnd_21 : decode cX7_isEnd 21 = .ok (.ifCond .ne 7, 3) := by decide +kernel
theorem dX7_isEnd_24 : decode cX7_isEnd 24 = .ok (.iconst 1, 1) := by decide +kernel
theorem dX7_isEnd_25 : decode cX7_isEnd 25 = .ok (.goto 4, 3) := by decide +kernel
theorem dX7_isEnd_28 : decode cX7_isEnd 28 = .ok (.iconst 0, 1) := by decide +kernel
theorem dX7_isEnd_29 : decode cX7_isEnd 29 = .ok (.istore_n 2, 1) := by decide +kernel
theorem dX7_isEnd_30 : decode cX7_isEnd 30 = .ok (.iload_n 2, 1) := by decide +kernel
theorem dX7_isEnd_31 : decode cX7_isEnd 31 = .ok (.ifCond .ne 18, 3) := by decide +kernel
theorem dX7_isEnd_34 : decode cX7_isEnd 34 = .ok (.aload_n 0, 1) := by decide +kernel
theorem dX7_isEnd_35 : decode cX7_isEnd 35 = .ok (.getfield 9, 3) := by decide +kernel
theorem dX7_isEnd_38 : decode cX7_isEnd 38 = .ok (.aload_n 0, 1) := by decide +kernel
theorem dX7_isEnd_39 : decode cX7_isEnd 39 = .ok (.iload_n 1, 1) := by decide +kernel
theorem dX7_isEnd_40 : decode cX7_isEnd 40 = .ok (.invokevirtual 61, 3) := by decide +kernel
theorem dX7_isEnd_43 : decode cX7_isEnd 43 = .ok (.invokevirtual 15, 3) := by decide +kernel
theorem dX7_isEnd_46 : decode cX7_isEnd 46 = .ok (.ifCond .ne 7, 3) := by decide +kernel
theorem dX7_isEnd_49 : decode cX7_isEnd 49 = .ok (.iconst 1, 1) := by decide +kernel
theorem dX7_isEnd_50 : decode cX7_isEnd 50 = .ok (.goto 4, 3) := by decide +kernel
theorem dX7_isEnd_53 : decode cX7_isEnd 53 = .ok (.iconst 0, 1) := by decide +kernel
theorem dX7_isEnd_54 : decode cX7_isEnd 54 = .ok (.ireturn, 1) := by decide +kernel
theorem dX8_init_0 : decode cX8_init 0 = .ok (.aload_n 0, 1) := by decide +kernel
theorem dX8_init_1 : decode cX8_init 1 = .ok (.invokespecial 1, 3) := by decide +kernel
theorem dX8_init_4 : decode cX8_init 4 = .ok (.aload_n 0, 1) := by decide +kernel
theorem dX8_init_5 : decode cX8_init 5 = .ok (.new 7, 3) := by decide +kernel
theorem dX8_init_8 : decode cX8_init 8 = .ok (.dup, 1) := by decide +kernel
theorem dX8_init_9 : decode cX8_init 9 = .ok (.invokespecial 9, 3) := by decide +kernel
theorem dX8_init_12 : decode cX8_init 12 = .ok (.putfield 10, 3) := by decide +kernel
theorem dX8_init_15 : decode cX8_init 15 = .ok (.aload_n 0, 1) := by decide +kernel
theorem dX8_init_16 : decode cX8_init 16 = .ok (.new 16, 3) := by decide +kernel
theorem dX8_init_19 : decode cX8_init 19 = .ok (.dup, 1) := by decide +kernel
theorem dX8_init_20 : decode cX8_init 20 = .ok (.aload_n 0, 1) := by decide +kernel
theorem dX8_init_21 : decode cX8_init 21 = .ok (.getfield 10, 3) := by decide +kernel
theorem dX8_init_24 : decode cX8_init 24 = .ok (.invokespecial 18, 3) := by decide +kernel
theorem dX8_init_27 : decode cX8_init 27 = .ok (.putfield 21, 3) := by decide +kernel
theorem dX8_init_30 : decode cX8_init 30 = .ok (.aload_n 0, 1) := by decide +kernel
theorem dX8_init_31 : decode cX8_init 31 = .ok (.new 25, 3) := by decide +kernel
theorem dX8_init_34 : decode cX8_init 34 = .ok (.dup, 1) := by decide +kernel
theorem dX8_init_35 : decode cX8_init 35 = .ok (.invokespecial 27, 3) := by decide +kernel
theorem dX8_init_38 : decode cX8_init 38 = .ok (.putfield 28, 3) := by decide +kernel
theorem dX8_init_41 : decode cX8_init 41 = .ok (.aload_n 0, 1) := by decide +kernel
theorem dX8_init_42 : decode cX8_init 42 = .ok (.new 32, 3) := by decide +kernel
theorem dX8_init_45 : decode cX8_init 45 = .ok (.dup, 1) := by decide +kernel
theorem dX8_init_46 : decode cX8_init 46 = .ok (.invokespecial 34, 3) := by decide +kernel
theorem dX8_init_49 : decode cX8_init 49 = .ok (.putfield 35, 3) := by decide +kernel
theorem dX8_init_52 : decode cX8_init 52 = .ok (.aload_n 0, 1) := by decide +kernel
theorem dX8_init_53 : decode cX8_init 53 = .ok (.new 39, 3) := by decide +kernel
theorem dX8_init_56 : decode cX8_init 56 = .ok (.dup, 1) := by decide +kernel
theorem dX8_init_57 : decode cX8_init 57 = .ok (.aload_n 0, 1) := by decide +kernel
theorem dX8_init_58 : decode cX8_init 58 = .ok (.getfield 35, 3) := by decide +kernel
theorem dX8_init_61 : decode cX8_init 61 = .ok (.invokespecial 41, 3) := by decide +kernel
theorem dX8_init_64 : decode cX8_init 64 = .ok (.putfield 44, 3) := by decide +kernel
theorem dX8_init_67 : decode cX8_init 67 = .ok (.aload_n 0, 1) := by decide +kernel
theorem dX8_init_68 : decode cX8_init 68 = .ok (.new 48, 3) := by decide +kernel
theorem dX8_init_71 : decode cX8_init 71 = .ok (.dup, 1) := by decide +kernel
theorem dX8_init_72 : decode cX8_init 72 = .ok (.invokespecial 50, 3) := by decide +kernel
theorem dX8_init_75 : decode cX8_init 75 = .ok (.putfield 51, 3) := by decide +kernel
theorem dX8_init_78 : decode cX8_init 78 = .ok (.return_, 1) := by decide +kernel
theorem dX8_type_0 : decode cX8_type 0 = .ok (.aload_n 0, 1) := by decide +kernel
theorem dX8_type_1 : decode cX8_type 1 = .ok (.getfield 10, 3) := by decide +kernel
theorem dX8_type_4 : decode cX8_type 4 = .ok (.lload_n 1, 1) := by decide +kernel
theorem dX8_type_5 : decode cX8_type 5 = .ok (.iload_n 3, 1) := by decide +kernel
theorem dX8_type_6 : decode cX8_type 6 = .ok (.invokevirtual 55, 3) := by decide +kernel
theorem dX8_type_9 : decode cX8_type 9 = .ok (.ireturn, 1) := by decide +kernel
theorem dX8_compile_0 : decode cX8_compile 0 = .ok (.aload_n 0, 1) := by decide +kernel
theorem dX8_compile_1 : decode cX8_compile 1 = .ok (.getfield 21, 3) := by decide +kernel
theorem dX8_compile_4 : decode cX8_compile 4 = .ok (.invokevirtual 59, 3) := by decide +kernel
theorem dX8_compile_7 : decode cX8_compile 7 = .ok (.istore_n 1, 1) := by decide +kernel
theorem dX8_compile_8 : decode cX8_compile 8 = .ok (.aload_n 0, 1) := by decide +kernel
theorem dX8_compile_9 : decode cX8_compile 9 = .ok (.getfield 10, 3) := by decide +kernel
theorem dX8_compile_12 : decode cX8_compile 12 = .ok (.iconst 0, 1) := by decide +kernel
theorem dX8_compile_13 : decode cX8_compile 13 = .ok (.putfield 63, 3) := by decide +kernel
theorem dX8_compile_16 : decode cX8_compile 16 = .ok (.iload_n 1, 1) := by decide +kernel
theorem dX8_compile_17 : decode cX8_compile 17 = .ok (.ifCond .ne 13, 3) := by decide +kernel
theorem dX8_compile_20 : decode cX8_compile 20 = .ok (.new 67, 3) := by decide +kernel
theorem dX8_compile_23 : decode cX8_compile 23 = .ok (.dup, 1) := by decide +kernel
theorem dX8_compile_24 : decode cX8_compile 24 = .ok (.ldc 69, 2) := by decide +kernel
theorem dX8_compile_26 : decode cX8_compile 26 = .ok (.invokespecial 71, 3) := by decide +kernel
theorem dX8_compile_29 : decode cX8_compile 29 = .ok (.athrow, 1) := by decide +kernel
theorem dX8_compile_30 : decode cX8_compile 30 = .ok (.aload_n 0, 1) := by decide +kernel
theorem dX8_compile_31 : decode cX8_compile 31 = .ok (.getfield 35, 3) := by decide +kernel
theorem dX8_compile_34 : decode cX8_compile 34 = .ok (.aload_n 0, 1) := by decide +kernel
theorem dX8_compile_35 : decode cX8_compile 35 = .ok (.getfield 21, 3) := by decide +kernel
theorem dX8_compile_38 : decode cX8_compile 38 = .ok (.getfield 74, 3) := by decide +kernel
theorem dX8_compile_41 : decode cX8_compile 41 = .ok (.aload_n 0, 1) := by decide +kernel
theorem dX8_compile_42 : decode cX8_compile 42 = .ok (.getfield 21, 3) := by decide +kernel
theorem dX8_compile_45 : decode cX8_compile 45 = .ok (.getfield 78, 3) := by decide +kernel
theorem dX8_compile_48 : decode cX8_compile 48 = .ok (.invokevirtual 81, 3) := by decide +kernel
theorem dX8_compile_51 : decode cX8_compile 51 = .ok (.aload_n 0, 1) := by decide +kernel
theorem dX8_compile_52 : decode cX8_compile 52 = .ok (.getfield 28, 3) := by decide +kernel
theorem dX8_compile_55 : decode cX8_compile 55 = .ok (.aload_n 0, 1) := by decide +kernel
theorem dX8_compile_56 : decode cX8_compile 56 = .ok (.getfield 21, 3) := by decide +kernel
theorem dX8_compile_59 : decode cX8_compile 59 = .ok (.getfield 85, 3) := by decide +kernel
theorem dX8_compile_62 : decode cX8_compile 62 = .ok (.invokevirtual 88, 3) := by decide +kernel
theorem dX8_compile_65 : decode cX8_compile 65 = .ok (.aload_n 0, 1) := by decide +kernel
theorem dX8_compile_66 : decode cX8_compile 66 = .ok (.getfield 35, 3) := by decide +kernel
theorem dX8_compile_69 : decode cX8_compile 69 = .ok (.getfield 91, 3) := by decide +kernel
theorem dX8_compile_72 : decode cX8_compile 72 = .ok (.ireturn, 1) := by decide +kernel
theorem dX8_fault_0 : decode cX8_fault 0 = .ok (.iload_n 1, 1) := by decide +kernel
theorem dX8_fault_1 : decode cX8_fault 1 = .ok (.ifCond .ne 11, 3) := by decide +kernel
theorem dX8_fault_4 : decode cX8_fault 4 = .ok (.aload_n 0, 1) := by decide +kernel
theorem dX8_fault_5 : decode cX8_fault 5 = .ok (.getfield 21, 3) := by decide +kernel
theorem dX8_fault_8 : decode cX8_fault 8 = .ok (.getfield 92, 3) := by decide +kernel
theorem dX8_fault_11 : decode cX8_fault 11 = .ok (.ireturn, 1) := by decide +kernel
theorem dX8_fault_12 : decode cX8_fault 12 = .ok (.iload_n 1, 1) := by decide +kernel
theorem dX8_fault_13 : decode cX8_fault 13 = .ok (.iconst 1, 1) := by decide +kernel
theorem dX8_fault_14 : decode cX8_fault 14 = .ok (.if_icmp .ne 13, 3) := by decide +kernel
theorem dX8_fault_17 : decode cX8_fault 17 = .ok (.aload_n 0, 1) := by decide +kernel
theorem dX8_fault_18 : decode cX8_fault 18 = .ok (.getfield 21, 3) := by decide +kernel
theorem dX8_fault_21 : decode cX8_fault 21 = .ok (.getfield 95, 3) := by decide +kernel
theorem dX8_fault_24 : decode cX8_fault 24 = .ok (.goto 4, 3) := by decide +kernel
theorem dX8_fault_27 : decode cX8_fault 27 = .ok (.iconst (-1), 1) := by decide +kernel
theorem dX8_fault_28 : decode cX8_fault 28 = .ok (.ireturn, 1) := by decide +kernel
theorem dX8_set_0 : decode cX8_set 0 = .ok (.iload_n 1, 1) := by decide +kernel
theorem dX8_set_1 : decode cX8_set 1 = .ok (.ifCond .lt 20, 3) := by decide +kernel
theorem dX8_set_4 : decode cX8_set 4 = .ok (.iload_n 1, 1) := by decide +kernel
theorem dX8_set_5 : decode cX8_set 5 = .ok (.aload_n 0, 1) := by decide +kernel
theorem dX8_set_6 : decode cX8_set 6 = .ok (.getfield 35, 3) := by decide +kernel
theorem dX8_set_9 : decode cX8_set 9 = .ok (.getfield 91, 3) := by decide +kernel
theorem dX8_set_12 : decode cX8_set 12 = .ok (.if_icmp .gt 9, 3) := by decide +kernel
theorem dX8_set_15 : decode cX8_set 15 = .ok (.iload_n 1, 1) := by decide +kernel
theorem dX8_set_16 : decode cX8_set 16 = .ok (.bipush 64, 2) := by decide +kernel
theorem dX8_set_18 : decode cX8_set 18 = .ok (.if_icmp .lt 5, 3) := by decide +kernel
theorem dX8_set_21 : decode cX8_set 21 = .ok (.iconst 0, 1) := by decide +kernel
theorem dX8_set_22 : decode cX8_set 22 = .ok (.ireturn, 1) := by decide +kernel
theorem dX8_set_23 : decode cX8_set 23 = .ok (.aload_n 0, 1) := by decide +kernel
theorem dX8_set_24 : decode cX8_set 24 = .ok (.getfield 35, 3) := by decide +kernel
theorem dX8_set_27 : decode cX8_set 27 = .ok (.iload_n 1, 1) := by decide +kernel
theorem dX8_set_28 : decode cX8_set 28 = .ok (.lload_n 2, 1) := by decide +kernel
theorem dX8_set_29 : decode cX8_set 29 = .ok (.invokevirtual 98, 3) := by decide +kernel
theorem dX8_set_32 : decode cX8_set 32 = .ok (.iconst 1, 1) := by decide +kernel
theorem dX8_set_33 : decode cX8_set 33 = .ok (.ireturn, 1) := by decide +kernel
theorem dX8_word_0 : decode cX8_word 0 = .ok (.aload_n 0, 1) := by decide +kernel
theorem dX8_word_1 : decode cX8_word 1 = .ok (.getfield 35, 3) := by decide +kernel
theorem dX8_word_4 : decode cX8_word 4 = .ok (.iload_n 1, 1) := by decide +kernel
theorem dX8_word_5 : decode cX8_word 5 = .ok (.invokevirtual 102, 3) := by decide +kernel
theorem dX8_word_8 : decode cX8_word 8 = .ok (.ifCond .ne 13, 3) := by decide +kernel
theorem dX8_word_11 : decode cX8_word 11 = .ok (.new 106, 3) := by decide +kernel
theorem dX8_word_14 : decode cX8_word 14 = .ok (.dup, 1) := by decide +kernel
theorem dX8_word_15 : decode cX8_word 15 = .ok (.ldc 108, 2) := by decide +kernel
theorem dX8_word_17 : decode cX8_word 17 = .ok (.invokespecial 110, 3) := by decide +kernel
theorem dX8_word_20 : decode cX8_word 20 = .ok (.athrow, 1) := by decide +kernel
theorem dX8_word_21 : decode cX8_word 21 = .ok (.aload_n 0, 1) := by decide +kernel
theorem dX8_word_22 : decode cX8_word 22 = .ok (.getfield 35, 3) := by decide +kernel
theorem dX8_word_25 : decode cX8_word 25 = .ok (.getfield 111, 3) := by decide +kernel
theorem dX8_word_28 : decode cX8_word 28 = .ok (.iload_n 1, 1) := by decide +kernel
theorem dX8_word_29 : decode cX8_word 29 = .ok (.laload, 1) := by decide +kernel
theorem dX8_word_30 : decode cX8_word 30 = .ok (.lreturn, 1) := by decide +kernel
theorem dX8_letter_0 : decode cX8_letter 0 = .ok (.aload_n 0, 1) := by decide +kernel
theorem dX8_letter_1 : decode cX8_letter 1 = .ok (.getfield 35, 3) := by decide +kernel
theorem dX8_letter_4 : decode cX8_letter 4 = .ok (.iload_n 1, 1) := by decide +kernel
theorem dX8_letter_5 : decode cX8_letter 5 = .ok (.invokevirtual 102, 3) := by decide +kernel
theorem dX8_letter_8 : decode cX8_letter 8 = .ok (.ifCond .ne 5, 3) := by decide +kernel
theorem dX8_letter_11 : decode cX8_letter 11 = .ok (.iconst (-1), 1) := by decide +kernel
theorem dX8_letter_12 : decode cX8_letter 12 = .ok (.ireturn, 1) := by decide +kernel
theorem dX8_letter_13 : decode cX8_letter 13 = .ok (.aload_n 0, 1) := by decide +kernel
theorem dX8_letter_14 : decode cX8_letter 14 = .ok (.getfield 51, 3) := by decide +kernel
theorem dX8_letter_17 : decode cX8_letter 17 = .ok (.aload_n 0, 1) := by decide +kernel
theorem dX8_letter_18 : decode cX8_letter 18 = .ok (.getfield 35, 3) := by decide +kernel
theorem dX8_letter_21 : decode cX8_letter 21 = .ok (.getfield 112, 3) := by decide +kernel
theorem dX8_letter_24 : decode cX8_letter 24 = .ok (.iload_n 1, 1) := by decide +kernel
theorem dX8_letter_25 : decode cX8_letter 25 = .ok (.aaload, 1) := by decide +kernel
theorem dX8_letter_26 : decode cX8_letter 26 = .ok (.aload_n 0, 1) := by decide +kernel
theorem dX8_letter_27 : decode cX8_letter 27 = .ok (.getfield 35, 3) := by decide +kernel
theorem dX8_letter_30 : decode cX8_letter 30 = .ok (.getfield 111, 3) := by decide +kernel
theorem dX8_letter_33 : decode cX8_letter 33 = .ok (.iload_n 1, 1) := by decide +kernel
theorem dX8_letter_34 : decode cX8_letter 34 = .ok (.laload, 1) := by decide +kernel
theorem dX8_letter_35 : decode cX8_letter 35 = .ok (.iload_n 2, 1) := by decide +kernel
theorem dX8_letter_36 : decode cX8_letter 36 = .ok (.invokevirtual 116, 3) := by decide +kernel
theorem dX8_letter_39 : decode cX8_letter 39 = .ok (.ireturn, 1) := by decide +kernel
theorem dX8_name_0 : decode cX8_name 0 = .ok (.aload_n 0, 1) := by decide +kernel
theorem dX8_name_1 : decode cX8_name 1 = .ok (.getfield 28, 3) := by decide +kernel
theorem dX8_name_4 : decode cX8_name 4 = .ok (.lload_n 1, 1) := by decide +kernel
theorem dX8_name_5 : decode cX8_name 5 = .ok (.invokevirtual 120, 3) := by decide +kernel
theorem dX8_name_8 : decode cX8_name 8 = .ok (.istore_n 3, 1) := by decide +kernel
theorem dX8_name_9 : decode cX8_name 9 = .ok (.iload_n 3, 1) := by decide +kernel
theorem dX8_name_10 : decode cX8_name 10 = .ok (.iconst (-1), 1) := by decide +kernel
theorem dX8_name_11 : decode cX8_name 11 = .ok (.if_icmp .ne 13, 3) := by decide +kernel
theorem dX8_name_14 : decode cX8_name 14 = .ok (.new 106, 3) := by decide +kernel
theorem dX8_name_17 : decode cX8_name 17 = .ok (.dup, 1) := by decide +kernel
theorem dX8_name_18 : decode cX8_name 18 = .ok (.ldc 124, 2) := by decide +kernel
theorem dX8_name_20 : decode cX8_name 20 = .ok (.invokespecial 110, 3) := by decide +kernel
theorem dX8_name_23 : decode cX8_name 23 = .ok (.athrow, 1) := by decide +kernel
theorem dX8_name_24 : decode cX8_name 24 = .ok (.aload_n 0, 1) := by decide +kernel
theorem dX8_name_25 : decode cX8_name 25 = .ok (.getfield 28, 3) := by decide +kernel
theorem dX8_name_28 : decode cX8_name 28 = .ok (.getfield 126, 3) := by decide +kernel
theorem dX8_name_31 : decode cX8_name 31 = .ok (.iload_n 3, 1) := by decide +kernel
theorem dX8_name_32 : decode cX8_name 32 = .ok (.laload, 1) := by decide +kernel
theorem dX8_name_33 : decode cX8_name 33 = .ok (.l2i, 1) := by decide +kernel
theorem dX8_name_34 : decode cX8_name 34 = .ok (.ireturn, 1) := by decide +kernel
theorem dX8_way_0 : decode cX8_way 0 = .ok (.iload_n 2, 1) := by decide +kernel
theorem dX8_way_1 : decode cX8_way 1 = .ok (.ifCond .ne 12, 3) := by decide +kernel
theorem dX8_way_4 : decode cX8_way 4 = .ok (.aload_n 0, 1) := by decide +kernel
theorem dX8_way_5 : decode cX8_way 5 = .ok (.getfield 44, 3) := by decide +kernel
theorem dX8_way_8 : decode cX8_way 8 = .ok (.iload_n 1, 1) := by decide +kernel
theorem dX8_way_9 : decode cX8_way 9 = .ok (.invokevirtual 129, 3) := by decide +kernel
theorem dX8_way_12 : decode cX8_way 12 = .ok (.ireturn, 1) := by decide +kernel
theorem dX8_way_13 : decode cX8_way 13 = .ok (.iload_n 2, 1) := by decide +kernel
theorem dX8_way_14 : decode cX8_way 14 = .ok (.iconst 1, 1) := by decide +kernel
theorem dX8_way_15 : decode cX8_way 15 = .ok (.if_icmp .ne 14, 3) := by decide +kernel
theorem dX8_way_18 : decode cX8_way 18 = .ok (.aload_n 0, 1) := by decide +kernel
theorem dX8_way_19 : decode cX8_way 19 = .ok (.getfield 44, 3) := by decide +kernel
theorem dX8_way_22 : decode cX8_way 22 = .ok (.iload_n 1, 1) := by decide +kernel
theorem dX8_way_23 : decode cX8_way 23 = .ok (.invokevirtual 133, 3) := by decide +kernel
theorem dX8_way_26 : decode cX8_way 26 = .ok (.goto 4, 3) := by decide +kernel
theorem dX8_way_29 : decode cX8_way 29 = .ok (.iconst (-1), 1) := by decide +kernel
theorem dX8_way_30 : decode cX8_way 30 = .ok (.ireturn, 1) := by decide +kernel
theorem dX8_reached_0 : decode cX8_reached 0 = .ok (.aload_n 0, 1) := by decide +kernel
theorem dX8_reached_1 : decode cX8_reached 1 = .ok (.getfield 44, 3) := by decide +kernel
theorem dX8_reached_4 : decode cX8_reached 4 = .ok (.invokevirtual 136, 3) := by decide +kernel
theorem dX8_reached_7 : decode cX8_reached 7 = .ok (.aload_n 0, 1) := by decide +kernel
theorem dX8_reached_8 : decode cX8_reached 8 = .ok (.getfield 35, 3) := by decide +kernel
theorem dX8_reached_11 : decode cX8_reached 11 = .ok (.iload_n 1, 1) := by decide +kernel
theorem dX8_reached_12 : decode cX8_reached 12 = .ok (.invokevirtual 140, 3) := by decide +kernel
theorem dX8_reached_15 : decode cX8_reached 15 = .ok (.land, 1) := by decide +kernel
theorem dX8_reached_16 : decode cX8_reached 16 = .ok (.lconst 0, 1) := by decide +kernel
theorem dX8_reached_17 : decode cX8_reached 17 = .ok (.lcmp, 1) := by decide +kernel
theorem dX8_reached_18 : decode cX8_reached 18 = .ok (.ifCond .eq 7, 3) := by decide +kernel
theorem dX8_reached_21 : decode cX8_reached 21 = .ok (.iconst 1, 1) := by decide +kernel
theorem dX8_reached_22 : decode cX8_reached 22 = .ok (.goto 4, 3) := by decide +kernel
theorem dX8_reached_25 : decode cX8_reached 25 = .ok (.iconst 0, 1) := by decide +kernel
theorem dX8_reached_26 : decode cX8_reached 26 = .ok (.ireturn, 1) := by decide +kernel
theorem dX8_live_0 : decode cX8_live 0 = .ok (.iload_n 2, 1) := by decide +kernel
theorem dX8_live_1 : decode cX8_live 1 = .ok (.ifCond .lt 9, 3) := by decide +kernel
theorem dX8_live_4 : decode cX8_live 4 = .ok (.iload_n 2, 1) := by decide +kernel
theorem dX8_live_5 : decode cX8_live 5 = .ok (.bipush 20, 2) := by decide +kernel
theorem dX8_live_7 : decode cX8_live 7 = .ok (.if_icmp .lt 5, 3) := by decide +kernel
theorem dX8_live_10 : decode cX8_live 10 = .ok (.iconst 0, 1) := by decide +kernel
theorem dX8_live_11 : decode cX8_live 11 = .ok (.ireturn, 1) := by decide +kernel
theorem dX8_live_12 : decode cX8_live 12 = .ok (.aload_n 0, 1) := by decide +kernel
theorem dX8_live_13 : decode cX8_live 13 = .ok (.getfield 44, 3) := by decide +kernel
theorem dX8_live_16 : decode cX8_live 16 = .ok (.iload_n 1, 1) := by decide +kernel
theorem dX8_live_17 : decode cX8_live 17 = .ok (.iload_n 2, 1) := by decide +kernel
theorem dX8_live_18 : decode cX8_live 18 = .ok (.invokevirtual 144, 3) := by decide +kernel
theorem dX8_live_21 : decode cX8_live 21 = .ok (.ireturn, 1) := by decide +kernel
theorem dX8_meet_0 : decode cX8_meet 0 = .ok (.aload_n 0, 1) := by decide +kernel
theorem dX8_meet_1 : decode cX8_meet 1 = .ok (.getfield 44, 3) := by decide +kernel
theorem dX8_meet_4 : decode cX8_meet 4 = .ok (.iload_n 1, 1) := by decide +kernel
theorem dX8_meet_5 : decode cX8_meet 5 = .ok (.invokevirtual 148, 3) := by decide +kernel
theorem dX8_meet_8 : decode cX8_meet 8 = .ok (.ireturn, 1) := by decide +kernel
theorem dX8_total_0 : decode cX8_total 0 = .ok (.iload_n 1, 1) := by decide +kernel
theorem dX8_total_1 : decode cX8_total 1 = .ok (.tableswitch 66 0 3 #[31, 39, 50, 58], 31) := by decide +kernel
theorem dX8_total_32 : decode cX8_total 32 = .ok (.aload_n 0, 1) := by decide +kernel
theorem dX8_total_33 : decode cX8_total 33 = .ok (.getfield 35, 3) := by decide +kernel
theorem dX8_total_36 : decode cX8_total 36 = .ok (.getfield 91, 3) := by decide +kernel
theorem dX8_total_39 : decode cX8_total 39 = .ok (.ireturn, 1) := by decide +kernel
theorem dX8_total_40 : decode cX8_total 40 = .ok (.aload_n 0, 1) := by decide +kernel
theorem dX8_total_41 : decode cX8_total 41 = .ok (.getfield 44, 3) := by decide +kernel
theorem dX8_total_44 : decode cX8_total 44 = .ok (.invokevirtual 136, 3) := by decide +kernel
theorem dX8_total_47 : decode cX8_total 47 = .ok (.invokestatic 151, 3) := by decide +kernel
theorem dX8_total_50 : decode cX8_total 50 = .ok (.ireturn, 1) := by decide +kernel
theorem dX8_total_51 : decode cX8_total 51 = .ok (.aload_n 0, 1) := by decide +kernel
theorem dX8_total_52 : decode cX8_total 52 = .ok (.getfield 28, 3) := by decide +kernel
theorem dX8_total_55 : decode cX8_total 55 = .ok (.getfield 156, 3) := by decide +kernel
theorem dX8_total_58 : decode cX8_total 58 = .ok (.ireturn, 1) := by decide +kernel
theorem dX8_total_59 : decode cX8_total 59 = .ok (.aload_n 0, 1) := by decide +kernel
theorem dX8_total_60 : decode cX8_total 60 = .ok (.getfield 35, 3) := by decide +kernel
theorem dX8_total_63 : decode cX8_total 63 = .ok (.invokevirtual 157, 3) := by decide +kernel
theorem dX8_total_66 : decode cX8_total 66 = .ok (.ireturn, 1) := by decide +kernel
theorem dX8_total_67 : decode cX8_total 67 = .ok (.iconst (-1), 1) := by decide +kernel
theorem dX8_total_68 : decode cX8_total 68 = .ok (.ireturn, 1) := by decide +kernel
theorem dX9_init_0 : decode cX9_init 0 = .ok (.aload_n 0, 1) := by decide +kernel
theorem dX9_init_1 : decode cX9_init 1 = .ok (.invokespecial 1, 3) := by decide +kernel
theorem dX9_init_4 : decode cX9_init 4 = .ok (.aload_n 0, 1) := by decide +kernel
theorem dX9_init_5 : decode cX9_init 5 = .ok (.sipush 700, 3) := by decide +kernel
theorem dX9_init_8 : decode cX9_init 8 = .ok (.newarray .int, 2) := by decide +kernel
theorem dX9_init_10 : decode cX9_init 10 = .ok (.putfield 7, 3) := by decide +kernel
theorem dX9_init_13 : decode cX9_init 13 = .ok (.aload_n 0, 1) := by decide +kernel
theorem dX9_init_14 : decode cX9_init 14 = .ok (.sipush 702, 3) := by decide +kernel
theorem dX9_init_17 : decode cX9_init 17 = .ok (.newarray .int, 2) := by decide +kernel
theorem dX9_init_19 : decode cX9_init 19 = .ok (.putfield 13, 3) := by decide +kernel
theorem dX9_init_22 : decode cX9_init 22 = .ok (.aload_n 0, 1) := by decide +kernel
theorem dX9_init_23 : decode cX9_init 23 = .ok (.sipush 702, 3) := by decide +kernel
theorem dX9_init_26 : decode cX9_init 26 = .ok (.newarray .int, 2) := by decide +kernel
theorem dX9_init_28 : decode cX9_init 28 = .ok (.putfield 16, 3) := by decide +kernel
theorem dX9_init_31 : decode cX9_init 31 = .ok (.aload_n 0, 1) := by decide +kernel
theorem dX9_init_32 : decode cX9_init 32 = .ok (.sipush 702, 3) := by decide +kernel
theorem dX9_init_35 : decode cX9_init 35 = .ok (.newarray .long, 2) := by decide +kernel
theorem dX9_init_37 : decode cX9_init 37 = .ok (.putfield 19, 3) := by decide +kernel
theorem dX9_init_40 : decode cX9_init 40 = .ok (.aload_n 0, 1) := by decide +kernel
theorem dX9_init_41 : decode cX9_init 41 = .ok (.bipush 64, 2) := by decide +kernel
theorem dX9_init_43 : decode cX9_init 43 = .ok (.newarray .long, 2) := by decide +kernel
theorem dX9_init_45 : decode cX9_init 45 = .ok (.putfield 23, 3) := by decide +kernel
theorem dX9_init_48 : decode cX9_init 48 = .ok (.aload_n 0, 1) := by decide +kernel
theorem dX9_init_49 : decode cX9_init 49 = .ok (.bipush 65, 2) := by decide +kernel
theorem dX9_init_51 : decode cX9_init 51 = .ok (.newarray .long, 2) := by decide +kernel
theorem dX9_init_53 : decode cX9_init 53 = .ok (.putfield 26, 3) := by decide +kernel
theorem dX9_init_56 : decode cX9_init 56 = .ok (.aload_n 0, 1) := by decide +kernel
theorem dX9_init_57 : decode cX9_init 57 = .ok (.iconst 2, 1) := by decide +kernel
theorem dX9_init_58 : decode cX9_init 58 = .ok (.newarray .int, 2) := by decide +kernel
theorem dX9_init_60 : decode cX9_init 60 = .ok (.putfield 29, 3) := by decide +kernel
theorem dX9_init_63 : decode cX9_init 63 = .ok (.aload_n 0, 1) := by decide +kernel
theorem dX9_init_64 : decode cX9_init 64 = .ok (.sipush 800, 3) := by decide +kernel
theorem dX9_init_67 : decode cX9_init 67 = .ok (.newarray .long, 2) := by decide +kernel
theorem dX9_init_69 : decode cX9_init 69 = .ok (.putfield 32, 3) := by decide +kernel
theorem dX9_init_72 : decode cX9_init 72 = .ok (.aload_n 0, 1) := by decide +kernel
theorem dX9_init_73 : decode cX9_init 73 = .ok (.sipush 800, 3) := by decide +kernel
theorem dX9_init_76 : decode cX9_init 76 = .ok (.newarray .long, 2) := by decide +kernel
theorem dX9_init_78 : decode cX9_init 78 = .ok (.putfield 35, 3) := by decide +kernel
theorem dX9_init_81 : decode cX9_init 81 = .ok (.aload_n 0, 1) := by decide +kernel
theorem dX9_init_82 : decode cX9_init 82 = .ok (.bipush 64, 2) := by decide +kernel
theorem dX9_init_84 : decode cX9_init 84 = .ok (.newarray .int, 2) := by decide +kernel
theorem dX9_init_86 : decode cX9_init 86 = .ok (.putfield 38, 3) := by decide +kernel
theorem dX9_init_89 : decode cX9_init 89 = .ok (.aload_n 0, 1) := by decide +kernel
theorem dX9_init_90 : decode cX9_init 90 = .ok (.bipush 64, 2) := by decide +kernel
theorem dX9_init_92 : decode cX9_init 92 = .ok (.newarray .long, 2) := by decide +kernel
theorem dX9_init_94 : decode cX9_init 94 = .ok (.putfield 41, 3) := by decide +kernel
theorem dX9_init_97 : decode cX9_init 97 = .ok (.aload_n 0, 1) := by decide +kernel
theorem dX9_init_98 : decode cX9_init 98 = .ok (.bipush 64, 2) := by decide +kernel
theorem dX9_init_100 : decode cX9_init 100 = .ok (.newarray .int, 2) := by decide +kernel
theorem dX9_init_102 : decode cX9_init 102 = .ok (.putfield 44, 3) := by decide +kernel
theorem dX9_init_105 : decode cX9_init 105 = .ok (.aload_n 0, 1) := by decide +kernel
theorem dX9_init_106 : decode cX9_init 106 = .ok (.bipush 64, 2) := by decide +kernel
theorem dX9_init_108 : decode cX9_init 108 = .ok (.newarray .int, 2) := by decide +kernel
theorem dX9_init_110 : decode cX9_init 110 = .ok (.putfield 47, 3) := by decide +kernel
theorem dX9_init_113 : decode cX9_init 113 = .ok (.aload_n 0, 1) := by decide +kernel
theorem dX9_init_114 : decode cX9_init 114 = .ok (.bipush 64, 2) := by decide +kernel
theorem dX9_init_116 : decode cX9_init 116 = .ok (.newarray .boolean, 2) := by decide +kernel
theorem dX9_init_118 : decode cX9_init 118 = .ok (.putfield 50, 3) := by decide +kernel
theorem dX9_init_121 : decode cX9_init 121 = .ok (.aload_n 0, 1) := by decide +kernel
theorem dX9_init_122 : decode cX9_init 122 = .ok (.bipush 64, 2) := by decide +kernel
theorem dX9_init_124 : decode cX9_init 124 = .ok (.newarray .boolean, 2) := by decide +kernel
theorem dX9_init_126 : decode cX9_init 126 = .ok (.putfield 54, 3) := by decide +kernel
theorem dX9_init_129 : decode cX9_init 129 = .ok (.aload_n 0, 1) := by decide +kernel
theorem dX9_init_130 : decode cX9_init 130 = .ok (.bipush 60, 2) := by decide +kernel
theorem dX9_init_132 : decode cX9_init 132 = .ok (.newarray .int, 2) := by decide +kernel
theorem dX9_init_134 : decode cX9_init 134 = .ok (.putfield 57, 3) := by decide +kernel
theorem dX9_init_137 : decode cX9_init 137 = .ok (.aload_n 0, 1) := by decide +kernel
theorem dX9_init_138 : decode cX9_init 138 = .ok (.bipush 64, 2) := by decide +kernel
theorem dX9_init_140 : decode cX9_init 140 = .ok (.newarray .boolean, 2) := by decide +kernel
theorem dX9_init_142 : decode cX9_init 142 = .ok (.putfield 60, 3) := by decide +kernel
theorem dX9_init_145 : decode cX9_init 145 = .ok (.return_, 1) := by decide +kernel
theorem dX9_raise_0 : decode cX9_raise 0 = .ok (.aload_n 0, 1) := by decide +kernel
theorem dX9_raise_1 : decode cX9_raise 1 = .ok (.iload_n 1, 1) := by decide +kernel
theorem dX9_raise_2 : decode cX9_raise 2 = .ok (.putfield 63, 3) := by decide +kernel
theorem dX9_raise_5 : decode cX9_raise 5 = .ok (.iconst 0, 1) := by decide +kernel
theorem dX9_raise_6 : decode cX9_raise 6 = .ok (.ireturn, 1) := by decide +kernel
theorem dX9_type_0 : decode cX9_type 0 = .ok (.aload_n 0, 1) := by decide +kernel
theorem dX9_type_1 : decode cX9_type 1 = .ok (.iconst 0, 1) := by decide +kernel
theorem dX9_type_2 : decode cX9_type 2 = .ok (.putfield 63, 3) := by decide +kernel
theorem dX9_type_5 : decode cX9_type 5 = .ok (.iload_n 3, 1) := by decide +kernel
theorem dX9_type_6 : decode cX9_type 6 = .ok (.iconst 1, 1) := by decide +kernel
theorem dX9_type_7 : decode cX9_type 7 = .ok (.if_icmp .lt 21, 3) := by decide +kernel
theorem dX9_type_10 : decode cX9_type 10 = .ok (.iload_n 3, 1) := by decide +kernel
theorem dX9_type_11 : decode cX9_type 11 = .ok (.bipush 8, 2) := by decide +kernel
theorem dX9_type_13 : decode cX9_type 13 = .ok (.if_icmp .gt 15, 3) := by decide +kernel
theorem dX9_type_16 : decode cX9_type 16 = .ok (.aload_n 0, 1) := by decide +kernel
theorem dX9_type_17 : decode cX9_type 17 = .ok (.getfield 67, 3) := by decide +kernel
theorem dX9_type_20 : decode cX9_type 20 = .ok (.iload_n 3, 1) := by decide +kernel
theorem dX9_type_21 : decode cX9_type 21 = .ok (.iadd, 1) := by decide +kernel
theorem dX9_type_22 : decode cX9_type 22 = .ok (.sipush 700, 3) := by decide +kernel
theorem dX9_type_25 : decode cX9_type 25 = .ok (.if_icmp .le 5, 3) := by decide +kernel
theorem dX9_type_28 : decode cX9_type 28 = .ok (.iconst 0, 1) := by decide +kernel
theorem dX9_type_29 : decode cX9_type 29 = .ok (.ireturn, 1) := by decide +kernel
theorem dX9_type_30 : decode cX9_type 30 = .ok (.iconst 0, 1) := by decide +kernel
theorem dX9_type_31 : decode cX9_type 31 = .ok (.istore 4, 2) := by decide +kernel
theorem dX9_type_33 : decode cX9_type 33 = .ok (.iload 4, 2) := by decide +kernel
theorem dX9_type_35 : decode cX9_type 35 = .ok (.iload_n 3, 1) := by decide +kernel
theorem dX9_type_36 : decode cX9_type 36 = .ok (.if_icmp .ge 39, 3) := by decide +kernel
theorem dX9_type_39 : decode cX9_type 39 = .ok (.lload_n 1, 1) := by decide +kernel
theorem dX9_type_40 : decode cX9_type 40 = .ok (.bipush 8, 2) := by decide +kernel
theorem dX9_type_42 : decode cX9_type 42 = .ok (.iload 4, 2) := by decide +kernel
theorem dX9_type_44 : decode cX9_type 44 = .ok (.imul, 1) := by decide +kernel
theorem dX9_type_45 : decode cX9_type 45 = .ok (.lshr, 1) := by decide +kernel
theorem dX9_type_46 : decode cX9_type 46 = .ok (.ldc2_w 70, 3) := by decide +kernel
theorem dX9_type_49 : decode cX9_type 49 = .ok (.land, 1) := by decide +kernel
theorem dX9_type_50 : decode cX9_type 50 = .ok (.l2i, 1) := by decide +kernel
theorem dX9_type_51 : decode cX9_type 51 = .ok (.istore 5, 2) := by decide +kernel
theorem dX9_type_53 : decode cX9_type 53 = .ok (.iload 5, 2) := by decide +kernel
theorem dX9_type_55 : decode cX9_type 55 = .ok (.bipush 32, 2) := by decide +kernel
theorem dX9_type_57 : decode cX9_type 57 = .ok (.if_icmp .lt 10, 3) := by decide +kernel
theorem dX9_type_60 : decode cX9_type 60 = .ok (.iload 5, 2) := by decide +kernel
theorem dX9_type_62 : decode cX9_type 62 = .ok (.bipush 126, 2) := by decide +kernel
theorem dX9_type_64 : decode cX9_type 64 = .ok (.if_icmp .le 5, 3) := by decide +kernel
theorem dX9_type_67 : decode cX9_type 67 = .ok (.iconst 0, 1) := by decide +kernel
theorem dX9_type_68 : decode cX9_type 68 = .ok (.ireturn, 1) := by decide +kernel
theorem dX9_type_69 : decode cX9_type 69 = .ok (.iinc 4 1, 3) := by decide +kernel
theorem dX9_type_72 : decode cX9_type 72 = .ok (.goto (-39), 3) := by decide +kernel
theorem dX9_type_75 : decode cX9_type 75 = .ok (.iload_n 3, 1) := by decide +kernel
theorem dX9_type_76 : decode cX9_type 76 = .ok (.iconst 1, 1) := by decide +kernel
theorem dX9_type_77 : decode cX9_type 77 = .ok (.isub, 1) := by decide +kernel
theorem dX9_type_78 : decode cX9_type 78 = .ok (.istore 4, 2) := by decide +kernel
theorem dX9_type_80 : decode cX9_type 80 = .ok (.iload 4, 2) := by decide +kernel
theorem dX9_type_82 : decode cX9_type 82 = .ok (.ifCond .lt 40, 3) := by decide +kernel
theorem dX9_type_85 : decode cX9_type 85 = .ok (.aload_n 0, 1) := by decide +kernel
theorem dX9_type_86 : decode cX9_type 86 = .ok (.getfield 7, 3) := by decide +kernel
theorem dX9_type_89 : decode cX9_type 89 = .ok (.aload_n 0, 1) := by decide +kernel
theorem dX9_type_90 : decode cX9_type 90 = .ok (.getfield 67, 3) := by decide +kernel
theorem dX9_type_93 : decode cX9_type 93 = .ok (.lload_n 1, 1) := by decide +kernel
theorem dX9_type_94 : decode cX9_type 94 = .ok (.bipush 8, 2) := by decide +kernel
theorem dX9_type_96 : decode cX9_type 96 = .ok (.iload 4, 2) := by decide +kernel
theorem dX9_type_98 : decode cX9_type 98 = .ok (.imul, 1) := by decide +kernel
theorem dX9_type_99 : decode cX9_type 99 = .ok (.lshr, 1) := by decide +kernel
theorem dX9_type_100 : decode cX9_type 100 = .ok (.ldc2_w 70, 3) := by decide +kernel
theorem dX9_type_103 : decode cX9_type 103 = .ok (.land, 1) := by decide +kernel
theorem dX9_type_104 : decode cX9_type 104 = .ok (.l2i, 1) := by decide +kernel
theorem dX9_type_105 : decode cX9_type 105 = .ok (.iastore, 1) := by decide +kernel
theorem dX9_type_106 : decode cX9_type 106 = .ok (.aload_n 0, 1) := by decide +kernel
theorem dX9_type_107 : decode cX9_type 107 = .ok (.dup, 1) := by decide +kernel
theorem dX9_type_108 : decode cX9_type 108 = .ok (.getfield 67, 3) := by decide +kernel
theorem dX9_type_111 : decode cX9_type 111 = .ok (.iconst 1, 1) := by decide +kernel
theorem dX9_type_112 : decode cX9_type 112 = .ok (.iadd, 1) := by decide +kernel
theorem dX9_type_113 : decode cX9_type 113 = .ok (.putfield 67, 3) := by decide +kernel
theorem dX9_type_116 : decode cX9_type 116 = .ok (.iinc 4 (-1), 3) := by decide +kernel
theorem dX9_type_119 : decode cX9_type 119 = .ok (.goto (-39), 3) := by decide +kernel
theorem dX9_type_122 : decode cX9_type 122 = .ok (.iconst 1, 1) := by decide +kernel
theorem dX9_type_123 : decode cX9_type 123 = .ok (.ireturn, 1) := by decide +kernel
theorem dX9_partsOf_0 : decode cX9_partsOf 0 = .ok (.iload_n 0, 1) := by decide +kernel
theorem dX9_partsOf_1 : decode cX9_partsOf 1 = .ok (.iconst 2, 1) := by decide +kernel
theorem dX9_partsOf_2 : decode cX9_partsOf 2 = .ok (.if_icmp .ge 5, 3) := by decide +kernel
theorem dX9_partsOf_5 : decode cX9_partsOf 5 = .ok (.iconst 0, 1) := by decide +kernel
theorem dX9_partsOf_6 : decode cX9_partsOf 6 = .ok (.ireturn, 1) := by decide +kernel
theorem dX9_partsOf_7 : decode cX9_partsOf 7 = .ok (.iload_n 0, 1) := by decide +kernel
theorem dX9_partsOf_8 : decode cX9_partsOf 8 = .ok (.iconst 2, 1) := by decide +kernel
theorem dX9_partsOf_9 : decode cX9_partsOf 9 = .ok (.if_icmp .ne 5, 3) := by decide +kernel
theorem dX9_partsOf_12 : decode cX9_partsOf 12 = .ok (.iconst 1, 1) := by decide +kernel
theorem dX9_partsOf_13 : decode cX9_partsOf 13 = .ok (.ireturn, 1) := by decide +kernel
theorem dX9_partsOf_14 : decode cX9_partsOf 14 = .ok (.iload_n 0, 1) := by decide +kernel
theorem dX9_partsOf_15 : decode cX9_partsOf 15 = .ok (.bipush 17, 2) := by decide +kernel
theorem dX9_partsOf_17 : decode cX9_partsOf 17 = .ok (.if_icmp .ge 5, 3) := by decide +kernel
theorem dX9_partsOf_20 : decode cX9_partsOf 20 = .ok (.iconst 2, 1) := by decide +kernel
theorem dX9_partsOf_21 : decode cX9_partsOf 21 = .ok (.ireturn, 1) := by decide +kernel
theorem dX9_partsOf_22 : decode cX9_partsOf 22 = .ok (.iload_n 0, 1) := by decide +kernel
theorem dX9_partsOf_23 : decode cX9_partsOf 23 = .ok (.bipush 21, 2) := by decide +kernel
theorem dX9_partsOf_25 : decode cX9_partsOf 25 = .ok (.if_icmp .ge 5, 3) := by decide +kernel
theorem dX9_partsOf_28 : decode cX9_partsOf 28 = .ok (.iconst 3, 1) := by decide +kernel
theorem dX9_partsOf_29 : decode cX9_partsOf 29 = .ok (.ireturn, 1) := by decide +kernel
theorem dX9_partsOf_30 : decode cX9_partsOf 30 = .ok (.iload_n 0, 1) := by decide +kernel
theorem dX9_partsOf_31 : decode cX9_partsOf 31 = .ok (.bipush 21, 2) := by decide +kernel
theorem dX9_partsOf_33 : decode cX9_partsOf 33 = .ok (.if_icmp .ne 5, 3) := by decide +kernel
theorem dX9_partsOf_36 : decode cX9_partsOf 36 = .ok (.iconst 4, 1) := by decide +kernel
theorem dX9_partsOf_37 : decode cX9_partsOf 37 = .ok (.ireturn, 1) := by decide +kernel
theorem dX9_partsOf_38 : decode cX9_partsOf 38 = .ok (.iload_n 0, 1) := by decide +kernel
theorem dX9_partsOf_39 : decode cX9_partsOf 39 = .ok (.bipush 29, 2) := by decide +kernel
theorem dX9_partsOf_41 : decode cX9_partsOf 41 = .ok (.if_icmp .ge 5, 3) := by decide +kernel
theorem dX9_partsOf_44 : decode cX9_partsOf 44 = .ok (.iconst 5, 1) := by decide +kernel
theorem dX9_partsOf_45 : decode cX9_partsOf 45 = .ok (.ireturn, 1) := by decide +kernel
theorem dX9_partsOf_46 : decode cX9_partsOf 46 = .ok (.iload_n 0, 1) := by decide +kernel
theorem dX9_partsOf_47 : decode cX9_partsOf 47 = .ok (.bipush 31, 2) := by decide +kernel
theorem dX9_partsOf_49 : decode cX9_partsOf 49 = .ok (.if_icmp .ge 6, 3) := by decide +kernel
theorem dX9_partsOf_52 : decode cX9_partsOf 52 = .ok (.bipush 6, 2) := by decide +kernel
theorem dX9_partsOf_54 : decode cX9_partsOf 54 = .ok (.ireturn, 1) := by decide +kernel
theorem dX9_partsOf_55 : decode cX9_partsOf 55 = .ok (.iload_n 0, 1) := by decide +kernel
theorem dX9_partsOf_56 : decode cX9_partsOf 56 = .ok (.bipush 33, 2) := by decide +kernel
theorem dX9_partsOf_58 : decode cX9_partsOf 58 = .ok (.if_icmp .ge 6, 3) := by decide +kernel
theorem dX9_partsOf_61 : decode cX9_partsOf 61 = .ok (.bipush 7, 2) := by decide +kernel
theorem dX9_partsOf_63 : decode cX9_partsOf 63 = .ok (.ireturn, 1) := by decide +kernel
theorem dX9_partsOf_64 : decode cX9_partsOf 64 = .ok (.iload_n 0, 1) := by decide +kernel
theorem dX9_partsOf_65 : decode cX9_partsOf 65 = .ok (.bipush 35, 2) := by decide +kernel
theorem dX9_partsOf_67 : decode cX9_partsOf 67 = .ok (.if_icmp .ge 6, 3) := by decide +kernel
theorem dX9_partsOf_70 : decode cX9_partsOf 70 = .ok (.bipush 8, 2) := by decide +kernel
theorem dX9_partsOf_72 : decode cX9_partsOf 72 = .ok (.ireturn, 1) := by decide +kernel
theorem dX9_partsOf_73 : decode cX9_partsOf 73 = .ok (.iload_n 0, 1) := by decide +kernel
theorem dX9_partsOf_74 : decode cX9_partsOf 74 = .ok (.bipush 38, 2) := by decide +kernel
theorem dX9_partsOf_76 : decode cX9_partsOf 76 = .ok (.if_icmp .ge 6, 3) := by decide +kernel
theorem dX9_partsOf_79 : decode cX9_partsOf 79 = .ok (.bipush 9, 2) := by decide +kernel
theorem dX9_partsOf_81 : decode cX9_partsOf 81 = .ok (.ireturn, 1) := by decide +kernel
theorem dX9_partsOf_82 : decode cX9_partsOf 82 = .ok (.iload_n 0, 1) := by decide +kernel
theorem dX9_partsOf_83 : decode cX9_partsOf 83 = .ok (.bipush 38, 2) := by decide +kernel
theorem dX9_partsOf_85 : decode cX9_partsOf 85 = .ok (.if_icmp .ne 6, 3) := by decide +kernel
theorem dX9_partsOf_88 : decode cX9_partsOf 88 = .ok (.bipush 10, 2) := by decide +kernel
theorem dX9_partsOf_90 : decode cX9_partsOf 90 = .ok (.ireturn, 1) := by decide +kernel
theorem dX9_partsOf_91 : decode cX9_partsOf 91 = .ok (.iload_n 0, 1) := by decide +kernel
theorem dX9_partsOf_92 : decode cX9_partsOf 92 = .ok (.bipush 42, 2) := by decide +kernel
theorem dX9_partsOf_94 : decode cX9_partsOf 94 = .ok (.if_icmp .ge 11, 3) := by decide +kernel
theorem dX9_partsOf_97 : decode cX9_partsOf 97 = .ok (.bipush 11, 2) := by decide +kernel
theorem dX9_partsOf_99 : decode cX9_partsOf 99 = .ok (.iload_n 0, 1) := by decide +kernel
theorem dX9_partsOf_100 : decode cX9_partsOf 100 = .ok (.iadd, 1) := by decide +kernel
theorem dX9_partsOf_101 : decode cX9_partsOf 101 = .ok (.bipush 39, 2) := by decide +kernel
theorem dX9_partsOf_103 : decode cX9_partsOf 103 = .ok (.isub, 1) := by decide +kernel
theorem dX9_partsOf_104 : decode cX9_partsOf 104 = .ok (.ireturn, 1) := by decide +kernel
theorem dX9_partsOf_105 : decode cX9_partsOf 105 = .ok (.iload_n 0, 1) := by decide +kernel
theorem dX9_partsOf_106 : decode cX9_partsOf 106 = .ok (.bipush 44, 2) := by decide +kernel
theorem dX9_partsOf_108 : decode cX9_partsOf 108 = .ok (.if_icmp .ge 6, 3) := by decide +kernel
theorem dX9_partsOf_111 : decode cX9_partsOf 111 = .ok (.bipush 14, 2) := by decide +kernel
theorem dX9_partsOf_113 : decode cX9_partsOf 113 = .ok (.ireturn, 1) := by decide +kernel
theorem dX9_partsOf_114 : decode cX9_partsOf 114 = .ok (.iload_n 0, 1) := by decide +kernel
theorem dX9_partsOf_115 : decode cX9_partsOf 115 = .ok (.bipush 46, 2) := by decide +kernel
theorem dX9_partsOf_117 : decode cX9_partsOf 117 = .ok (.if_icmp .ge 6, 3) := by decide +kernel
theorem dX9_partsOf_120 : decode cX9_partsOf 120 = .ok (.bipush 15, 2) := by decide +kernel
theorem dX9_partsOf_122 : decode cX9_partsOf 122 = .ok (.ireturn, 1) := by decide +kernel
theorem dX9_partsOf_123 : decode cX9_partsOf 123 = .ok (.iload_n 0, 1) := by decide +kernel
theorem dX9_partsOf_124 : decode cX9_partsOf 124 = .ok (.bipush 52, 2) := by decide +kernel
theorem dX9_partsOf_126 : decode cX9_partsOf 126 = .ok (.if_icmp .ge 8, 3) := by decide +kernel
theorem dX9_partsOf_129 : decode cX9_partsOf 129 = .ok (.bipush 16, 2) := by decide +kernel
theorem dX9_partsOf_131 : decode cX9_partsOf 131 = .ok (.goto 5, 3) := by decide +kernel
theorem dX9_partsOf_134 : decode cX9_partsOf 134 = .ok (.bipush 17, 2) := by decide +kernel
theorem dX9_partsOf_136 : decode cX9_partsOf 136 = .ok (.ireturn, 1) := by decide +kernel
theorem dX9_part_0 : decode cX9_part 0 = .ok (.ldc 72, 2) := by decide +kernel
theorem dX9_part_2 : decode cX9_part 2 = .ok (.iconst 5, 1) := by decide +kernel
theorem dX9_part_3 : decode cX9_part 3 = .ok (.iload_n 0, 1) := by decide +kernel
theorem dX9_part_4 : decode cX9_part 4 = .ok (.invokestatic 74, 3) := by decide +kernel
theorem dX9_part_7 : decode cX9_part 7 = .ok (.imul, 1) := by decide +kernel
theorem dX9_part_8 : decode cX9_part 8 = .ok (.iload_n 1, 1) := by decide +kernel
theorem dX9_part_9 : decode cX9_part 9 = .ok (.iadd, 1) := by decide +kernel
theorem dX9_part_10 : decode cX9_part 10 = .ok (.invokevirtual 78, 3) := by decide +kernel
theorem dX9_part_13 : decode cX9_part 13 = .ok (.ireturn, 1) := by decide +kernel
theorem dX9_opOf_0 : decode cX9_opOf 0 = .ok (.iload_n 0, 1) := by decide +kernel
theorem dX9_opOf_1 : decode cX9_opOf 1 = .ok (.iconst 2, 1) := by decide +kernel
theorem dX9_opOf_2 : decode cX9_opOf 2 = .ok (.if_icmp .ge 5, 3) := by decide +kernel
theorem dX9_opOf_5 : decode cX9_opOf 5 = .ok (.iload_n 0, 1) := by decide +kernel
theorem dX9_opOf_6 : decode cX9_opOf 6 = .ok (.ireturn, 1) := by decide +kernel
theorem dX9_opOf_7 : decode cX9_opOf 7 = .ok (.iload_n 0, 1) := by decide +kernel
theorem dX9_opOf_8 : decode cX9_opOf 8 = .ok (.bipush 52, 2) := by decide +kernel
theorem dX9_opOf_10 : decode cX9_opOf 10 = .ok (.if_icmp .ne 5, 3) := by decide +kernel
theorem dX9_opOf_13 : decode cX9_opOf 13 = .ok (.iconst 0, 1) := by decide +kernel
theorem dX9_opOf_14 : decode cX9_opOf 14 = .ok (.ireturn, 1) := by decide +kernel
theorem dX9_opOf_15 : decode cX9_opOf 15 = .ok (.bipush 10, 2) := by decide +kernel
theorem dX9_opOf_17 : decode cX9_opOf 17 = .ok (.ldc 84, 2) := by decide +kernel
theorem dX9_opOf_19 : decode cX9_opOf 19 = .ok (.iconst 2, 1) := by decide +kernel
theorem dX9_opOf_20 : decode cX9_opOf 20 = .ok (.iload_n 0, 1) := by decide +kernel
theorem dX9_opOf_21 : decode cX9_opOf 21 = .ok (.imul, 1) := by decide +kernel
theorem dX9_opOf_22 : decode cX9_opOf 22 = .ok (.invokevirtual 78, 3) := by decide +kernel
theorem dX9_opOf_25 : decode cX9_opOf 25 = .ok (.bipush 48, 2) := by decide +kernel
theorem dX9_opOf_27 : decode cX9_opOf 27 = .ok (.isub, 1) := by decide +kernel
theorem dX9_opOf_28 : decode cX9_opOf 28 = .ok (.imul, 1) := by decide +kernel
theorem dX9_opOf_29 : decode cX9_opOf 29 = .ok (.ldc 84, 2) := by decide +kernel
theorem dX9_opOf_31 : decode cX9_opOf 31 = .ok (.iconst 2, 1) := by decide +kernel
theorem dX9_opOf_32 : decode cX9_opOf 32 = .ok (.iload_n 0, 1) := by decide +kernel
theorem dX9_opOf_33 : decode cX9_opOf 33 = .ok (.imul, 1) := by decide +kernel
theorem dX9_opOf_34 : decode cX9_opOf 34 = .ok (.iconst 1, 1) := by decide +kernel
theorem dX9_opOf_35 : decode cX9_opOf 35 = .ok (.iadd, 1) := by decide +kernel
theorem dX9_opOf_36 : decode cX9_opOf 36 = .ok (.invokevirtual 78, 3) := by decide +kernel
theorem dX9_opOf_39 : decode cX9_opOf 39 = .ok (.iadd, 1) := by decide +kernel
theorem dX9_opOf_40 : decode cX9_opOf 40 = .ok (.bipush 48, 2) := by decide +kernel
theorem dX9_opOf_42 : decode cX9_opOf 42 = .ok (.isub, 1) := by decide +kernel
theorem dX9_opOf_43 : decode cX9_opOf 43 = .ok (.ireturn, 1) := by decide +kernel
theorem dX9_letterOf_0 : decode cX9_letterOf 0 = .ok (.ldc 86, 2) := by decide +kernel
theorem dX9_letterOf_2 : decode cX9_letterOf 2 = .ok (.bipush 8, 2) := by decide +kernel
theorem dX9_letterOf_4 : decode cX9_letterOf 4 = .ok (.iload_n 0, 1) := by decide +kernel
theorem dX9_letterOf_5 : decode cX9_letterOf 5 = .ok (.imul, 1) := by decide +kernel
theorem dX9_letterOf_6 : decode cX9_letterOf 6 = .ok (.iload_n 1, 1) := by decide +kernel
theorem dX9_letterOf_7 : decode cX9_letterOf 7 = .ok (.iadd, 1) := by decide +kernel
theorem dX9_letterOf_8 : decode cX9_letterOf 8 = .ok (.invokevirtual 78, 3) := by decide +kernel
theorem dX9_letterOf_11 : decode cX9_letterOf 11 = .ok (.ireturn, 1) := by decide +kernel
theorem dX9_spelt_0 : decode cX9_spelt 0 = .ok (.lconst 0, 1) := by decide +kernel
theorem dX9_spelt_1 : decode cX9_spelt 1 = .ok (.lstore_n 1, 1) := by decide +kernel
theorem dX9_spelt_2 : decode cX9_spelt 2 = .ok (.iconst 0, 1) := by decide +kernel
theorem dX9_spelt_3 : decode cX9_spelt 3 = .ok (.istore_n 3, 1) := by decide +kernel
theorem dX9_spelt_4 : decode cX9_spelt 4 = .ok (.iload_n 3, 1) := by decide +kernel
theorem dX9_spelt_5 : decode cX9_spelt 5 = .ok (.bipush 8, 2) := by decide +kernel
theorem dX9_spelt_7 : decode cX9_spelt 7 = .ok (.if_icmp .ge 31, 3) := by decide +kernel
theorem dX9_spelt_10 : decode cX9_spelt 10 = .ok (.iload_n 0, 1) := by decide +kernel
theorem dX9_spelt_11 : decode cX9_spelt 11 = .ok (.iload_n 3, 1) := by decide +kernel
theorem dX9_spelt_12 : decode cX9_spelt 12 = .ok (.invokestatic 88, 3) := by decide +kernel
theorem dX9_spelt_15 : decode cX9_spelt 15 = .ok (.bipush 32, 2) := by decide +kernel
theorem dX9_spelt_17 : decode cX9_spelt 17 = .ok (.if_icmp .eq 21, 3) := by decide +kernel
theorem dX9_spelt_20 : decode cX9_spelt 20 = .ok (.lload_n 1, 1) := by decide +kernel
theorem dX9_spelt_21 : decode cX9_spelt 21 = .ok (.bipush 8, 2) := by decide +kernel
theorem dX9_spelt_23 : decode cX9_spelt 23 = .ok (.lshl, 1) := by decide +kernel
theorem dX9_spelt_24 : decode cX9_spelt 24 = .ok (.iload_n 0, 1) := by decide +kernel
theorem dX9_spelt_25 : decode cX9_spelt 25 = .ok (.iload_n 3, 1) := by decide +kernel
theorem dX9_spelt_26 : decode cX9_spelt 26 = .ok (.invokestatic 88, 3) := by decide +kernel
theorem dX9_spelt_29 : decode cX9_spelt 29 = .ok (.i2l, 1) := by decide +kernel
theorem dX9_spelt_30 : decode cX9_spelt 30 = .ok (.lor, 1) := by decide +kernel
theorem dX9_spelt_31 : decode cX9_spelt 31 = .ok (.lstore_n 1, 1) := by decide +kernel
theorem dX9_spelt_32 : decode cX9_spelt 32 = .ok (.iinc 3 1, 3) := by decide +kernel
theorem dX9_spelt_35 : decode cX9_spelt 35 = .ok (.goto (-31), 3) := by decide +kernel
theorem dX9_spelt_38 : decode cX9_spelt 38 = .ok (.lload_n 1, 1) := by decide +kernel
theorem dX9_spelt_39 : decode cX9_spelt 39 = .ok (.lreturn, 1) := by decide +kernel
theorem dX9_wordOf_0 : decode cX9_wordOf 0 = .ok (.iconst 0, 1) := by decide +kernel
theorem dX9_wordOf_1 : decode cX9_wordOf 1 = .ok (.istore_n 2, 1) := by decide +kernel
theorem dX9_wordOf_2 : decode cX9_wordOf 2 = .ok (.iload_n 2, 1) := by decide +kernel
theorem dX9_wordOf_3 : decode cX9_wordOf 3 = .ok (.bipush 53, 2) := by decide +kernel
theorem dX9_wordOf_5 : decode cX9_wordOf 5 = .ok (.if_icmp .ge 20, 3) := by decide +kernel
theorem dX9_wordOf_8 : decode cX9_wordOf 8 = .ok (.iload_n 2, 1) := by decide +kernel
theorem dX9_wordOf_9 : decode cX9_wordOf 9 = .ok (.invokestatic 92, 3) := by decide +kernel
theorem dX9_wordOf_12 : decode cX9_wordOf 12 = .ok (.lload_n 0, 1) := by decide +kernel
theorem dX9_wordOf_13 : decode cX9_wordOf 13 = .ok (.lcmp, 1) := by decide +kernel
theorem dX9_wordOf_14 : decode cX9_wordOf 14 = .ok (.ifCond .ne 5, 3) := by decide +kernel
theorem dX9_wordOf_17 : decode cX9_wordOf 17 = .ok (.iload_n 2, 1) := by decide +kernel
theorem dX9_wordOf_18 : decode cX9_wordOf 18 = .ok (.ireturn, 1) := by decide +kernel
theorem dX9_wordOf_19 : decode cX9_wordOf 19 = .ok (.iinc 2 1, 3) := by decide +kernel
theorem dX9_wordOf_22 : decode cX9_wordOf 22 = .ok (.goto (-20), 3) := by decide +kernel
theorem dX9_wordOf_25 : decode cX9_wordOf 25 = .ok (.iconst (-1), 1) := by decide +kernel
theorem dX9_wordOf_26 : decode cX9_wordOf 26 = .ok (.ireturn, 1) := by decide +kernel
theorem dX9_isTold_0 : decode cX9_isTold 0 = .ok (.iload_n 0, 1) := by decide +kernel
theorem dX9_isTold_1 : decode cX9_isTold 1 = .ok (.bipush 21, 2) := by decide +kernel
theorem dX9_isTold_3 : decode cX9_isTold 3 = .ok (.if_icmp .le 13, 3) := by decide +kernel
theorem dX9_isTold_6 : decode cX9_isTold 6 = .ok (.iload_n 0, 1) := by decide +kernel
theorem dX9_isTold_7 : decode cX9_isTold 7 = .ok (.bipush 29, 2) := by decide +kernel
theorem dX9_isTold_9 : decode cX9_isTold 9 = .ok (.if_icmp .ge 7, 3) := by decide +kernel
theorem dX9_isTold_12 : decode cX9_isTold 12 = .ok (.iconst 1, 1) := by decide +kernel
theorem dX9_isTold_13 : decode cX9_isTold 13 = .ok (.goto 4, 3) := by decide +kernel
theorem dX9_isTold_16 : decode cX9_isTold 16 = .ok (.iconst 0, 1) := by decide +kernel
theorem dX9_isTold_17 : decode cX9_isTold 17 = .ok (.ireturn, 1) := by decide +kernel
theorem dX9_see_0 : decode cX9_see 0 = .ok (.iload_n 1, 1) := by decide +kernel
theorem dX9_see_1 : decode cX9_see 1 = .ok (.aload_n 0, 1) := by decide +kernel
theorem dX9_see_2 : decode cX9_see 2 = .ok (.getfield 67, 3) := by decide +kernel
theorem dX9_see_5 : decode cX9_see 5 = .ok (.if_icmp .ge 12, 3) := by decide +kernel
theorem dX9_see_8 : decode cX9_see 8 = .ok (.aload_n 0, 1) := by decide +kernel
theorem dX9_see_9 : decode cX9_see 9 = .ok (.getfield 7, 3) := by decide +kernel
theorem dX9_see_12 : decode cX9_see 12 = .ok (.iload_n 1, 1) := by decide +kernel
theorem dX9_see_13 : decode cX9_see 13 = .ok (.iaload, 1) := by decide +kernel
theorem dX9_see_14 : decode cX9_see 14 = .ok (.goto 4, 3) := by decide +kernel
theorem dX9_see_17 : decode cX9_see 17 = .ok (.iconst 0, 1) := by decide +kernel
theorem dX9_see_18 : decode cX9_see 18 = .ok (.ireturn, 1) := by decide +kernel
theorem dX9_isDigit_0 : decode cX9_isDigit 0 = .ok (.iload_n 0, 1) := by decide +kernel
theorem dX9_isDigit_1 : decode cX9_isDigit 1 = .ok (.bipush 48, 2) := by decide +kernel
theorem dX9_isDigit_3 : decode cX9_isDigit 3 = .ok (.if_icmp .lt 13, 3) := by decide +kernel
theorem dX9_isDigit_6 : decode cX9_isDigit 6 = .ok (.iload_n 0, 1) := by decide +kernel
theorem dX9_isDigit_7 : decode cX9_isDigit 7 = .ok (.bipush 57, 2) := by decide +kernel
theorem dX9_isDigit_9 : decode cX9_isDigit 9 = .ok (.if_icmp .gt 7, 3) := by decide +kernel
theorem dX9_isDigit_12 : decode cX9_isDigit 12 = .ok (.iconst 1, 1) := by decide +kernel
theorem dX9_isDigit_13 : decode cX9_isDigit 13 = .ok (.goto 4, 3) := by decide +kernel
theorem dX9_isDigit_16 : decode cX9_isDigit 16 = .ok (.iconst 0, 1) := by decide +kernel
theorem dX9_isDigit_17 : decode cX9_isDigit 17 = .ok (.ireturn, 1) := by decide +kernel
theorem dX9_isLetter_0 : decode cX9_isLetter 0 = .ok (.iload_n 0, 1) := by decide +kernel
theorem dX9_isLetter_1 : decode cX9_isLetter 1 = .ok (.bipush 97, 2) := by decide +kernel
theorem dX9_isLetter_3 : decode cX9_isLetter 3 = .ok (.if_icmp .lt 13, 3) := by decide +kernel
theorem dX9_isLetter_6 : decode cX9_isLetter 6 = .ok (.iload_n 0, 1) := by decide +kernel
theorem dX9_isLetter_7 : decode cX9_isLetter 7 = .ok (.bipush 122, 2) := by decide +kernel
theorem dX9_isLetter_9 : decode cX9_isLetter 9 = .ok (.if_icmp .gt 7, 3) := by decide +kernel
theorem dX9_isLetter_12 : decode cX9_isLetter 12 = .ok (.iconst 1, 1) := by decide +kernel
theorem dX9_isLetter_13 : decode cX9_isLetter 13 = .ok (.goto 4, 3) := by decide +kernel
theorem dX9_isLetter_16 : decode cX9_isLetter 16 = .ok (.iconst 0, 1) := by decide +kernel
theorem dX9_isLetter_17 : decode cX9_isLetter 17 = .ok (.ireturn, 1) := by decide +kernel
theorem dX9_isSign_0 : decode cX9_isSign 0 = .ok (.iload_n 0, 1) := by decide +kernel
theorem dX9_isSign_1 : decode cX9_isSign 1 = .ok (.bipush 59, 2) := by decide +kernel
theorem dX9_isSign_3 : decode cX9_isSign 3 = .ok (.if_icmp .eq 57, 3) := by decide +kernel
theorem dX9_isSign_6 : decode cX9_isSign 6 = .ok (.iload_n 0, 1) := by decide +kernel
theorem dX9_isSign_7 : decode cX9_isSign 7 = .ok (.bipush 58, 2) := by decide +kernel
theorem dX9_isSign_9 : decode cX9_isSign 9 = .ok (.if_icmp .eq 51, 3) := by decide +kernel
theorem dX9_isSign_12 : decode cX9_isSign 12 = .ok (.iload_n 0, 1) := by decide +kernel
theorem dX9_isSign_13 : decode cX9_isSign 13 = .ok (.bipush 44, 2) := by decide +kernel
theorem dX9_isSign_15 : decode cX9_isSign 15 = .ok (.if_icmp .eq 45, 3) := by decide +kernel
theorem dX9_isSign_18 : decode cX9_isSign 18 = .ok (.iload_n 0, 1) := by decide +kernel
theorem dX9_isSign_19 : decode cX9_isSign 19 = .ok (.bipush 64, 2) := by decide +kernel
theorem dX9_isSign_21 : decode cX9_isSign 21 = .ok (.if_icmp .eq 39, 3) := by decide +kernel
theorem dX9_isSign_24 : decode cX9_isSign 24 = .ok (.iload_n 0, 1) := by decide +kernel
theorem dX9_isSign_25 : decode cX9_isSign 25 = .ok (.bipush 33, 2) := by decide +kernel
theorem dX9_isSign_27 : decode cX9_isSign 27 = .ok (.if_icmp .eq 33, 3) := by decide +kernel
theorem dX9_isSign_30 : decode cX9_isSign 30 = .ok (.iload_n 0, 1) := by decide +kernel
theorem dX9_isSign_31 : decode cX9_isSign 31 = .ok (.bipush 61, 2) := by decide +kernel
theorem dX9_isSign_33 : decode cX9_isSign 33 = .ok (.if_icmp .eq 27, 3) := by decide +kernel
theorem dX9_isSign_36 : decode cX9_isSign 36 = .ok (.iload_n 0, 1) := by decide +kernel
theorem dX9_isSign_37 : decode cX9_isSign 37 = .ok (.bipush 45, 2) := by decide +kernel
theorem dX9_isSign_39 : decode cX9_isSign 39 = .ok (.if_icmp .eq 21, 3) := by decide +kernel
theorem dX9_isSign_42 : decode cX9_isSign 42 = .ok (.iload_n 0, 1) := by decide +kernel
theorem dX9_isSign_43 : decode cX9_isSign 43 = .ok (.bipush 40, 2) := by decide +kernel
theorem dX9_isSign_45 : decode cX9_isSign 45 = .ok (.if_icmp .eq 15, 3) := by decide +kernel
theorem dX9_isSign_48 : decode cX9_isSign 48 = .ok (.iload_n 0, 1) := by decide +kernel
theorem dX9_isSign_49 : decode cX9_isSign 49 = .ok (.bipush 41, 2) := by decide +kernel
theorem dX9_isSign_51 : decode cX9_isSign 51 = .ok (.if_icmp .eq 9, 3) := by decide +kernel
theorem dX9_isSign_54 : decode cX9_isSign 54 = .ok (.iload_n 0, 1) := by decide +kernel
theorem dX9_isSign_55 : decode cX9_isSign 55 = .ok (.bipush 43, 2) := by decide +kernel
theorem dX9_isSign_57 : decode cX9_isSign 57 = .ok (.if_icmp .ne 7, 3) := by decide +kernel
theorem dX9_isSign_60 : decode cX9_isSign 60 = .ok (.iconst 1, 1) := by decide +kernel
theorem dX9_isSign_61 : decode cX9_isSign 61 = .ok (.goto 4, 3) := by decide +kernel
theorem dX9_isSign_64 : decode cX9_isSign 64 = .ok (.iconst 0, 1) := by decide +kernel
theorem dX9_isSign_65 : decode cX9_isSign 65 = .ok (.ireturn, 1) := by decide +kernel
theorem dX9_token_0 : decode cX9_token 0 = .ok (.aload_n 0, 1) := by decide +kernel
theorem dX9_token_1 : decode cX9_token 1 = .ok (.getfield 13, 3) := by decide +kernel
theorem dX9_token_4 : decode cX9_token 4 = .ok (.aload_n 0, 1) := by decide +kernel
theorem dX9_token_5 : decode cX9_token 5 = .ok (.getfield 96, 3) := by decide +kernel
theorem dX9_token_8 : decode cX9_token 8 = .ok (.iload_n 1, 1) := by decide +kernel
theorem dX9_token_9 : decode cX9_token 9 = .ok (.iastore, 1) := by decide +kernel
theorem dX9_token_10 : decode cX9_token 10 = .ok (.aload_n 0, 1) := by decide +kernel
theorem dX9_token_11 : decode cX9_token 11 = .ok (.getfield 16, 3) := by decide +kernel
theorem dX9_token_14 : decode cX9_token 14 = .ok (.aload_n 0, 1) := by decide +kernel
theorem dX9_token_15 : decode cX9_token 15 = .ok (.getfield 96, 3) := by decide +kernel
theorem dX9_token_18 : decode cX9_token 18 = .ok (.iload_n 2, 1) := by decide +kernel
theorem dX9_token_19 : decode cX9_token 19 = .ok (.iastore, 1) := by decide +kernel
theorem dX9_token_20 : decode cX9_token 20 = .ok (.aload_n 0, 1) := by decide +kernel
theorem dX9_token_21 : decode cX9_token 21 = .ok (.getfield 19, 3) := by decide +kernel
theorem dX9_token_24 : decode cX9_token 24 = .ok (.aload_n 0, 1) := by decide +kernel
theorem dX9_token_25 : decode cX9_token 25 = .ok (.getfield 96, 3) := by decide +kernel
theorem dX9_token_28 : decode cX9_token 28 = .ok (.lload_n 3, 1) := by decide +kernel
theorem dX9_token_29 : decode cX9_token 29 = .ok (.lastore, 1) := by decide +kernel
theorem dX9_token_30 : decode cX9_token 30 = .ok (.aload_n 0, 1) := by decide +kernel
theorem dX9_token_31 : decode cX9_token 31 = .ok (.dup, 1) := by decide +kernel
theorem dX9_token_32 : decode cX9_token 32 = .ok (.getfield 96, 3) := by decide +kernel
theorem dX9_token_35 : decode cX9_token 35 = .ok (.iconst 1, 1) := by decide +kernel
theorem dX9_token_36 : decode cX9_token 36 = .ok (.iadd, 1) := by decide +kernel
theorem dX9_token_37 : decode cX9_token 37 = .ok (.putfield 96, 3) := by decide +kernel
theorem dX9_token_40 : decode cX9_token 40 = .ok (.return_, 1) := by decide +kernel
theorem dX9_tokenize_0 : decode cX9_tokenize 0 = .ok (.aload_n 0, 1) := by decide +kernel
theorem dX9_tokenize_1 : decode cX9_tokenize 1 = .ok (.iconst 0, 1) := by decide +kernel
theorem dX9_tokenize_2 : decode cX9_tokenize 2 = .ok (.putfield 96, 3) := by decide +kernel
theorem dX9_tokenize_5 : decode cX9_tokenize 5 = .ok (.iconst 0, 1) := by decide +kernel
theorem dX9_tokenize_6 : decode cX9_tokenize 6 = .ok (.istore_n 1, 1) := by decide +kernel
theorem dX9_tokenize_7 : decode cX9_tokenize 7 = .ok (.iconst 1, 1) := by decide +kernel
theorem dX9_tokenize_8 : decode cX9_tokenize 8 = .ok (.istore_n 2, 1) := by decide +kernel
theorem dX9_tokenize_9 : decode cX9_tokenize 9 = .ok (.iload_n 2, 1) := by decide +kernel
theorem dX9_tokenize_10 : decode cX9_tokenize 10 = .ok (.ifCond .eq 279, 3) := by decide +kernel
theorem dX9_tokenize_13 : decode cX9_tokenize 13 = .ok (.iload_n 1, 1) := by decide +kernel
theorem dX9_tokenize_14 : decode cX9_tokenize 14 = .ok (.aload_n 0, 1) := by decide +kernel
theorem dX9_tokenize_15 : decode cX9_tokenize 15 = .ok (.getfield 67, 3) := by decide +kernel
theorem dX9_tokenize_18 : decode cX9_tokenize 18 = .ok (.if_icmp .ge 271, 3) := by decide +kernel
theorem dX9_tokenize_21 : decode cX9_tokenize 21 = .ok (.iload_n 1, 1) := by decide +kernel
theorem dX9_tokenize_22 : decode cX9_tokenize 22 = .ok (.istore_n 3, 1) := by decide +kernel
theorem dX9_tokenize_23 : decode cX9_tokenize 23 = .ok (.lconst 0, 1) := by decide +kernel
theorem dX9_tokenize_24 : decode cX9_tokenize 24 = .ok (.lstore 4, 2) := by decide +kernel
theorem dX9_tokenize_26 : decode cX9_tokenize 26 = .ok (.aload_n 0, 1) := by decide +kernel
theorem dX9_tokenize_27 : decode cX9_tokenize 27 = .ok (.getfield 7, 3) := by decide +kernel
theorem dX9_tokenize_30 : decode cX9_tokenize 30 = .ok (.iload_n 1, 1) := by decide +kernel
theorem dX9_tokenize_31 : decode cX9_tokenize 31 = .ok (.iaload, 1) := by decide +kernel
theorem dX9_tokenize_32 : decode cX9_tokenize 32 = .ok (.bipush 32, 2) := by decide +kernel
theorem dX9_tokenize_34 : decode cX9_tokenize 34 = .ok (.if_icmp .ne 9, 3) := by decide +kernel
theorem dX9_tokenize_37 : decode cX9_tokenize 37 = .ok (.iinc 1 1, 3) := by decide +kernel
theorem dX9_tokenize_40 : decode cX9_tokenize 40 = .ok (.goto 218, 3) := by decide +kernel
theorem dX9_tokenize_43 : decode cX9_tokenize 43 = .ok (.aload_n 0, 1) := by decide +kernel
theorem dX9_tokenize_44 : decode cX9_tokenize 44 = .ok (.getfield 7, 3) := by decide +kernel
theorem dX9_tokenize_47 : decode cX9_tokenize 47 = .ok (.iload_n 1, 1) := by decide +kernel
theorem dX9_tokenize_48 : decode cX9_tokenize 48 = .ok (.iaload, 1) := by decide +kernel
theorem dX9_tokenize_49 : decode cX9_tokenize 49 = .ok (.invokestatic 99, 3) := by decide +kernel
theorem dX9_tokenize_52 : decode cX9_tokenize 52 = .ok (.ifCond .eq 84, 3) := by decide +kernel
theorem dX9_tokenize_55 : decode cX9_tokenize 55 = .ok (.aload_n 0, 1) := by decide +kernel
theorem dX9_tokenize_56 : decode cX9_tokenize 56 = .ok (.iload_n 1, 1) := by decide +kernel
theorem dX9_tokenize_57 : decode cX9_tokenize 57 = .ok (.invokevirtual 103, 3) := by decide +kernel
theorem dX9_tokenize_60 : decode cX9_tokenize 60 = .ok (.invokestatic 99, 3) := by decide +kernel
theorem dX9_tokenize_63 : decode cX9_tokenize 63 = .ok (.ifCond .eq 41, 3) := by decide +kernel
theorem dX9_tokenize_66 : decode cX9_tokenize 66 = .ok (.iload_n 1, 1) := by decide +kernel
theorem dX9_tokenize_67 : decode cX9_tokenize 67 = .ok (.iload_n 3, 1) := by decide +kernel
theorem dX9_tokenize_68 : decode cX9_tokenize 68 = .ok (.isub, 1) := by decide +kernel
theorem dX9_tokenize_69 : decode cX9_tokenize 69 = .ok (.bipush 10, 2) := by decide +kernel
theorem dX9_tokenize_71 : decode cX9_tokenize 71 = .ok (.if_icmp .ge 23, 3) := by decide +kernel
theorem dX9_tokenize_74 : decode cX9_tokenize 74 = .ok (.ldc2_w 106, 3) := by decide +kernel
theorem dX9_tokenize_77 : decode cX9_tokenize 77 = .ok (.lload 4, 2) := by decide +kernel
theorem dX9_tokenize_79 : decode cX9_tokenize 79 = .ok (.lmul, 1) := by decide +kernel
theorem dX9_tokenize_80 : decode cX9_tokenize 80 = .ok (.aload_n 0, 1) := by decide +kernel
theorem dX9_tokenize_81 : decode cX9_tokenize 81 = .ok (.iload_n 1, 1) := by decide +kernel
theorem dX9_tokenize_82 : decode cX9_tokenize 82 = .ok (.invokevirtual 103, 3) := by decide +kernel
theorem dX9_tokenize_85 : decode cX9_tokenize 85 = .ok (.i2l, 1) := by decide +kernel
theorem dX9_tokenize_86 : decode cX9_tokenize 86 = .ok (.ladd, 1) := by decide +kernel
theorem dX9_tokenize_87 : decode cX9_tokenize 87 = .ok (.ldc2_w 108, 3) := by decide +kernel
theorem dX9_tokenize_90 : decode cX9_tokenize 90 = .ok (.lsub, 1) := by decide +kernel
theorem dX9_tokenize_91 : decode cX9_tokenize 91 = .ok (.goto 5, 3) := by decide +kernel
theorem dX9_tokenize_94 : decode cX9_tokenize 94 = .ok (.lload 4, 2) := by decide +kernel
theorem dX9_tokenize_96 : decode cX9_tokenize 96 = .ok (.lstore 4, 2) := by decide +kernel
theorem dX9_tokenize_98 : decode cX9_tokenize 98 = .ok (.iinc 1 1, 3) := by decide +kernel
theorem dX9_tokenize_101 : decode cX9_tokenize 101 = .ok (.goto (-46), 3) := by decide +kernel
theorem dX9_tokenize_104 : decode cX9_tokenize 104 = .ok (.aload_n 0, 1) := by decide +kernel
theorem dX9_tokenize_105 : decode cX9_tokenize 105 = .ok (.iload_n 1, 1) := by decide +kernel
theorem dX9_tokenize_106 : decode cX9_tokenize 106 = .ok (.iload_n 3, 1) := by decide +kernel
theorem dX9_tokenize_107 : decode cX9_tokenize 107 = .ok (.isub, 1) := by decide +kernel
theorem dX9_tokenize_108 : decode cX9_tokenize 108 = .ok (.bipush 10, 2) := by decide +kernel
theorem dX9_tokenize_110 : decode cX9_tokenize 110 = .ok (.if_icmp .gt 12, 3) := by decide +kernel
theorem dX9_tokenize_113 : decode cX9_tokenize 113 = .ok (.lload 4, 2) := by decide +kernel
theorem dX9_tokenize_115 : decode cX9_tokenize 115 = .ok (.ldc2_w 110, 3) := by decide +kernel
theorem dX9_tokenize_118 : decode cX9_tokenize 118 = .ok (.lcmp, 1) := by decide +kernel
theorem dX9_tokenize_119 : decode cX9_tokenize 119 = .ok (.ifCond .le 7, 3) := by decide +kernel
theorem dX9_tokenize_122 : decode cX9_tokenize 122 = .ok (.iconst 4, 1) := by decide +kernel
theorem dX9_tokenize_123 : decode cX9_tokenize 123 = .ok (.goto 4, 3) := by decide +kernel
theorem dX9_tokenize_126 : decode cX9_tokenize 126 = .ok (.iconst 2, 1) := by decide +kernel
theorem dX9_tokenize_127 : decode cX9_tokenize 127 = .ok (.iload_n 3, 1) := by decide +kernel
theorem dX9_tokenize_128 : decode cX9_tokenize 128 = .ok (.lload 4, 2) := by decide +kernel
theorem dX9_tokenize_130 : decode cX9_tokenize 130 = .ok (.invokevirtual 112, 3) := by decide +kernel
theorem dX9_tokenize_133 : decode cX9_tokenize 133 = .ok (.goto 125, 3) := by decide +kernel
theorem dX9_tokenize_136 : decode cX9_tokenize 136 = .ok (.aload_n 0, 1) := by decide +kernel
theorem dX9_tokenize_137 : decode cX9_tokenize 137 = .ok (.getfield 7, 3) := by decide +kernel
theorem dX9_tokenize_140 : decode cX9_tokenize 140 = .ok (.iload_n 1, 1) := by decide +kernel
theorem dX9_tokenize_141 : decode cX9_tokenize 141 = .ok (.iaload, 1) := by decide +kernel
theorem dX9_tokenize_142 : decode cX9_tokenize 142 = .ok (.invokestatic 116, 3) := by decide +kernel
theorem dX9_tokenize_145 : decode cX9_tokenize 145 = .ok (.ifCond .eq 81, 3) := by decide +kernel
theorem dX9_tokenize_148 : decode cX9_tokenize 148 = .ok (.aload_n 0, 1) := by decide +kernel
theorem dX9_tokenize_149 : decode cX9_tokenize 149 = .ok (.iload_n 1, 1) := by decide +kernel
theorem dX9_tokenize_150 : decode cX9_tokenize 150 = .ok (.invokevirtual 103, 3) := by decide +kernel
theorem dX9_tokenize_153 : decode cX9_tokenize 153 = .ok (.invokestatic 116, 3) := by decide +kernel
theorem dX9_tokenize_156 : decode cX9_tokenize 156 = .ok (.ifCond .ne 14, 3) := by decide +kernel
theorem dX9_tokenize_159 : decode cX9_tokenize 159 = .ok (.aload_n 0, 1) := by decide +kernel
theorem dX9_tokenize_160 : decode cX9_tokenize 160 = .ok (.iload_n 1, 1) := by decide +kernel
theorem dX9_tokenize_161 : decode cX9_tokenize 161 = .ok (.invokevirtual 103, 3) := by decide +kernel
theorem dX9_tokenize_164 : decode cX9_tokenize 164 = .ok (.invokestatic 99, 3) := by decide +kernel
theorem dX9_tokenize_167 : decode cX9_tokenize 167 = .ok (.ifCond .eq 36, 3) := by decide +kernel
theorem dX9_tokenize_170 : decode cX9_tokenize 170 = .ok (.iload_n 1, 1) := by decide +kernel
theorem dX9_tokenize_171 : decode cX9_tokenize 171 = .ok (.iload_n 3, 1) := by decide +kernel
theorem dX9_tokenize_172 : decode cX9_tokenize 172 = .ok (.isub, 1) := by decide +kernel
theorem dX9_tokenize_173 : decode cX9_tokenize 173 = .ok (.bipush 8, 2) := by decide +kernel
theorem dX9_tokenize_175 : decode cX9_tokenize 175 = .ok (.if_icmp .ge 18, 3) := by decide +kernel
theorem dX9_tokenize_178 : decode cX9_tokenize 178 = .ok (.lload 4, 2) := by decide +kernel
theorem dX9_tokenize_180 : decode cX9_tokenize 180 = .ok (.bipush 8, 2) := by decide +kernel
theorem dX9_tokenize_182 : decode cX9_tokenize 182 = .ok (.lshl, 1) := by decide +kernel
theorem dX9_tokenize_183 : decode cX9_tokenize 183 = .ok (.aload_n 0, 1) := by decide +kernel
theorem dX9_tokenize_184 : decode cX9_tokenize 184 = .ok (.iload_n 1, 1) := by decide +kernel
theorem dX9_tokenize_185 : decode cX9_tokenize 185 = .ok (.invokevirtual 103, 3) := by decide +kernel
theorem dX9_tokenize_188 : decode cX9_tokenize 188 = .ok (.i2l, 1) := by decide +kernel
theorem dX9_tokenize_189 : decode cX9_tokenize 189 = .ok (.lor, 1) := by decide +kernel
theorem dX9_tokenize_190 : decode cX9_tokenize 190 = .ok (.goto 5, 3) := by decide +kernel
theorem dX9_tokenize_193 : decode cX9_tokenize 193 = .ok (.lload 4, 2) := by decide +kernel
theorem dX9_tokenize_195 : decode cX9_tokenize 195 = .ok (.lstore 4, 2) := by decide +kernel
theorem dX9_tokenize_197 : decode cX9_tokenize 197 = .ok (.iinc 1 1, 3) := by decide +kernel
theorem dX9_tokenize_200 : decode cX9_tokenize 200 = .ok (.goto (-52), 3) := by decide +kernel
theorem dX9_tokenize_203 : decode cX9_tokenize 203 = .ok (.aload_n 0, 1) := by decide +kernel
theorem dX9_tokenize_204 : decode cX9_tokenize 204 = .ok (.iload_n 1, 1) := by decide +kernel
theorem dX9_tokenize_205 : decode cX9_tokenize 205 = .ok (.iload_n 3, 1) := by decide +kernel
theorem dX9_tokenize_206 : decode cX9_tokenize 206 = .ok (.isub, 1) := by decide +kernel
theorem dX9_tokenize_207 : decode cX9_tokenize 207 = .ok (.bipush 8, 2) := by decide +kernel
theorem dX9_tokenize_209 : decode cX9_tokenize 209 = .ok (.if_icmp .le 7, 3) := by decide +kernel
theorem dX9_tokenize_212 : decode cX9_tokenize 212 = .ok (.iconst 4, 1) := by decide +kernel
theorem dX9_tokenize_213 : decode cX9_tokenize 213 = .ok (.goto 4, 3) := by decide +kernel
theorem dX9_tokenize_216 : decode cX9_tokenize 216 = .ok (.iconst 1, 1) := by decide +kernel
theorem dX9_tokenize_217 : decode cX9_tokenize 217 = .ok (.iload_n 3, 1) := by decide +kernel
theorem dX9_tokenize_218 : decode cX9_tokenize 218 = .ok (.lload 4, 2) := by decide +kernel
theorem dX9_tokenize_220 : decode cX9_tokenize 220 = .ok (.invokevirtual 112, 3) := by decide +kernel
theorem dX9_tokenize_223 : decode cX9_tokenize 223 = .ok (.goto 35, 3) := by decide +kernel
theorem dX9_tokenize_226 : decode cX9_tokenize 226 = .ok (.aload_n 0, 1) := by decide +kernel
theorem dX9_tokenize_227 : decode cX9_tokenize 227 = .ok (.aload_n 0, 1) := by decide +kernel
theorem dX9_tokenize_228 : decode cX9_tokenize 228 = .ok (.getfield 7, 3) := by decide +kernel
theorem dX9_tokenize_231 : decode cX9_tokenize 231 = .ok (.iload_n 1, 1) := by decide +kernel
theorem dX9_tokenize_232 : decode cX9_tokenize 232 = .ok (.iaload, 1) := by decide +kernel
theorem dX9_tokenize_233 : decode cX9_tokenize 233 = .ok (.invokestatic 119, 3) := by decide +kernel
theorem dX9_tokenize_236 : decode cX9_tokenize 236 = .ok (.ifCond .eq 7, 3) := by decide +kernel
theorem dX9_tokenize_239 : decode cX9_tokenize 239 = .ok (.iconst 3, 1) := by decide +kernel
theorem dX9_tokenize_240 : decode cX9_tokenize 240 = .ok (.goto 4, 3) := by decide +kernel
theorem dX9_tokenize_243 : decode cX9_tokenize 243 = .ok (.iconst 4, 1) := by decide +kernel
theorem dX9_tokenize_244 : decode cX9_tokenize 244 = .ok (.iload_n 3, 1) := by decide +kernel
theorem dX9_tokenize_245 : decode cX9_tokenize 245 = .ok (.aload_n 0, 1) := by decide +kernel
theorem dX9_tokenize_246 : decode cX9_tokenize 246 = .ok (.getfield 7, 3) := by decide +kernel
theorem dX9_tokenize_249 : decode cX9_tokenize 249 = .ok (.iload_n 1, 1) := by decide +kernel
theorem dX9_tokenize_250 : decode cX9_tokenize 250 = .ok (.iaload, 1) := by decide +kernel
theorem dX9_tokenize_251 : decode cX9_tokenize 251 = .ok (.i2l, 1) := by decide +kernel
theorem dX9_tokenize_252 : decode cX9_tokenize 252 = .ok (.invokevirtual 112, 3) := by decide +kernel
theorem dX9_tokenize_255 : decode cX9_tokenize 255 = .ok (.iinc 1 1, 3) := by decide +kernel
theorem dX9_tokenize_258 : decode cX9_tokenize 258 = .ok (.aload_n 0, 1) := by decide +kernel
theorem dX9_tokenize_259 : decode cX9_tokenize 259 = .ok (.getfield 96, 3) := by decide +kernel
theorem dX9_tokenize_262 : decode cX9_tokenize 262 = .ok (.ifCond .eq 18, 3) := by decide +kernel
theorem dX9_tokenize_265 : decode cX9_tokenize 265 = .ok (.aload_n 0, 1) := by decide +kernel
