theorem dX0_init_0 : decode cX0_init 0 = .ok (.aload_n 0, 1) := by decide +kernel
theorem dX0_init_1 : decode cX0_init 1 = .ok (.invokespecial 3, 3) := by decide +kernel
theorem dX0_init_4 : decode cX0_init 4 = .ok (.aload_n 0, 1) := by decide +kernel
theorem dX0_init_5 : decode cX0_init 5 = .ok (.bipush 64, 2) := by decide +kernel
theorem dX0_init_7 : decode cX0_init 7 = .ok (.newarray .long, 2) := by decide +kernel
theorem dX0_init_9 : decode cX0_init 9 = .ok (.putfield 9, 3) := by decide +kernel
theorem dX0_init_12 : decode cX0_init 12 = .ok (.aload_n 0, 1) := by decide +kernel
theorem dX0_init_13 : decode cX0_init 13 = .ok (.bipush 64, 2) := by decide +kernel
theorem dX0_init_15 : decode cX0_init 15 = .ok (.anewarray 15, 3) := by decide +kernel
theorem dX0_init_18 : decode cX0_init 18 = .ok (.putfield 17, 3) := by decide +kernel
theorem dX0_init_21 : decode cX0_init 21 = .ok (.aload_n 0, 1) := by decide +kernel
theorem dX0_init_22 : decode cX0_init 22 = .ok (.bipush 64, 2) := by decide +kernel
theorem dX0_init_24 : decode cX0_init 24 = .ok (.newarray .int, 2) := by decide +kernel
theorem dX0_init_26 : decode cX0_init 26 = .ok (.putfield 21, 3) := by decide +kernel
theorem dX0_init_29 : decode cX0_init 29 = .ok (.aload_n 0, 1) := by decide +kernel
theorem dX0_init_30 : decode cX0_init 30 = .ok (.bipush 64, 2) := by decide +kernel
theorem dX0_init_32 : decode cX0_init 32 = .ok (.newarray .int, 2) := by decide +kernel
theorem dX0_init_34 : decode cX0_init 34 = .ok (.putfield 25, 3) := by decide +kernel
theorem dX0_init_37 : decode cX0_init 37 = .ok (.aload_n 0, 1) := by decide +kernel
theorem dX0_init_38 : decode cX0_init 38 = .ok (.iconst 0, 1) := by decide +kernel
theorem dX0_init_39 : decode cX0_init 39 = .ok (.putfield 28, 3) := by decide +kernel
theorem dX0_init_42 : decode cX0_init 42 = .ok (.return_, 1) := by decide +kernel
theorem dX0_has_0 : decode cX0_has 0 = .ok (.iload_n 1, 1) := by decide +kernel
theorem dX0_has_1 : decode cX0_has 1 = .ok (.ifCond .lt 15, 3) := by decide +kernel
theorem dX0_has_4 : decode cX0_has 4 = .ok (.iload_n 1, 1) := by decide +kernel
theorem dX0_has_5 : decode cX0_has 5 = .ok (.aload_n 0, 1) := by decide +kernel
theorem dX0_has_6 : decode cX0_has 6 = .ok (.getfield 28, 3) := by decide +kernel
theorem dX0_has_9 : decode cX0_has 9 = .ok (.if_icmp .ge 7, 3) := by decide +kernel
theorem dX0_has_12 : decode cX0_has 12 = .ok (.iconst 1, 1) := by decide +kernel
theorem dX0_has_13 : decode cX0_has 13 = .ok (.goto 4, 3) := by decide +kernel
theorem dX0_has_16 : decode cX0_has 16 = .ok (.iconst 0, 1) := by decide +kernel
theorem dX0_has_17 : decode cX0_has 17 = .ok (.ireturn, 1) := by decide +kernel
theorem dX0_bitOf_0 : decode cX0_bitOf 0 = .ok (.aload_n 0, 1) := by decide +kernel
theorem dX0_bitOf_1 : decode cX0_bitOf 1 = .ok (.iload_n 1, 1) := by decide +kernel
theorem dX0_bitOf_2 : decode cX0_bitOf 2 = .ok (.invokevirtual 32, 3) := by decide +kernel
theorem dX0_bitOf_5 : decode cX0_bitOf 5 = .ok (.ifCond .eq 9, 3) := by decide +kernel
theorem dX0_bitOf_8 : decode cX0_bitOf 8 = .ok (.lconst 1, 1) := by decide +kernel
theorem dX0_bitOf_9 : decode cX0_bitOf 9 = .ok (.iload_n 1, 1) := by decide +kernel
theorem dX0_bitOf_10 : decode cX0_bitOf 10 = .ok (.lshl, 1) := by decide +kernel
theorem dX0_bitOf_11 : decode cX0_bitOf 11 = .ok (.goto 4, 3) := by decide +kernel
theorem dX0_bitOf_14 : decode cX0_bitOf 14 = .ok (.lconst 0, 1) := by decide +kernel
theorem dX0_bitOf_15 : decode cX0_bitOf 15 = .ok (.lreturn, 1) := by decide +kernel
theorem dX0_put_0 : decode cX0_put 0 = .ok (.iload_n 1, 1) := by decide +kernel
theorem dX0_put_1 : decode cX0_put 1 = .ok (.ifCond .lt 17, 3) := by decide +kernel
theorem dX0_put_4 : decode cX0_put 4 = .ok (.iload_n 1, 1) := by decide +kernel
theorem dX0_put_5 : decode cX0_put 5 = .ok (.aload_n 0, 1) := by decide +kernel
theorem dX0_put_6 : decode cX0_put 6 = .ok (.getfield 28, 3) := by decide +kernel
theorem dX0_put_9 : decode cX0_put 9 = .ok (.if_icmp .gt 9, 3) := by decide +kernel
theorem dX0_put_12 : decode cX0_put 12 = .ok (.iload_n 1, 1) := by decide +kernel
theorem dX0_put_13 : decode cX0_put 13 = .ok (.bipush 64, 2) := by decide +kernel
theorem dX0_put_15 : decode cX0_put 15 = .ok (.if_icmp .lt 4, 3) := by decide +kernel
theorem dX0_put_18 : decode cX0_put 18 = .ok (.return_, 1) := by decide +kernel
theorem dX0_put_19 : decode cX0_put 19 = .ok (.lload_n 2, 1) := by decide +kernel
theorem dX0_put_20 : decode cX0_put 20 = .ok (.invokestatic 36, 3) := by decide +kernel
theorem dX0_put_23 : decode cX0_put 23 = .ok (.astore 4, 2) := by decide +kernel
theorem dX0_put_25 : decode cX0_put 25 = .ok (.aload_n 0, 1) := by decide +kernel
theorem dX0_put_26 : decode cX0_put 26 = .ok (.getfield 9, 3) := by decide +kernel
theorem dX0_put_29 : decode cX0_put 29 = .ok (.iload_n 1, 1) := by decide +kernel
theorem dX0_put_30 : decode cX0_put 30 = .ok (.lload_n 2, 1) := by decide +kernel
theorem dX0_put_31 : decode cX0_put 31 = .ok (.lastore, 1) := by decide +kernel
theorem dX0_put_32 : decode cX0_put 32 = .ok (.aload_n 0, 1) := by decide +kernel
theorem dX0_put_33 : decode cX0_put 33 = .ok (.getfield 17, 3) := by decide +kernel
theorem dX0_put_36 : decode cX0_put 36 = .ok (.iload_n 1, 1) := by decide +kernel
theorem dX0_put_37 : decode cX0_put 37 = .ok (.aload 4, 2) := by decide +kernel
theorem dX0_put_39 : decode cX0_put 39 = .ok (.aastore, 1) := by decide +kernel
theorem dX0_put_40 : decode cX0_put 40 = .ok (.aload_n 0, 1) := by decide +kernel
theorem dX0_put_41 : decode cX0_put 41 = .ok (.getfield 21, 3) := by decide +kernel
theorem dX0_put_44 : decode cX0_put 44 = .ok (.iload_n 1, 1) := by decide +kernel
theorem dX0_put_45 : decode cX0_put 45 = .ok (.aload 4, 2) := by decide +kernel
theorem dX0_put_47 : decode cX0_put 47 = .ok (.ifnonnull 7, 3) := by decide +kernel
theorem dX0_put_50 : decode cX0_put 50 = .ok (.iconst 0, 1) := by decide +kernel
theorem dX0_put_51 : decode cX0_put 51 = .ok (.goto 9, 3) := by decide +kernel
theorem dX0_put_54 : decode cX0_put 54 = .ok (.aload 4, 2) := by decide +kernel
theorem dX0_put_56 : decode cX0_put 56 = .ok (.lload_n 2, 1) := by decide +kernel
theorem dX0_put_57 : decode cX0_put 57 = .ok (.invokevirtual 40, 3) := by decide +kernel
theorem dX0_put_60 : decode cX0_put 60 = .ok (.iastore, 1) := by decide +kernel
theorem dX0_put_61 : decode cX0_put 61 = .ok (.aload_n 0, 1) := by decide +kernel
theorem dX0_put_62 : decode cX0_put 62 = .ok (.getfield 25, 3) := by decide +kernel
theorem dX0_put_65 : decode cX0_put 65 = .ok (.iload_n 1, 1) := by decide +kernel
theorem dX0_put_66 : decode cX0_put 66 = .ok (.aload 4, 2) := by decide +kernel
theorem dX0_put_68 : decode cX0_put 68 = .ok (.ifnull 10, 3) := by decide +kernel
theorem dX0_put_71 : decode cX0_put 71 = .ok (.lload_n 2, 1) := by decide +kernel
theorem dX0_put_72 : decode cX0_put 72 = .ok (.invokestatic 44, 3) := by decide +kernel
theorem dX0_put_75 : decode cX0_put 75 = .ok (.ifCond .eq 7, 3) := by decide +kernel
theorem dX0_put_78 : decode cX0_put 78 = .ok (.iconst 0, 1) := by decide +kernel
theorem dX0_put_79 : decode cX0_put 79 = .ok (.goto 9, 3) := by decide +kernel
theorem dX0_put_82 : decode cX0_put 82 = .ok (.aload 4, 2) := by decide +kernel
theorem dX0_put_84 : decode cX0_put 84 = .ok (.lload_n 2, 1) := by decide +kernel
theorem dX0_put_85 : decode cX0_put 85 = .ok (.invokevirtual 48, 3) := by decide +kernel
theorem dX0_put_88 : decode cX0_put 88 = .ok (.iastore, 1) := by decide +kernel
theorem dX0_put_89 : decode cX0_put 89 = .ok (.aload_n 0, 1) := by decide +kernel
theorem dX0_put_90 : decode cX0_put 90 = .ok (.aload_n 0, 1) := by decide +kernel
theorem dX0_put_91 : decode cX0_put 91 = .ok (.getfield 28, 3) := by decide +kernel
theorem dX0_put_94 : decode cX0_put 94 = .ok (.iload_n 1, 1) := by decide +kernel
theorem dX0_put_95 : decode cX0_put 95 = .ok (.iconst 1, 1) := by decide +kernel
theorem dX0_put_96 : decode cX0_put 96 = .ok (.iadd, 1) := by decide +kernel
theorem dX0_put_97 : decode cX0_put 97 = .ok (.invokestatic 51, 3) := by decide +kernel
theorem dX0_put_100 : decode cX0_put 100 = .ok (.putfield 28, 3) := by decide +kernel
theorem dX0_put_103 : decode cX0_put 103 = .ok (.return_, 1) := by decide +kernel
theorem dX0_become_0 : decode cX0_become 0 = .ok (.aload_n 0, 1) := by decide +kernel
theorem dX0_become_1 : decode cX0_become 1 = .ok (.iconst 0, 1) := by decide +kernel
theorem dX0_become_2 : decode cX0_become 2 = .ok (.putfield 28, 3) := by decide +kernel
theorem dX0_become_5 : decode cX0_become 5 = .ok (.iconst 0, 1) := by decide +kernel
theorem dX0_become_6 : decode cX0_become 6 = .ok (.istore_n 3, 1) := by decide +kernel
theorem dX0_become_7 : decode cX0_become 7 = .ok (.iload_n 3, 1) := by decide +kernel
theorem dX0_become_8 : decode cX0_become 8 = .ok (.iload_n 2, 1) := by decide +kernel
theorem dX0_become_9 : decode cX0_become 9 = .ok (.if_icmp .ge 23, 3) := by decide +kernel
theorem dX0_become_12 : decode cX0_become 12 = .ok (.iload_n 3, 1) := by decide +kernel
theorem dX0_become_13 : decode cX0_become 13 = .ok (.aload_n 1, 1) := by decide +kernel
theorem dX0_become_14 : decode cX0_become 14 = .ok (.arraylength, 1) := by decide +kernel
theorem dX0_become_15 : decode cX0_become 15 = .ok (.if_icmp .ge 17, 3) := by decide +kernel
theorem dX0_become_18 : decode cX0_become 18 = .ok (.aload_n 0, 1) := by decide +kernel
theorem dX0_become_19 : decode cX0_become 19 = .ok (.iload_n 3, 1) := by decide +kernel
theorem dX0_become_20 : decode cX0_become 20 = .ok (.aload_n 1, 1) := by decide +kernel
theorem dX0_become_21 : decode cX0_become 21 = .ok (.iload_n 3, 1) := by decide +kernel
theorem dX0_become_22 : decode cX0_become 22 = .ok (.laload, 1) := by decide +kernel
theorem dX0_become_23 : decode cX0_become 23 = .ok (.invokevirtual 57, 3) := by decide +kernel
theorem dX0_become_26 : decode cX0_become 26 = .ok (.iinc 3 1, 3) := by decide +kernel
theorem dX0_become_29 : decode cX0_become 29 = .ok (.goto (-22), 3) := by decide +kernel
theorem dX0_become_32 : decode cX0_become 32 = .ok (.return_, 1) := by decide +kernel
theorem dX0_unmade_0 : decode cX0_unmade 0 = .ok (.iconst 0, 1) := by decide +kernel
theorem dX0_unmade_1 : decode cX0_unmade 1 = .ok (.istore_n 1, 1) := by decide +kernel
theorem dX0_unmade_2 : decode cX0_unmade 2 = .ok (.iconst 0, 1) := by decide +kernel
theorem dX0_unmade_3 : decode cX0_unmade 3 = .ok (.istore_n 2, 1) := by decide +kernel
theorem dX0_unmade_4 : decode cX0_unmade 4 = .ok (.iload_n 2, 1) := by decide +kernel
theorem dX0_unmade_5 : decode cX0_unmade 5 = .ok (.aload_n 0, 1) := by decide +kernel
theorem dX0_unmade_6 : decode cX0_unmade 6 = .ok (.getfield 28, 3) := by decide +kernel
theorem dX0_unmade_9 : decode cX0_unmade 9 = .ok (.if_icmp .ge 21, 3) := by decide +kernel
theorem dX0_unmade_12 : decode cX0_unmade 12 = .ok (.aload_n 0, 1) := by decide +kernel
theorem dX0_unmade_13 : decode cX0_unmade 13 = .ok (.getfield 17, 3) := by decide +kernel
theorem dX0_unmade_16 : decode cX0_unmade 16 = .ok (.iload_n 2, 1) := by decide +kernel
theorem dX0_unmade_17 : decode cX0_unmade 17 = .ok (.aaload, 1) := by decide +kernel
theorem dX0_unmade_18 : decode cX0_unmade 18 = .ok (.ifnonnull 6, 3) := by decide +kernel
theorem dX0_unmade_21 : decode cX0_unmade 21 = .ok (.iinc 1 1, 3) := by decide +kernel
theorem dX0_unmade_24 : decode cX0_unmade 24 = .ok (.iinc 2 1, 3) := by decide +kernel
theorem dX0_unmade_27 : decode cX0_unmade 27 = .ok (.goto (-23), 3) := by decide +kernel
theorem dX0_unmade_30 : decode cX0_unmade 30 = .ok (.iload_n 1, 1) := by decide +kernel
theorem dX0_unmade_31 : decode cX0_unmade 31 = .ok (.ireturn, 1) := by decide +kernel
theorem dX0_readersOf_0 : decode cX0_readersOf 0 = .ok (.aload_n 0, 1) := by decide +kernel
theorem dX0_readersOf_1 : decode cX0_readersOf 1 = .ok (.aload_n 0, 1) := by decide +kernel
theorem dX0_readersOf_2 : decode cX0_readersOf 2 = .ok (.getfield 21, 3) := by decide +kernel
theorem dX0_readersOf_5 : decode cX0_readersOf 5 = .ok (.iload_n 1, 1) := by decide +kernel
theorem dX0_readersOf_6 : decode cX0_readersOf 6 = .ok (.invokevirtual 61, 3) := by decide +kernel
theorem dX0_readersOf_9 : decode cX0_readersOf 9 = .ok (.lreturn, 1) := by decide +kernel
theorem dX0_overwritersOf_0 : decode cX0_overwritersOf 0 = .ok (.aload_n 0, 1) := by decide +kernel
theorem dX0_overwritersOf_1 : decode cX0_overwritersOf 1 = .ok (.aload_n 0, 1) := by decide +kernel
theorem dX0_overwritersOf_2 : decode cX0_overwritersOf 2 = .ok (.getfield 25, 3) := by decide +kernel
theorem dX0_overwritersOf_5 : decode cX0_overwritersOf 5 = .ok (.iload_n 1, 1) := by decide +kernel
theorem dX0_overwritersOf_6 : decode cX0_overwritersOf 6 = .ok (.invokevirtual 61, 3) := by decide +kernel
theorem dX0_overwritersOf_9 : decode cX0_overwritersOf 9 = .ok (.lreturn, 1) := by decide +kernel
theorem dX0_having_0 : decode cX0_having 0 = .ok (.lconst 0, 1) := by decide +kernel
theorem dX0_having_1 : decode cX0_having 1 = .ok (.lstore_n 3, 1) := by decide +kernel
theorem dX0_having_2 : decode cX0_having 2 = .ok (.iconst 0, 1) := by decide +kernel
theorem dX0_having_3 : decode cX0_having 3 = .ok (.istore 5, 2) := by decide +kernel
theorem dX0_having_5 : decode cX0_having 5 = .ok (.iload 5, 2) := by decide +kernel
theorem dX0_having_7 : decode cX0_having 7 = .ok (.aload_n 0, 1) := by decide +kernel
theorem dX0_having_8 : decode cX0_having 8 = .ok (.getfield 28, 3) := by decide +kernel
theorem dX0_having_11 : decode cX0_having 11 = .ok (.if_icmp .ge 36, 3) := by decide +kernel
theorem dX0_having_14 : decode cX0_having 14 = .ok (.iload 5, 2) := by decide +kernel
theorem dX0_having_16 : decode cX0_having 16 = .ok (.aload_n 1, 1) := by decide +kernel
theorem dX0_having_17 : decode cX0_having 17 = .ok (.arraylength, 1) := by decide +kernel
theorem dX0_having_18 : decode cX0_having 18 = .ok (.if_icmp .ge 29, 3) := by decide +kernel
theorem dX0_having_21 : decode cX0_having 21 = .ok (.aload_n 1, 1) := by decide +kernel
theorem dX0_having_22 : decode cX0_having 22 = .ok (.iload 5, 2) := by decide +kernel
theorem dX0_having_24 : decode cX0_having 24 = .ok (.iaload, 1) := by decide +kernel
theorem dX0_having_25 : decode cX0_having 25 = .ok (.iload_n 2, 1) := by decide +kernel
theorem dX0_having_26 : decode cX0_having 26 = .ok (.ishr, 1) := by decide +kernel
theorem dX0_having_27 : decode cX0_having 27 = .ok (.iconst 1, 1) := by decide +kernel
theorem dX0_having_28 : decode cX0_having 28 = .ok (.iand, 1) := by decide +kernel
theorem dX0_having_29 : decode cX0_having 29 = .ok (.ifCond .eq 12, 3) := by decide +kernel
theorem dX0_having_32 : decode cX0_having 32 = .ok (.lload_n 3, 1) := by decide +kernel
theorem dX0_having_33 : decode cX0_having 33 = .ok (.aload_n 0, 1) := by decide +kernel
theorem dX0_having_34 : decode cX0_having 34 = .ok (.iload 5, 2) := by decide +kernel
theorem dX0_having_36 : decode cX0_having 36 = .ok (.invokevirtual 65, 3) := by decide +kernel
theorem dX0_having_39 : decode cX0_having 39 = .ok (.lor, 1) := by decide +kernel
theorem dX0_having_40 : decode cX0_having 40 = .ok (.lstore_n 3, 1) := by decide +kernel
theorem dX0_having_41 : decode cX0_having 41 = .ok (.iinc 5 1, 3) := by decide +kernel
theorem dX0_having_44 : decode cX0_having 44 = .ok (.goto (-39), 3) := by decide +kernel
theorem dX0_having_47 : decode cX0_having 47 = .ok (.lload_n 3, 1) := by decide +kernel
theorem dX0_having_48 : decode cX0_having 48 = .ok (.lreturn, 1) := by decide +kernel
theorem dX1_init_0 : decode cX1_init 0 = .ok (.aload_n 0, 1) := by decide +kernel
theorem dX1_init_1 : decode cX1_init 1 = .ok (.invokespecial 3, 3) := by decide +kernel
theorem dX1_init_4 : decode cX1_init 4 = .ok (.aload_n 0, 1) := by decide +kernel
theorem dX1_init_5 : decode cX1_init 5 = .ok (.sipush 350, 3) := by decide +kernel
theorem dX1_init_8 : decode cX1_init 8 = .ok (.newarray .long, 2) := by decide +kernel
theorem dX1_init_10 : decode cX1_init 10 = .ok (.putfield 9, 3) := by decide +kernel
theorem dX1_init_13 : decode cX1_init 13 = .ok (.aload_n 0, 1) := by decide +kernel
theorem dX1_init_14 : decode cX1_init 14 = .ok (.sipush 350, 3) := by decide +kernel
theorem dX1_init_17 : decode cX1_init 17 = .ok (.newarray .long, 2) := by decide +kernel
theorem dX1_init_19 : decode cX1_init 19 = .ok (.putfield 15, 3) := by decide +kernel
theorem dX1_init_22 : decode cX1_init 22 = .ok (.aload_n 0, 1) := by decide +kernel
theorem dX1_init_23 : decode cX1_init 23 = .ok (.iconst 0, 1) := by decide +kernel
theorem dX1_init_24 : decode cX1_init 24 = .ok (.putfield 18, 3) := by decide +kernel
theorem dX1_init_27 : decode cX1_init 27 = .ok (.return_, 1) := by decide +kernel
theorem dX1_find_0 : decode cX1_find 0 = .ok (.iconst 0, 1) := by decide +kernel
theorem dX1_find_1 : decode cX1_find 1 = .ok (.istore_n 3, 1) := by decide +kernel
theorem dX1_find_2 : decode cX1_find 2 = .ok (.iload_n 3, 1) := by decide +kernel
theorem dX1_find_3 : decode cX1_find 3 = .ok (.aload_n 0, 1) := by decide +kernel
theorem dX1_find_4 : decode cX1_find 4 = .ok (.getfield 18, 3) := by decide +kernel
theorem dX1_find_7 : decode cX1_find 7 = .ok (.if_icmp .ge 22, 3) := by decide +kernel
theorem dX1_find_10 : decode cX1_find 10 = .ok (.aload_n 0, 1) := by decide +kernel
theorem dX1_find_11 : decode cX1_find 11 = .ok (.getfield 9, 3) := by decide +kernel
theorem dX1_find_14 : decode cX1_find 14 = .ok (.iload_n 3, 1) := by decide +kernel
theorem dX1_find_15 : decode cX1_find 15 = .ok (.laload, 1) := by decide +kernel
theorem dX1_find_16 : decode cX1_find 16 = .ok (.lload_n 1, 1) := by decide +kernel
theorem dX1_find_17 : decode cX1_find 17 = .ok (.lcmp, 1) := by decide +kernel
theorem dX1_find_18 : decode cX1_find 18 = .ok (.ifCond .ne 5, 3) := by decide +kernel
theorem dX1_find_21 : decode cX1_find 21 = .ok (.iload_n 3, 1) := by decide +kernel
theorem dX1_find_22 : decode cX1_find 22 = .ok (.ireturn, 1) := by decide +kernel
theorem dX1_find_23 : decode cX1_find 23 = .ok (.iinc 3 1, 3) := by decide +kernel
theorem dX1_find_26 : decode cX1_find 26 = .ok (.goto (-24), 3) := by decide +kernel
theorem dX1_find_29 : decode cX1_find 29 = .ok (.iconst (-1), 1) := by decide +kernel
theorem dX1_find_30 : decode cX1_find 30 = .ok (.ireturn, 1) := by decide +kernel
theorem dX1_tell_0 : decode cX1_tell 0 = .ok (.aload_n 0, 1) := by decide +kernel
theorem dX1_tell_1 : decode cX1_tell 1 = .ok (.lload_n 1, 1) := by decide +kernel
theorem dX1_tell_2 : decode cX1_tell 2 = .ok (.invokevirtual 22, 3) := by decide +kernel
theorem dX1_tell_5 : decode cX1_tell 5 = .ok (.iconst (-1), 1) := by decide +kernel
theorem dX1_tell_6 : decode cX1_tell 6 = .ok (.if_icmp .ne 13, 3) := by decide +kernel
theorem dX1_tell_9 : decode cX1_tell 9 = .ok (.aload_n 0, 1) := by decide +kernel
theorem dX1_tell_10 : decode cX1_tell 10 = .ok (.getfield 18, 3) := by decide +kernel
theorem dX1_tell_13 : decode cX1_tell 13 = .ok (.sipush 350, 3) := by decide +kernel
theorem dX1_tell_16 : decode cX1_tell 16 = .ok (.if_icmp .lt 5, 3) := by decide +kernel
theorem dX1_tell_19 : decode cX1_tell 19 = .ok (.iconst 0, 1) := by decide +kernel
theorem dX1_tell_20 : decode cX1_tell 20 = .ok (.ireturn, 1) := by decide +kernel
theorem dX1_tell_21 : decode cX1_tell 21 = .ok (.aload_n 0, 1) := by decide +kernel
theorem dX1_tell_22 : decode cX1_tell 22 = .ok (.getfield 9, 3) := by decide +kernel
theorem dX1_tell_25 : decode cX1_tell 25 = .ok (.aload_n 0, 1) := by decide +kernel
theorem dX1_tell_26 : decode cX1_tell 26 = .ok (.getfield 18, 3) := by decide +kernel
theorem dX1_tell_29 : decode cX1_tell 29 = .ok (.lload_n 1, 1) := by decide +kernel
theorem dX1_tell_30 : decode cX1_tell 30 = .ok (.lastore, 1) := by decide +kernel
theorem dX1_tell_31 : decode cX1_tell 31 = .ok (.aload_n 0, 1) := by decide +kernel
theorem dX1_tell_32 : decode cX1_tell 32 = .ok (.getfield 15, 3) := by decide +kernel
theorem dX1_tell_35 : decode cX1_tell 35 = .ok (.aload_n 0, 1) := by decide +kernel
theorem dX1_tell_36 : decode cX1_tell 36 = .ok (.getfield 18, 3) := by decide +kernel
theorem dX1_tell_39 : decode cX1_tell 39 = .ok (.lload_n 3, 1) := by decide +kernel
theorem dX1_tell_40 : decode cX1_tell 40 = .ok (.lastore, 1) := by decide +kernel
theorem dX1_tell_41 : decode cX1_tell 41 = .ok (.aload_n 0, 1) := by decide +kernel
theorem dX1_tell_42 : decode cX1_tell 42 = .ok (.dup, 1) := by decide +kernel
theorem dX1_tell_43 : decode cX1_tell 43 = .ok (.getfield 18, 3) := by decide +kernel
theorem dX1_tell_46 : decode cX1_tell 46 = .ok (.iconst 1, 1) := by decide +kernel
theorem dX1_tell_47 : decode cX1_tell 47 = .ok (.iadd, 1) := by decide +kernel
theorem dX1_tell_48 : decode cX1_tell 48 = .ok (.putfield 18, 3) := by decide +kernel
theorem dX1_tell_51 : decode cX1_tell 51 = .ok (.iconst 1, 1) := by decide +kernel
theorem dX1_tell_52 : decode cX1_tell 52 = .ok (.ireturn, 1) := by decide +kernel
theorem dX1_become_0 : decode cX1_become 0 = .ok (.aload_n 0, 1) := by decide +kernel
theorem dX1_become_1 : decode cX1_become 1 = .ok (.aload_n 1, 1) := by decide +kernel
theorem dX1_become_2 : decode cX1_become 2 = .ok (.getfield 18, 3) := by decide +kernel
theorem dX1_become_5 : decode cX1_become 5 = .ok (.putfield 18, 3) := by decide +kernel
theorem dX1_become_8 : decode cX1_become 8 = .ok (.aload_n 1, 1) := by decide +kernel
theorem dX1_become_9 : decode cX1_become 9 = .ok (.getfield 9, 3) := by decide +kernel
theorem dX1_become_12 : decode cX1_become 12 = .ok (.iconst 0, 1) := by decide +kernel
theorem dX1_become_13 : decode cX1_become 13 = .ok (.aload_n 0, 1) := by decide +kernel
theorem dX1_become_14 : decode cX1_become 14 = .ok (.getfield 9, 3) := by decide +kernel
theorem dX1_become_17 : decode cX1_become 17 = .ok (.iconst 0, 1) := by decide +kernel
theorem dX1_become_18 : decode cX1_become 18 = .ok (.aload_n 0, 1) := by decide +kernel
theorem dX1_become_19 : decode cX1_become 19 = .ok (.getfield 18, 3) := by decide +kernel
theorem dX1_become_22 : decode cX1_become 22 = .ok (.invokestatic 26, 3) := by decide +kernel
theorem dX1_become_25 : decode cX1_become 25 = .ok (.aload_n 1, 1) := by decide +kernel
theorem dX1_become_26 : decode cX1_become 26 = .ok (.getfield 15, 3) := by decide +kernel
theorem dX1_become_29 : decode cX1_become 29 = .ok (.iconst 0, 1) := by decide +kernel
theorem dX1_become_30 : decode cX1_become 30 = .ok (.aload_n 0, 1) := by decide +kernel
theorem dX1_become_31 : decode cX1_become 31 = .ok (.getfield 15, 3) := by decide +kernel
theorem dX1_become_34 : decode cX1_become 34 = .ok (.iconst 0, 1) := by decide +kernel
theorem dX1_become_35 : decode cX1_become 35 = .ok (.aload_n 0, 1) := by decide +kernel
theorem dX1_become_36 : decode cX1_become 36 = .ok (.getfield 18, 3) := by decide +kernel
theorem dX1_become_39 : decode cX1_become 39 = .ok (.invokestatic 26, 3) := by decide +kernel
theorem dX1_become_42 : decode cX1_become 42 = .ok (.return_, 1) := by decide +kernel
theorem dX2_named_0 : decode cX2_named 0 = .ok (.iconst 0, 1) := by decide +kernel
theorem dX2_named_1 : decode cX2_named 1 = .ok (.istore_n 2, 1) := by decide +kernel
theorem dX2_named_2 : decode cX2_named 2 = .ok (.iload_n 2, 1) := by decide +kernel
theorem dX2_named_3 : decode cX2_named 3 = .ok (.getstatic 212, 3) := by decide +kernel
theorem dX2_named_6 : decode cX2_named 6 = .ok (.arraylength, 1) := by decide +kernel
theorem dX2_named_7 : decode cX2_named 7 = .ok (.if_icmp .ge 28, 3) := by decide +kernel
theorem dX2_named_10 : decode cX2_named 10 = .ok (.getstatic 212, 3) := by decide +kernel
theorem dX2_named_13 : decode cX2_named 13 = .ok (.iload_n 2, 1) := by decide +kernel
theorem dX2_named_14 : decode cX2_named 14 = .ok (.aaload, 1) := by decide +kernel
theorem dX2_named_15 : decode cX2_named 15 = .ok (.getfield 199, 3) := by decide +kernel
theorem dX2_named_18 : decode cX2_named 18 = .ok (.lload_n 0, 1) := by decide +kernel
theorem dX2_named_19 : decode cX2_named 19 = .ok (.lcmp, 1) := by decide +kernel
theorem dX2_named_20 : decode cX2_named 20 = .ok (.ifCond .ne 9, 3) := by decide +kernel
theorem dX2_named_23 : decode cX2_named 23 = .ok (.getstatic 212, 3) := by decide +kernel
theorem dX2_named_26 : decode cX2_named 26 = .ok (.iload_n 2, 1) := by decide +kernel
theorem dX2_named_27 : decode cX2_named 27 = .ok (.aaload, 1) := by decide +kernel
theorem dX2_named_28 : decode cX2_named 28 = .ok (.areturn, 1) := by decide +kernel
theorem dX2_named_29 : decode cX2_named 29 = .ok (.iinc 2 1, 3) := by decide +kernel
theorem dX2_named_32 : decode cX2_named 32 = .ok (.goto (-30), 3) := by decide +kernel
theorem dX2_named_35 : decode cX2_named 35 = .ok (.aconst_null, 1) := by decide +kernel
theorem dX2_named_36 : decode cX2_named 36 = .ok (.areturn, 1) := by decide +kernel
theorem dX2_of_0 : decode cX2_of 0 = .ok (.iconst 0, 1) := by decide +kernel
theorem dX2_of_1 : decode cX2_of 1 = .ok (.istore_n 2, 1) := by decide +kernel
theorem dX2_of_2 : decode cX2_of 2 = .ok (.iload_n 2, 1) := by decide +kernel
theorem dX2_of_3 : decode cX2_of 3 = .ok (.getstatic 212, 3) := by decide +kernel
theorem dX2_of_6 : decode cX2_of 6 = .ok (.arraylength, 1) := by decide +kernel
theorem dX2_of_7 : decode cX2_of 7 = .ok (.if_icmp .ge 39, 3) := by decide +kernel
theorem dX2_of_10 : decode cX2_of 10 = .ok (.getstatic 212, 3) := by decide +kernel
theorem dX2_of_13 : decode cX2_of 13 = .ok (.iload_n 2, 1) := by decide +kernel
theorem dX2_of_14 : decode cX2_of 14 = .ok (.aaload, 1) := by decide +kernel
theorem dX2_of_15 : decode cX2_of 15 = .ok (.lload_n 0, 1) := by decide +kernel
theorem dX2_of_16 : decode cX2_of 16 = .ok (.invokevirtual 215, 3) := by decide +kernel
theorem dX2_of_19 : decode cX2_of 19 = .ok (.ifCond .eq 21, 3) := by decide +kernel
theorem dX2_of_22 : decode cX2_of 22 = .ok (.getstatic 212, 3) := by decide +kernel
theorem dX2_of_25 : decode cX2_of 25 = .ok (.iload_n 2, 1) := by decide +kernel
theorem dX2_of_26 : decode cX2_of 26 = .ok (.aaload, 1) := by decide +kernel
theorem dX2_of_27 : decode cX2_of 27 = .ok (.lload_n 0, 1) := by decide +kernel
theorem dX2_of_28 : decode cX2_of 28 = .ok (.invokevirtual 219, 3) := by decide +kernel
theorem dX2_of_31 : decode cX2_of 31 = .ok (.ifCond .eq 9, 3) := by decide +kernel
theorem dX2_of_34 : decode cX2_of 34 = .ok (.getstatic 212, 3) := by decide +kernel
theorem dX2_of_37 : decode cX2_of 37 = .ok (.iload_n 2, 1) := by decide +kernel
theorem dX2_of_38 : decode cX2_of 38 = .ok (.aaload, 1) := by decide +kernel
theorem dX2_of_39 : decode cX2_of 39 = .ok (.areturn, 1) := by decide +kernel
theorem dX2_of_40 : decode cX2_of 40 = .ok (.iinc 2 1, 3) := by decide +kernel
theorem dX2_of_43 : decode cX2_of 43 = .ok (.goto (-41), 3) := by decide +kernel
theorem dX2_of_46 : decode cX2_of 46 = .ok (.aconst_null, 1) := by decide +kernel
theorem dX2_of_47 : decode cX2_of 47 = .ok (.areturn, 1) := by decide +kernel
theorem dX2_guardOf_0 : decode cX2_guardOf 0 = .ok (.lload_n 0, 1) := by decide +kernel
theorem dX2_guardOf_1 : decode cX2_guardOf 1 = .ok (.bipush 20, 2) := by decide +kernel
theorem dX2_guardOf_3 : decode cX2_guardOf 3 = .ok (.lshr, 1) := by decide +kernel
theorem dX2_guardOf_4 : decode cX2_guardOf 4 = .ok (.ldc2_w 222, 3) := by decide +kernel
theorem dX2_guardOf_7 : decode cX2_guardOf 7 = .ok (.land, 1) := by decide +kernel
theorem dX2_guardOf_8 : decode cX2_guardOf 8 = .ok (.l2i, 1) := by decide +kernel
theorem dX2_guardOf_9 : decode cX2_guardOf 9 = .ok (.ireturn, 1) := by decide +kernel
theorem dX2_isGuarded_0 : decode cX2_isGuarded 0 = .ok (.lload_n 0, 1) := by decide +kernel
theorem dX2_isGuarded_1 : decode cX2_isGuarded 1 = .ok (.bipush 20, 2) := by decide +kernel
theorem dX2_isGuarded_3 : decode cX2_isGuarded 3 = .ok (.lshr, 1) := by decide +kernel
theorem dX2_isGuarded_4 : decode cX2_isGuarded 4 = .ok (.ldc2_w 222, 3) := by decide +kernel
theorem dX2_isGuarded_7 : decode cX2_isGuarded 7 = .ok (.land, 1) := by decide +kernel
theorem dX2_isGuarded_8 : decode cX2_isGuarded 8 = .ok (.lconst 0, 1) := by decide +kernel
theorem dX2_isGuarded_9 : decode cX2_isGuarded 9 = .ok (.lcmp, 1) := by decide +kernel
theorem dX2_isGuarded_10 : decode cX2_isGuarded 10 = .ok (.ifCond .eq 7, 3) := by decide +kernel
theorem dX2_isGuarded_13 : decode cX2_isGuarded 13 = .ok (.iconst 1, 1) := by decide +kernel
theorem dX2_isGuarded_14 : decode cX2_isGuarded 14 = .ok (.goto 4, 3) := by decide +kernel
theorem dX2_isGuarded_17 : decode cX2_isGuarded 17 = .ok (.iconst 0, 1) := by decide +kernel
theorem dX2_isGuarded_18 : decode cX2_isGuarded 18 = .ok (.ireturn, 1) := by decide +kernel
theorem dX2_shiftOf_0 : decode cX2_shiftOf 0 = .ok (.iload_n 0, 1) := by decide +kernel
theorem dX2_shiftOf_1 : decode cX2_shiftOf 1 = .ok (.bipush 100, 2) := by decide +kernel
theorem dX2_shiftOf_3 : decode cX2_shiftOf 3 = .ok (.if_icmp .eq 9, 3) := by decide +kernel
theorem dX2_shiftOf_6 : decode cX2_shiftOf 6 = .ok (.iload_n 0, 1) := by decide +kernel
theorem dX2_shiftOf_7 : decode cX2_shiftOf 7 = .ok (.bipush 68, 2) := by decide +kernel
theorem dX2_shiftOf_9 : decode cX2_shiftOf 9 = .ok (.if_icmp .ne 6, 3) := by decide +kernel
theorem dX2_shiftOf_12 : decode cX2_shiftOf 12 = .ok (.bipush 8, 2) := by decide +kernel
theorem dX2_shiftOf_14 : decode cX2_shiftOf 14 = .ok (.ireturn, 1) := by decide +kernel
theorem dX2_shiftOf_15 : decode cX2_shiftOf 15 = .ok (.iload_n 0, 1) := by decide +kernel
theorem dX2_shiftOf_16 : decode cX2_shiftOf 16 = .ok (.bipush 97, 2) := by decide +kernel
theorem dX2_shiftOf_18 : decode cX2_shiftOf 18 = .ok (.if_icmp .eq 9, 3) := by decide +kernel
theorem dX2_shiftOf_21 : decode cX2_shiftOf 21 = .ok (.iload_n 0, 1) := by decide +kernel
theorem dX2_shiftOf_22 : decode cX2_shiftOf 22 = .ok (.bipush 65, 2) := by decide +kernel
theorem dX2_shiftOf_24 : decode cX2_shiftOf 24 = .ok (.if_icmp .ne 6, 3) := by decide +kernel
theorem dX2_shiftOf_27 : decode cX2_shiftOf 27 = .ok (.bipush 12, 2) := by decide +kernel
theorem dX2_shiftOf_29 : decode cX2_shiftOf 29 = .ok (.ireturn, 1) := by decide +kernel
theorem dX2_shiftOf_30 : decode cX2_shiftOf 30 = .ok (.iload_n 0, 1) := by decide +kernel
theorem dX2_shiftOf_31 : decode cX2_shiftOf 31 = .ok (.bipush 98, 2) := by decide +kernel
theorem dX2_shiftOf_33 : decode cX2_shiftOf 33 = .ok (.if_icmp .eq 9, 3) := by decide +kernel
theorem dX2_shiftOf_36 : decode cX2_shiftOf 36 = .ok (.iload_n 0, 1) := by decide +kernel
theorem dX2_shiftOf_37 : decode cX2_shiftOf 37 = .ok (.bipush 66, 2) := by decide +kernel
theorem dX2_shiftOf_39 : decode cX2_shiftOf 39 = .ok (.if_icmp .ne 6, 3) := by decide +kernel
theorem dX2_shiftOf_42 : decode cX2_shiftOf 42 = .ok (.bipush 16, 2) := by decide +kernel
theorem dX2_shiftOf_44 : decode cX2_shiftOf 44 = .ok (.ireturn, 1) := by decide +kernel
theorem dX2_shiftOf_45 : decode cX2_shiftOf 45 = .ok (.iload_n 0, 1) := by decide +kernel
theorem dX2_shiftOf_46 : decode cX2_shiftOf 46 = .ok (.bipush 113, 2) := by decide +kernel
theorem dX2_shiftOf_48 : decode cX2_shiftOf 48 = .ok (.if_icmp .eq 15, 3) := by decide +kernel
theorem dX2_shiftOf_51 : decode cX2_shiftOf 51 = .ok (.iload_n 0, 1) := by decide +kernel
theorem dX2_shiftOf_52 : decode cX2_shiftOf 52 = .ok (.bipush 110, 2) := by decide +kernel
theorem dX2_shiftOf_54 : decode cX2_shiftOf 54 = .ok (.if_icmp .eq 9, 3) := by decide +kernel
theorem dX2_shiftOf_57 : decode cX2_shiftOf 57 = .ok (.iload_n 0, 1) := by decide +kernel
theorem dX2_shiftOf_58 : decode cX2_shiftOf 58 = .ok (.bipush 116, 2) := by decide +kernel
theorem dX2_shiftOf_60 : decode cX2_shiftOf 60 = .ok (.if_icmp .ne 8, 3) := by decide +kernel
theorem dX2_shiftOf_63 : decode cX2_shiftOf 63 = .ok (.bipush 32, 2) := by decide +kernel
theorem dX2_shiftOf_65 : decode cX2_shiftOf 65 = .ok (.goto 4, 3) := by decide +kernel
theorem dX2_shiftOf_68 : decode cX2_shiftOf 68 = .ok (.iconst (-1), 1) := by decide +kernel
theorem dX2_shiftOf_69 : decode cX2_shiftOf 69 = .ok (.ireturn, 1) := by decide +kernel
theorem dX2_isRegister_0 : decode cX2_isRegister 0 = .ok (.iload_n 0, 1) := by decide +kernel
theorem dX2_isRegister_1 : decode cX2_isRegister 1 = .ok (.bipush 100, 2) := by decide +kernel
theorem dX2_isRegister_3 : decode cX2_isRegister 3 = .ok (.if_icmp .eq 15, 3) := by decide +kernel
theorem dX2_isRegister_6 : decode cX2_isRegister 6 = .ok (.iload_n 0, 1) := by decide +kernel
theorem dX2_isRegister_7 : decode cX2_isRegister 7 = .ok (.bipush 97, 2) := by decide +kernel
theorem dX2_isRegister_9 : decode cX2_isRegister 9 = .ok (.if_icmp .eq 9, 3) := by decide +kernel
theorem dX2_isRegister_12 : decode cX2_isRegister 12 = .ok (.iload_n 0, 1) := by decide +kernel
theorem dX2_isRegister_13 : decode cX2_isRegister 13 = .ok (.bipush 98, 2) := by decide +kernel
theorem dX2_isRegister_15 : decode cX2_isRegister 15 = .ok (.if_icmp .ne 7, 3) := by decide +kernel
theorem dX2_isRegister_18 : decode cX2_isRegister 18 = .ok (.iconst 1, 1) := by decide +kernel
theorem dX2_isRegister_19 : decode cX2_isRegister 19 = .ok (.goto 4, 3) := by decide +kernel
theorem dX2_isRegister_22 : decode cX2_isRegister 22 = .ok (.iconst 0, 1) := by decide +kernel
theorem dX2_isRegister_23 : decode cX2_isRegister 23 = .ok (.ireturn, 1) := by decide +kernel
theorem dX2_isPredicate_0 : decode cX2_isPredicate 0 = .ok (.iload_n 0, 1) := by decide +kernel
theorem dX2_isPredicate_1 : decode cX2_isPredicate 1 = .ok (.bipush 68, 2) := by decide +kernel
theorem dX2_isPredicate_3 : decode cX2_isPredicate 3 = .ok (.if_icmp .eq 21, 3) := by decide +kernel
theorem dX2_isPredicate_6 : decode cX2_isPredicate 6 = .ok (.iload_n 0, 1) := by decide +kernel
theorem dX2_isPredicate_7 : decode cX2_isPredicate 7 = .ok (.bipush 65, 2) := by decide +kernel
theorem dX2_isPredicate_9 : decode cX2_isPredicate 9 = .ok (.if_icmp .eq 15, 3) := by decide +kernel
theorem dX2_isPredicate_12 : decode cX2_isPredicate 12 = .ok (.iload_n 0, 1) := by decide +kernel
theorem dX2_isPredicate_13 : decode cX2_isPredicate 13 = .ok (.bipush 66, 2) := by decide +kernel
theorem dX2_isPredicate_15 : decode cX2_isPredicate 15 = .ok (.if_icmp .eq 9, 3) := by decide +kernel
theorem dX2_isPredicate_18 : decode cX2_isPredicate 18 = .ok (.iload_n 0, 1) := by decide +kernel
theorem dX2_isPredicate_19 : decode cX2_isPredicate 19 = .ok (.bipush 113, 2) := by decide +kernel
theorem dX2_isPredicate_21 : decode cX2_isPredicate 21 = .ok (.if_icmp .ne 7, 3) := by decide +kernel
theorem dX2_isPredicate_24 : decode cX2_isPredicate 24 = .ok (.iconst 1, 1) := by decide +kernel
theorem dX2_isPredicate_25 : decode cX2_isPredicate 25 = .ok (.goto 4, 3) := by decide +kernel
theorem dX2_isPredicate_28 : decode cX2_isPredicate 28 = .ok (.iconst 0, 1) := by decide +kernel
theorem dX2_isPredicate_29 : decode cX2_isPredicate 29 = .ok (.ireturn, 1) := by decide +kernel
theorem dX2_leastOf_0 : decode cX2_leastOf 0 = .ok (.iload_n 0, 1) := by decide +kernel
theorem dX2_leastOf_1 : decode cX2_leastOf 1 = .ok (.bipush 110, 2) := by decide +kernel
theorem dX2_leastOf_3 : decode cX2_leastOf 3 = .ok (.if_icmp .ne 8, 3) := by decide +kernel
theorem dX2_leastOf_6 : decode cX2_leastOf 6 = .ok (.ldc 226, 2) := by decide +kernel
theorem dX2_leastOf_8 : decode cX2_leastOf 8 = .ok (.goto 4, 3) := by decide +kernel
theorem dX2_leastOf_11 : decode cX2_leastOf 11 = .ok (.iconst 0, 1) := by decide +kernel
theorem dX2_leastOf_12 : decode cX2_leastOf 12 = .ok (.ireturn, 1) := by decide +kernel
theorem dX2_mostOf_0 : decode cX2_mostOf 0 = .ok (.iload_n 0, 1) := by decide +kernel
theorem dX2_mostOf_1 : decode cX2_mostOf 1 = .ok (.invokestatic 227, 3) := by decide +kernel
theorem dX2_mostOf_4 : decode cX2_mostOf 4 = .ok (.ifCond .eq 6, 3) := by decide +kernel
theorem dX2_mostOf_7 : decode cX2_mostOf 7 = .ok (.bipush 15, 2) := by decide +kernel
theorem dX2_mostOf_9 : decode cX2_mostOf 9 = .ok (.ireturn, 1) := by decide +kernel
theorem dX2_mostOf_10 : decode cX2_mostOf 10 = .ok (.iload_n 0, 1) := by decide +kernel
theorem dX2_mostOf_11 : decode cX2_mostOf 11 = .ok (.invokestatic 231, 3) := by decide +kernel
theorem dX2_mostOf_14 : decode cX2_mostOf 14 = .ok (.ifCond .eq 5, 3) := by decide +kernel
theorem dX2_mostOf_17 : decode cX2_mostOf 17 = .ok (.iconst 3, 1) := by decide +kernel
theorem dX2_mostOf_18 : decode cX2_mostOf 18 = .ok (.ireturn, 1) := by decide +kernel
theorem dX2_mostOf_19 : decode cX2_mostOf 19 = .ok (.iload_n 0, 1) := by decide +kernel
theorem dX2_mostOf_20 : decode cX2_mostOf 20 = .ok (.bipush 116, 2) := by decide +kernel
theorem dX2_mostOf_22 : decode cX2_mostOf 22 = .ok (.if_icmp .ne 8, 3) := by decide +kernel
theorem dX2_mostOf_25 : decode cX2_mostOf 25 = .ok (.bipush 63, 2) := by decide +kernel
theorem dX2_mostOf_27 : decode cX2_mostOf 27 = .ok (.goto 5, 3) := by decide +kernel
theorem dX2_mostOf_30 : decode cX2_mostOf 30 = .ok (.ldc 234, 2) := by decide +kernel
theorem dX2_mostOf_32 : decode cX2_mostOf 32 = .ok (.ireturn, 1) := by decide +kernel
theorem dX2_fieldOf_0 : decode cX2_fieldOf 0 = .ok (.iload_n 0, 1) := by decide +kernel
theorem dX2_fieldOf_1 : decode cX2_fieldOf 1 = .ok (.invokestatic 235, 3) := by decide +kernel
theorem dX2_fieldOf_4 : decode cX2_fieldOf 4 = .ok (.istore_n 3, 1) := by decide +kernel
theorem dX2_fieldOf_5 : decode cX2_fieldOf 5 = .ok (.iload_n 3, 1) := by decide +kernel
theorem dX2_fieldOf_6 : decode cX2_fieldOf 6 = .ok (.bipush 32, 2) := by decide +kernel
theorem dX2_fieldOf_8 : decode cX2_fieldOf 8 = .ok (.if_icmp .ne 9, 3) := by decide +kernel
theorem dX2_fieldOf_11 : decode cX2_fieldOf 11 = .ok (.lload_n 1, 1) := by decide +kernel
theorem dX2_fieldOf_12 : decode cX2_fieldOf 12 = .ok (.bipush 32, 2) := by decide +kernel
theorem dX2_fieldOf_14 : decode cX2_fieldOf 14 = .ok (.lshr, 1) := by decide +kernel
theorem dX2_fieldOf_15 : decode cX2_fieldOf 15 = .ok (.l2i, 1) := by decide +kernel
theorem dX2_fieldOf_16 : decode cX2_fieldOf 16 = .ok (.ireturn, 1) := by decide +kernel
theorem dX2_fieldOf_17 : decode cX2_fieldOf 17 = .ok (.iload_n 3, 1) := by decide +kernel
theorem dX2_fieldOf_18 : decode cX2_fieldOf 18 = .ok (.iconst (-1), 1) := by decide +kernel
theorem dX2_fieldOf_19 : decode cX2_fieldOf 19 = .ok (.if_icmp .ne 7, 3) := by decide +kernel
theorem dX2_fieldOf_22 : decode cX2_fieldOf 22 = .ok (.iconst 0, 1) := by decide +kernel
theorem dX2_fieldOf_23 : decode cX2_fieldOf 23 = .ok (.goto 11, 3) := by decide +kernel
theorem dX2_fieldOf_26 : decode cX2_fieldOf 26 = .ok (.lload_n 1, 1) := by decide +kernel
theorem dX2_fieldOf_27 : decode cX2_fieldOf 27 = .ok (.iload_n 3, 1) := by decide +kernel
theorem dX2_fieldOf_28 : decode cX2_fieldOf 28 = .ok (.lshr, 1) := by decide +kernel
theorem dX2_fieldOf_29 : decode cX2_fieldOf 29 = .ok (.ldc2_w 222, 3) := by decide +kernel
theorem dX2_fieldOf_32 : decode cX2_fieldOf 32 = .ok (.land, 1) := by decide +kernel
theorem dX2_fieldOf_33 : decode cX2_fieldOf 33 = .ok (.l2i, 1) := by decide +kernel
theorem dX2_fieldOf_34 : decode cX2_fieldOf 34 = .ok (.ireturn, 1) := by decide +kernel
theorem dX2_bitOf_0 : decode cX2_bitOf 0 = .ok (.iconst 1, 1) := by decide +kernel
theorem dX2_bitOf_1 : decode cX2_bitOf 1 = .ok (.iload_n 0, 1) := by decide +kernel
theorem dX2_bitOf_2 : decode cX2_bitOf 2 = .ok (.invokestatic 231, 3) := by decide +kernel
theorem dX2_bitOf_5 : decode cX2_bitOf 5 = .ok (.ifCond .eq 8, 3) := by decide +kernel
theorem dX2_bitOf_8 : decode cX2_bitOf 8 = .ok (.bipush 16, 2) := by decide +kernel
theorem dX2_bitOf_10 : decode cX2_bitOf 10 = .ok (.goto 4, 3) := by decide +kernel
theorem dX2_bitOf_13 : decode cX2_bitOf 13 = .ok (.iconst 0, 1) := by decide +kernel
theorem dX2_bitOf_14 : decode cX2_bitOf 14 = .ok (.iload_n 0, 1) := by decide +kernel
theorem dX2_bitOf_15 : decode cX2_bitOf 15 = .ok (.lload_n 1, 1) := by decide +kernel
theorem dX2_bitOf_16 : decode cX2_bitOf 16 = .ok (.invokestatic 239, 3) := by decide +kernel
theorem dX2_bitOf_19 : decode cX2_bitOf 19 = .ok (.iadd, 1) := by decide +kernel
theorem dX2_bitOf_20 : decode cX2_bitOf 20 = .ok (.ishl, 1) := by decide +kernel
theorem dX2_bitOf_21 : decode cX2_bitOf 21 = .ok (.ireturn, 1) := by decide +kernel
theorem dX2_hasCodeOf_0 : decode cX2_hasCodeOf 0 = .ok (.aload_n 0, 1) := by decide +kernel
theorem dX2_hasCodeOf_1 : decode cX2_hasCodeOf 1 = .ok (.getfield 191, 3) := by decide +kernel
theorem dX2_hasCodeOf_4 : decode cX2_hasCodeOf 4 = .ok (.ldc2_w 243, 3) := by decide +kernel
theorem dX2_hasCodeOf_7 : decode cX2_hasCodeOf 7 = .ok (.land, 1) := by decide +kernel
theorem dX2_hasCodeOf_8 : decode cX2_hasCodeOf 8 = .ok (.lload_n 1, 1) := by decide +kernel
theorem dX2_hasCodeOf_9 : decode cX2_hasCodeOf 9 = .ok (.ldc2_w 243, 3) := by decide +kernel
theorem dX2_hasCodeOf_12 : decode cX2_hasCodeOf 12 = .ok (.land, 1) := by decide +kernel
theorem dX2_hasCodeOf_13 : decode cX2_hasCodeOf 13 = .ok (.lcmp, 1) := by decide +kernel
theorem dX2_hasCodeOf_14 : decode cX2_hasCodeOf 14 = .ok (.ifCond .ne 7, 3) := by decide +kernel
theorem dX2_hasCodeOf_17 : decode cX2_hasCodeOf 17 = .ok (.iconst 1, 1) := by decide +kernel
theorem dX2_hasCodeOf_18 : decode cX2_hasCodeOf 18 = .ok (.goto 4, 3) := by decide +kernel
theorem dX2_hasCodeOf_21 : decode cX2_hasCodeOf 21 = .ok (.iconst 0, 1) := by decide +kernel
theorem dX2_hasCodeOf_22 : decode cX2_hasCodeOf 22 = .ok (.ireturn, 1) := by decide +kernel
theorem dX2_makes_0 : decode cX2_makes 0 = .ok (.lload_n 1, 1) := by decide +kernel
theorem dX2_makes_1 : decode cX2_makes 1 = .ok (.invokestatic 245, 3) := by decide +kernel
theorem dX2_makes_4 : decode cX2_makes 4 = .ok (.istore_n 3, 1) := by decide +kernel
theorem dX2_makes_5 : decode cX2_makes 5 = .ok (.iload_n 3, 1) := by decide +kernel
theorem dX2_makes_6 : decode cX2_makes 6 = .ok (.ifCond .le 11, 3) := by decide +kernel
theorem dX2_makes_9 : decode cX2_makes 9 = .ok (.iload_n 3, 1) := by decide +kernel
theorem dX2_makes_10 : decode cX2_makes 10 = .ok (.bipush 8, 2) := by decide +kernel
theorem dX2_makes_12 : decode cX2_makes 12 = .ok (.if_icmp .ge 5, 3) := by decide +kernel
theorem dX2_makes_15 : decode cX2_makes 15 = .ok (.iconst 0, 1) := by decide +kernel
theorem dX2_makes_16 : decode cX2_makes 16 = .ok (.ireturn, 1) := by decide +kernel
theorem dX2_makes_17 : decode cX2_makes 17 = .ok (.lload_n 1, 1) := by decide +kernel
theorem dX2_makes_18 : decode cX2_makes 18 = .ok (.aload_n 0, 1) := by decide +kernel
theorem dX2_makes_19 : decode cX2_makes 19 = .ok (.getfield 191, 3) := by decide +kernel
theorem dX2_makes_22 : decode cX2_makes 22 = .ok (.lxor, 1) := by decide +kernel
theorem dX2_makes_23 : decode cX2_makes 23 = .ok (.ldc2_w 249, 3) := by decide +kernel
theorem dX2_makes_26 : decode cX2_makes 26 = .ok (.land, 1) := by decide +kernel
theorem dX2_makes_27 : decode cX2_makes 27 = .ok (.lstore 4, 2) := by decide +kernel
theorem dX2_makes_29 : decode cX2_makes 29 = .ok (.iconst 0, 1) := by decide +kernel
theorem dX2_makes_30 : decode cX2_makes 30 = .ok (.istore 6, 2) := by decide +kernel
theorem dX2_makes_32 : decode cX2_makes 32 = .ok (.iload 6, 2) := by decide +kernel
theorem dX2_makes_34 : decode cX2_makes 34 = .ok (.aload_n 0, 1) := by decide +kernel
theorem dX2_makes_35 : decode cX2_makes 35 = .ok (.getfield 188, 3) := by decide +kernel
theorem dX2_makes_38 : decode cX2_makes 38 = .ok (.invokevirtual 202, 3) := by decide +kernel
theorem dX2_makes_41 : decode cX2_makes 41 = .ok (.if_icmp .ge 94, 3) := by decide +kernel
theorem dX2_makes_44 : decode cX2_makes 44 = .ok (.aload_n 0, 1) := by decide +kernel
theorem dX2_makes_45 : decode cX2_makes 45 = .ok (.getfield 188, 3) := by decide +kernel
theorem dX2_makes_48 : decode cX2_makes 48 = .ok (.iload 6, 2) := by decide +kernel
theorem dX2_makes_50 : decode cX2_makes 50 = .ok (.invokevirtual 208, 3) := by decide +kernel
theorem dX2_makes_53 : decode cX2_makes 53 = .ok (.istore 7, 2) := by decide +kernel
theorem dX2_makes_55 : decode cX2_makes 55 = .ok (.iload 7, 2) := by decide +kernel
theorem dX2_makes_57 : decode cX2_makes 57 = .ok (.invokestatic 235, 3) := by decide +kernel
theorem dX2_makes_60 : decode cX2_makes 60 = .ok (.istore 8, 2) := by decide +kernel
theorem dX2_makes_62 : decode cX2_makes 62 = .ok (.iload 7, 2) := by decide +kernel
theorem dX2_makes_64 : decode cX2_makes 64 = .ok (.lload_n 1, 1) := by decide +kernel
theorem dX2_makes_65 : decode cX2_makes 65 = .ok (.invokestatic 239, 3) := by decide +kernel
theorem dX2_makes_68 : decode cX2_makes 68 = .ok (.istore 9, 2) := by decide +kernel
theorem dX2_makes_70 : decode cX2_makes 70 = .ok (.iload 8, 2) := by decide +kernel
theorem dX2_makes_72 : decode cX2_makes 72 = .ok (.iconst (-1), 1) := by decide +kernel
theorem dX2_makes_73 : decode cX2_makes 73 = .ok (.if_icmp .ne 6, 3) := by decide +kernel
theorem dX2_makes_76 : decode cX2_makes 76 = .ok (.goto 53, 3) := by decide +kernel
theorem dX2_makes_79 : decode cX2_makes 79 = .ok (.iload 9, 2) := by decide +kernel
theorem dX2_makes_81 : decode cX2_makes 81 = .ok (.iload 7, 2) := by decide +kernel
theorem dX2_makes_83 : decode cX2_makes 83 = .ok (.invokestatic 251, 3) := by decide +kernel
theorem dX2_makes_86 : decode cX2_makes 86 = .ok (.if_icmp .lt 13, 3) := by decide +kernel
theorem dX2_makes_89 : decode cX2_makes 89 = .ok (.iload 9, 2) := by decide +kernel
theorem dX2_makes_91 : decode cX2_makes 91 = .ok (.iload 7, 2) := by decide +kernel
theorem dX2_makes_93 : decode cX2_makes 93 = .ok (.invokestatic 254, 3) := by decide +kernel
theorem dX2_makes_96 : decode cX2_makes 96 = .ok (.if_icmp .le 5, 3) := by decide +kernel
theorem dX2_makes_99 : decode cX2_makes 99 = .ok (.iconst 0, 1) := by decide +kernel
theorem dX2_makes_100 : decode cX2_makes 100 = .ok (.ireturn, 1) := by decide +kernel
theorem dX2_makes_101 : decode cX2_makes 101 = .ok (.lload 4, 2) := by decide +kernel
theorem dX2_makes_103 : decode cX2_makes 103 = .ok (.iload 8, 2) := by decide +kernel
theorem dX2_makes_105 : decode cX2_makes 105 = .ok (.bipush 32, 2) := by decide +kernel
theorem dX2_makes_107 : decode cX2_makes 107 = .ok (.if_icmp .ne 9, 3) := by decide +kernel
theorem dX2_makes_110 : decode cX2_makes 110 = .ok (.ldc2_w 257, 3) := by decide +kernel
theorem dX2_makes_113 : decode cX2_makes 113 = .ok (.goto 13, 3) := by decide +kernel
theorem dX2_makes_116 : decode cX2_makes 116 = .ok (.ldc2_w 222, 3) := by decide +kernel
theorem dX2_makes_119 : decode cX2_makes 119 = .ok (.iload 8, 2) := by decide +kernel
theorem dX2_makes_121 : decode cX2_makes 121 = .ok (.lshl, 1) := by decide +kernel
theorem dX2_makes_122 : decode cX2_makes 122 = .ok (.ldc2_w 259, 3) := by decide +kernel
theorem dX2_makes_125 : decode cX2_makes 125 = .ok (.lxor, 1) := by decide +kernel
theorem dX2_makes_126 : decode cX2_makes 126 = .ok (.land, 1) := by decide +kernel
theorem dX2_makes_127 : decode cX2_makes 127 = .ok (.lstore 4, 2) := by decide +kernel
theorem dX2_makes_129 : decode cX2_makes 129 = .ok (.iinc 6 1, 3) := by decide +kernel
theorem dX2_makes_132 : decode cX2_makes 132 = .ok (.goto (-100), 3) := by decide +kernel
theorem dX2_makes_135 : decode cX2_makes 135 = .ok (.lload 4, 2) := by decide +kernel
theorem dX2_makes_137 : decode cX2_makes 137 = .ok (.lconst 0, 1) := by decide +kernel
theorem dX2_makes_138 : decode cX2_makes 138 = .ok (.lcmp, 1) := by decide +kernel
theorem dX2_makes_139 : decode cX2_makes 139 = .ok (.ifCond .ne 7, 3) := by decide +kernel
theorem dX2_makes_142 : decode cX2_makes 142 = .ok (.iconst 1, 1) := by decide +kernel
theorem dX2_makes_143 : decode cX2_makes 143 = .ok (.goto 4, 3) := by decide +kernel
theorem dX2_makes_146 : decode cX2_makes 146 = .ok (.iconst 0, 1) := by decide +kernel
theorem dX2_makes_147 : decode cX2_makes 147 = .ok (.ireturn, 1) := by decide +kernel
theorem dX2_amountPart_0 : decode cX2_amountPart 0 = .ok (.aload_n 0, 1) := by decide +kernel
theorem dX2_amountPart_1 : decode cX2_amountPart 1 = .ok (.invokevirtual 261, 3) := by decide +kernel
theorem dX2_amountPart_4 : decode cX2_amountPart 4 = .ok (.ifCond .eq 8, 3) := by decide +kernel
theorem dX2_amountPart_7 : decode cX2_amountPart 7 = .ok (.bipush 116, 2) := by decide +kernel
theorem dX2_amountPart_9 : decode cX2_amountPart 9 = .ok (.goto 5, 3) := by decide +kernel
theorem dX2_amountPart_12 : decode cX2_amountPart 12 = .ok (.bipush 110, 2) := by decide +kernel
theorem dX2_amountPart_14 : decode cX2_amountPart 14 = .ok (.ireturn, 1) := by decide +kernel
theorem dX2_isJump_0 : decode cX2_isJump 0 = .ok (.aload_n 0, 1) := by decide +kernel
theorem dX2_isJump_1 : decode cX2_isJump 1 = .ok (.getstatic 114, 3) := by decide +kernel
theorem dX2_isJump_4 : decode cX2_isJump 4 = .ok (.if_acmp .eq 10, 3) := by decide +kernel
theorem dX2_isJump_7 : decode cX2_isJump 7 = .ok (.aload_n 0, 1) := by decide +kernel
theorem dX2_isJump_8 : decode cX2_isJump 8 = .ok (.getstatic 117, 3) := by decide +kernel
theorem dX2_isJump_11 : decode cX2_isJump 11 = .ok (.if_acmp .ne 7, 3) := by decide +kernel
theorem dX2_isJump_14 : decode cX2_isJump 14 = .ok (.iconst 1, 1) := by decide +kernel
theorem dX2_isJump_15 : decode cX2_isJump 15 = .ok (.goto 4, 3) := by decide +kernel
theorem dX2_isJump_18 : decode cX2_isJump 18 = .ok (.iconst 0, 1) := by decide +kernel
theorem dX2_isJump_19 : decode cX2_isJump 19 = .ok (.ireturn, 1) := by decide +kernel
theorem dX2_isLast_0 : decode cX2_isLast 0 = .ok (.aload_n 0, 1) := by decide +kernel
theorem dX2_isLast_1 : decode cX2_isLast 1 = .ok (.getstatic 5, 3) := by decide +kernel
theorem dX2_isLast_4 : decode cX2_isLast 4 = .ok (.if_acmp .eq 17, 3) := by decide +kernel
theorem dX2_isLast_7 : decode cX2_isLast 7 = .ok (.aload_n 0, 1) := by decide +kernel
theorem dX2_isLast_8 : decode cX2_isLast 8 = .ok (.getstatic 9, 3) := by decide +kernel
theorem dX2_isLast_11 : decode cX2_isLast 11 = .ok (.if_acmp .eq 10, 3) := by decide +kernel
theorem dX2_isLast_14 : decode cX2_isLast 14 = .ok (.aload_n 0, 1) := by decide +kernel
theorem dX2_isLast_15 : decode cX2_isLast 15 = .ok (.getstatic 120, 3) := by decide +kernel
theorem dX2_isLast_18 : decode cX2_isLast 18 = .ok (.if_acmp .ne 7, 3) := by decide +kernel
theorem dX2_isLast_21 : decode cX2_isLast 21 = .ok (.iconst 1, 1) := by decide +kernel
theorem dX2_isLast_22 : decode cX2_isLast 22 = .ok (.goto 4, 3) := by decide +kernel
theorem dX2_isLast_25 : decode cX2_isLast 25 = .ok (.iconst 0, 1) := by decide +kernel
theorem dX2_isLast_26 : decode cX2_isLast 26 = .ok (.ireturn, 1) := by decide +kernel
theorem dX2_readsOf_0 : decode cX2_readsOf 0 = .ok (.lload_n 1, 1) := by decide +kernel
theorem dX2_readsOf_1 : decode cX2_readsOf 1 = .ok (.invokestatic 265, 3) := by decide +kernel
theorem dX2_readsOf_4 : decode cX2_readsOf 4 = .ok (.ifCond .eq 17, 3) := by decide +kernel
theorem dX2_readsOf_7 : decode cX2_readsOf 7 = .ok (.iconst 1, 1) := by decide +kernel
theorem dX2_readsOf_8 : decode cX2_readsOf 8 = .ok (.bipush 16, 2) := by decide +kernel
theorem dX2_readsOf_10 : decode cX2_readsOf 10 = .ok (.lload_n 1, 1) := by decide +kernel
theorem dX2_readsOf_11 : decode cX2_readsOf 11 = .ok (.invokestatic 245, 3) := by decide +kernel
theorem dX2_readsOf_14 : decode cX2_readsOf 14 = .ok (.iconst 4, 1) := by decide +kernel
theorem dX2_readsOf_15 : decode cX2_readsOf 15 = .ok (.irem, 1) := by decide +kernel
theorem dX2_readsOf_16 : decode cX2_readsOf 16 = .ok (.iadd, 1) := by decide +kernel
theorem dX2_readsOf_17 : decode cX2_readsOf 17 = .ok (.ishl, 1) := by decide +kernel
theorem dX2_readsOf_18 : decode cX2_readsOf 18 = .ok (.goto 4, 3) := by decide +kernel
theorem dX2_readsOf_21 : decode cX2_readsOf 21 = .ok (.iconst 0, 1) := by decide +kernel
theorem dX2_readsOf_22 : decode cX2_readsOf 22 = .ok (.istore_n 3, 1) := by decide +kernel
theorem dX2_readsOf_23 : decode cX2_readsOf 23 = .ok (.iconst 0, 1) := by decide +kernel
theorem dX2_readsOf_24 : decode cX2_readsOf 24 = .ok (.istore 4, 2) := by decide +kernel
theorem dX2_readsOf_26 : decode cX2_readsOf 26 = .ok (.iload 4, 2) := by decide +kernel
theorem dX2_readsOf_28 : decode cX2_readsOf 28 = .ok (.aload_n 0, 1) := by decide +kernel
theorem dX2_readsOf_29 : decode cX2_readsOf 29 = .ok (.getfield 188, 3) := by decide +kernel
theorem dX2_readsOf_32 : decode cX2_readsOf 32 = .ok (.invokevirtual 202, 3) := by decide +kernel
theorem dX2_readsOf_35 : decode cX2_readsOf 35 = .ok (.if_icmp .ge 64, 3) := by decide +kernel
theorem dX2_readsOf_38 : decode cX2_readsOf 38 = .ok (.aload_n 0, 1) := by decide +kernel
theorem dX2_readsOf_39 : decode cX2_readsOf 39 = .ok (.getfield 188, 3) := by decide +kernel
theorem dX2_readsOf_42 : decode cX2_readsOf 42 = .ok (.iload 4, 2) := by decide +kernel
theorem dX2_readsOf_44 : decode cX2_readsOf 44 = .ok (.invokevirtual 208, 3) := by decide +kernel
theorem dX2_readsOf_47 : decode cX2_readsOf 47 = .ok (.istore 5, 2) := by decide +kernel
theorem dX2_readsOf_49 : decode cX2_readsOf 49 = .ok (.iload 5, 2) := by decide +kernel
theorem dX2_readsOf_51 : decode cX2_readsOf 51 = .ok (.bipush 97, 2) := by decide +kernel
theorem dX2_readsOf_53 : decode cX2_readsOf 53 = .ok (.if_icmp .eq 31, 3) := by decide +kernel
theorem dX2_readsOf_56 : decode cX2_readsOf 56 = .ok (.iload 5, 2) := by decide +kernel
theorem dX2_readsOf_58 : decode cX2_readsOf 58 = .ok (.bipush 98, 2) := by decide +kernel
theorem dX2_readsOf_60 : decode cX2_readsOf 60 = .ok (.if_icmp .eq 24, 3) := by decide +kernel
theorem dX2_readsOf_63 : decode cX2_readsOf 63 = .ok (.iload 5, 2) := by decide +kernel
theorem dX2_readsOf_65 : decode cX2_readsOf 65 = .ok (.bipush 65, 2) := by decide +kernel
theorem dX2_readsOf_67 : decode cX2_readsOf 67 = .ok (.if_icmp .eq 17, 3) := by decide +kernel
theorem dX2_readsOf_70 : decode cX2_readsOf 70 = .ok (.iload 5, 2) := by decide +kernel
theorem dX2_readsOf_72 : decode cX2_readsOf 72 = .ok (.bipush 66, 2) := by decide +kernel
theorem dX2_readsOf_74 : decode cX2_readsOf 74 = .ok (.if_icmp .eq 10, 3) := by decide +kernel
theorem dX2_readsOf_77 : decode cX2_readsOf 77 = .ok (.iload 5, 2) := by decide +kernel
theorem dX2_readsOf_79 : decode cX2_readsOf 79 = .ok (.bipush 113, 2) := by decide +kernel
theorem dX2_readsOf_81 : decode cX2_readsOf 81 = .ok (.if_icmp .ne 12, 3) := by decide +kernel
theorem dX2_readsOf_84 : decode cX2_readsOf 84 = .ok (.iload_n 3, 1) := by decide +kernel
theorem dX2_readsOf_85 : decode cX2_readsOf 85 = .ok (.iload 5, 2) := by decide +kernel
theorem dX2_readsOf_87 : decode cX2_readsOf 87 = .ok (.lload_n 1, 1) := by decide +kernel
theorem dX2_readsOf_88 : decode cX2_readsOf 88 = .ok (.invokestatic 268, 3) := by decide +kernel
theorem dX2_readsOf_91 : decode cX2_readsOf 91 = .ok (.ior, 1) := by decide +kernel
theorem dX2_readsOf_92 : decode cX2_readsOf 92 = .ok (.istore_n 3, 1) := by decide +kernel
theorem dX2_readsOf_93 : decode cX2_readsOf 93 = .ok (.iinc 4 1, 3) := by decide +kernel
theorem dX2_readsOf_96 : decode cX2_readsOf 96 = .ok (.goto (-70), 3) := by decide +kernel
theorem dX2_readsOf_99 : decode cX2_readsOf 99 = .ok (.aload_n 0, 1) := by decide +kernel
theorem dX2_readsOf_100 : decode cX2_readsOf 100 = .ok (.getstatic 144, 3) := by decide +kernel
theorem dX2_readsOf_103 : decode cX2_readsOf 103 = .ok (.if_acmp .ne 14, 3) := by decide +kernel
theorem dX2_readsOf_106 : decode cX2_readsOf 106 = .ok (.iload_n 3, 1) := by decide +kernel
theorem dX2_readsOf_107 : decode cX2_readsOf 107 = .ok (.bipush 100, 2) := by decide +kernel
theorem dX2_readsOf_109 : decode cX2_readsOf 109 = .ok (.lload_n 1, 1) := by decide +kernel
theorem dX2_readsOf_110 : decode cX2_readsOf 110 = .ok (.invokestatic 268, 3) := by decide +kernel
theorem dX2_readsOf_113 : decode cX2_readsOf 113 = .ok (.ior, 1) := by decide +kernel
theorem dX2_readsOf_114 : decode cX2_readsOf 114 = .ok (.goto 4, 3) := by decide +kernel
theorem dX2_readsOf_117 : decode cX2_readsOf 117 = .ok (.iload_n 3, 1) := by decide +kernel
theorem dX2_readsOf_118 : decode cX2_readsOf 118 = .ok (.ireturn, 1) := by decide +kernel
theorem dX2_writesOf_0 : decode cX2_writesOf 0 = .ok (.aload_n 0, 1) := by decide +kernel
theorem dX2_writesOf_1 : decode cX2_writesOf 1 = .ok (.getfield 188, 3) := by decide +kernel
theorem dX2_writesOf_4 : decode cX2_writesOf 4 = .ok (.bipush 100, 2) := by decide +kernel
theorem dX2_writesOf_6 : decode cX2_writesOf 6 = .ok (.invokevirtual 271, 3) := by decide +kernel
theorem dX2_writesOf_9 : decode cX2_writesOf 9 = .ok (.ifCond .lt 10, 3) := by decide +kernel
theorem dX2_writesOf_12 : decode cX2_writesOf 12 = .ok (.bipush 100, 2) := by decide +kernel
theorem dX2_writesOf_14 : decode cX2_writesOf 14 = .ok (.lload_n 1, 1) := by decide +kernel
theorem dX2_writesOf_15 : decode cX2_writesOf 15 = .ok (.invokestatic 268, 3) := by decide +kernel
theorem dX2_writesOf_18 : decode cX2_writesOf 18 = .ok (.ireturn, 1) := by decide +kernel
theorem dX2_writesOf_19 : decode cX2_writesOf 19 = .ok (.aload_n 0, 1) := by decide +kernel
theorem dX2_writesOf_20 : decode cX2_writesOf 20 = .ok (.getfield 188, 3) := by decide +kernel
theorem dX2_writesOf_23 : decode cX2_writesOf 23 = .ok (.bipush 68, 2) := by decide +kernel
theorem dX2_writesOf_25 : decode cX2_writesOf 25 = .ok (.invokevirtual 271, 3) := by decide +kernel
theorem dX2_writesOf_28 : decode cX2_writesOf 28 = .ok (.ifCond .lt 12, 3) := by decide +kernel
theorem dX2_writesOf_31 : decode cX2_writesOf 31 = .ok (.bipush 68, 2) := by decide +kernel
theorem dX2_writesOf_33 : decode cX2_writesOf 33 = .ok (.lload_n 1, 1) := by decide +kernel
theorem dX2_writesOf_34 : decode cX2_writesOf 34 = .ok (.invokestatic 268, 3) := by decide +kernel
theorem dX2_writesOf_37 : decode cX2_writesOf 37 = .ok (.goto 4, 3) := by decide +kernel
theorem dX2_writesOf_40 : decode cX2_writesOf 40 = .ok (.iconst 0, 1) := by decide +kernel
theorem dX2_writesOf_41 : decode cX2_writesOf 41 = .ok (.ireturn, 1) := by decide +kernel
theorem dX3_init_0 : decode cX3_init 0 = .ok (.aload_n 0, 1) := by decide +kernel
theorem dX3_init_1 : decode cX3_init 1 = .ok (.invokespecial 3, 3) := by decide +kernel
theorem dX3_init_4 : decode cX3_init 4 = .ok (.aload_n 0, 1) := by decide +kernel
theorem dX3_init_5 : decode cX3_init 5 = .ok (.bipush 64, 2) := by decide +kernel
theorem dX3_init_7 : decode cX3_init 7 = .ok (.anewarray 9, 3) := by decide +kernel
theorem dX3_init_10 : decode cX3_init 10 = .ok (.putfield 11, 3) := by decide +kernel
theorem dX3_init_13 : decode cX3_init 13 = .ok (.aload_n 0, 1) := by decide +kernel
theorem dX3_init_14 : decode cX3_init 14 = .ok (.bipush 64, 2) := by decide +kernel
theorem dX3_init_16 : decode cX3_init 16 = .ok (.newarray .int, 2) := by decide +kernel
theorem dX3_init_18 : decode cX3_init 18 = .ok (.putfield 17, 3) := by decide +kernel
theorem dX3_init_21 : decode cX3_init 21 = .ok (.aload_n 0, 1) := by decide +kernel
theorem dX3_init_22 : decode cX3_init 22 = .ok (.new 21, 3) := by decide +kernel
theorem dX3_init_25 : decode cX3_init 25 = .ok (.dup, 1) := by decide +kernel
theorem dX3_init_26 : decode cX3_init 26 = .ok (.invokespecial 23, 3) := by decide +kernel
theorem dX3_init_29 : decode cX3_init 29 = .ok (.putfield 24, 3) := by decide +kernel
theorem dX3_init_32 : decode cX3_init 32 = .ok (.aload_n 0, 1) := by decide +kernel
theorem dX3_init_33 : decode cX3_init 33 = .ok (.bipush 64, 2) := by decide +kernel
theorem dX3_init_35 : decode cX3_init 35 = .ok (.newarray .long, 2) := by decide +kernel
theorem dX3_init_37 : decode cX3_init 37 = .ok (.putfield 28, 3) := by decide +kernel
theorem dX3_init_40 : decode cX3_init 40 = .ok (.aload_n 0, 1) := by decide +kernel
theorem dX3_init_41 : decode cX3_init 41 = .ok (.iconst 0, 1) := by decide +kernel
theorem dX3_init_42 : decode cX3_init 42 = .ok (.putfield 32, 3) := by decide +kernel
theorem dX3_init_45 : decode cX3_init 45 = .ok (.aload_n 0, 1) := by decide +kernel
theorem dX3_init_46 : decode cX3_init 46 = .ok (.iconst 0, 1) := by decide +kernel
theorem dX3_init_47 : decode cX3_init 47 = .ok (.putfield 36, 3) := by decide +kernel
theorem dX3_init_50 : decode cX3_init 50 = .ok (.aload_n 0, 1) := by decide +kernel
theorem dX3_init_51 : decode cX3_init 51 = .ok (.iconst 0, 1) := by decide +kernel
theorem dX3_init_52 : decode cX3_init 52 = .ok (.putfield 39, 3) := by decide +kernel
theorem dX3_init_55 : decode cX3_init 55 = .ok (.aload_n 0, 1) := by decide +kernel
theorem dX3_init_56 : decode cX3_init 56 = .ok (.new 42, 3) := by decide +kernel
theorem dX3_init_59 : decode cX3_init 59 = .ok (.dup, 1) := by decide +kernel
theorem dX3_init_60 : decode cX3_init 60 = .ok (.aload_n 1, 1) := by decide +kernel
theorem dX3_init_61 : decode cX3_init 61 = .ok (.invokespecial 44, 3) := by decide +kernel
theorem dX3_init_64 : decode cX3_init 64 = .ok (.putfield 47, 3) := by decide +kernel
theorem dX3_init_67 : decode cX3_init 67 = .ok (.return_, 1) := by decide +kernel
theorem dX3_parse_0 : decode cX3_parse 0 = .ok (.aload_n 0, 1) := by decide +kernel
theorem dX3_parse_1 : decode cX3_parse 1 = .ok (.iconst 0, 1) := by decide +kernel
theorem dX3_parse_2 : decode cX3_parse 2 = .ok (.putfield 32, 3) := by decide +kernel
theorem dX3_parse_5 : decode cX3_parse 5 = .ok (.aload_n 0, 1) := by decide +kernel
theorem dX3_parse_6 : decode cX3_parse 6 = .ok (.getfield 24, 3) := by decide +kernel
theorem dX3_parse_9 : decode cX3_parse 9 = .ok (.iconst 0, 1) := by decide +kernel
theorem dX3_parse_10 : decode cX3_parse 10 = .ok (.putfield 51, 3) := by decide +kernel
theorem dX3_parse_13 : decode cX3_parse 13 = .ok (.aload_n 0, 1) := by decide +kernel
theorem dX3_parse_14 : decode cX3_parse 14 = .ok (.iconst 0, 1) := by decide +kernel
theorem dX3_parse_15 : decode cX3_parse 15 = .ok (.putfield 36, 3) := by decide +kernel
theorem dX3_parse_18 : decode cX3_parse 18 = .ok (.aload_n 0, 1) := by decide +kernel
theorem dX3_parse_19 : decode cX3_parse 19 = .ok (.iconst 0, 1) := by decide +kernel
theorem dX3_parse_20 : decode cX3_parse 20 = .ok (.putfield 39, 3) := by decide +kernel
theorem dX3_parse_23 : decode cX3_parse 23 = .ok (.aload_n 0, 1) := by decide +kernel
theorem dX3_parse_24 : decode cX3_parse 24 = .ok (.getfield 47, 3) := by decide +kernel
theorem dX3_parse_27 : decode cX3_parse 27 = .ok (.invokevirtual 52, 3) := by decide +kernel
theorem dX3_parse_30 : decode cX3_parse 30 = .ok (.iconst 1, 1) := by decide +kernel
theorem dX3_parse_31 : decode cX3_parse 31 = .ok (.istore_n 1, 1) := by decide +kernel
theorem dX3_parse_32 : decode cX3_parse 32 = .ok (.iconst 0, 1) := by decide +kernel
theorem dX3_parse_33 : decode cX3_parse 33 = .ok (.istore_n 2, 1) := by decide +kernel
theorem dX3_parse_34 : decode cX3_parse 34 = .ok (.iload_n 2, 1) := by decide +kernel
theorem dX3_parse_35 : decode cX3_parse 35 = .ok (.sipush 700, 3) := by decide +kernel
theorem dX3_parse_38 : decode cX3_parse 38 = .ok (.if_icmp .ge 28, 3) := by decide +kernel
theorem dX3_parse_41 : decode cX3_parse 41 = .ok (.iload_n 1, 1) := by decide +kernel
theorem dX3_parse_42 : decode cX3_parse 42 = .ok (.ifCond .eq 24, 3) := by decide +kernel
theorem dX3_parse_45 : decode cX3_parse 45 = .ok (.aload_n 0, 1) := by decide +kernel
theorem dX3_parse_46 : decode cX3_parse 46 = .ok (.getfield 47, 3) := by decide +kernel
theorem dX3_parse_49 : decode cX3_parse 49 = .ok (.invokevirtual 55, 3) := by decide +kernel
theorem dX3_parse_52 : decode cX3_parse 52 = .ok (.ifCond .eq 14, 3) := by decide +kernel
theorem dX3_parse_55 : decode cX3_parse 55 = .ok (.aload_n 0, 1) := by decide +kernel
theorem dX3_parse_56 : decode cX3_parse 56 = .ok (.invokevirtual 59, 3) := by decide +kernel
theorem dX3_parse_59 : decode cX3_parse 59 = .ok (.istore_n 1, 1) := by decide +kernel
theorem dX3_parse_60 : decode cX3_parse 60 = .ok (.iinc 2 1, 3) := by decide +kernel
theorem dX3_parse_63 : decode cX3_parse 63 = .ok (.goto (-29), 3) := by decide +kernel
theorem dX3_parse_66 : decode cX3_parse 66 = .ok (.iload_n 1, 1) := by decide +kernel
theorem dX3_parse_67 : decode cX3_parse 67 = .ok (.ifCond .eq 7, 3) := by decide +kernel
theorem dX3_parse_70 : decode cX3_parse 70 = .ok (.aload_n 0, 1) := by decide +kernel
theorem dX3_parse_71 : decode cX3_parse 71 = .ok (.invokevirtual 63, 3) := by decide +kernel
theorem dX3_parse_74 : decode cX3_parse 74 = .ok (.aload_n 0, 1) := by decide +kernel
theorem dX3_parse_75 : decode cX3_parse 75 = .ok (.getfield 36, 3) := by decide +kernel
theorem dX3_parse_78 : decode cX3_parse 78 = .ok (.ifCond .ne 7, 3) := by decide +kernel
theorem dX3_parse_81 : decode cX3_parse 81 = .ok (.iconst 1, 1) := by decide +kernel
theorem dX3_parse_82 : decode cX3_parse 82 = .ok (.goto 4, 3) := by decide +kernel
theorem dX3_parse_85 : decode cX3_parse 85 = .ok (.iconst 0, 1) := by decide +kernel
theorem dX3_parse_86 : decode cX3_parse 86 = .ok (.ireturn, 1) := by decide +kernel
theorem dX3_refuse_0 : decode cX3_refuse 0 = .ok (.aload_n 0, 1) := by decide +kernel
theorem dX3_refuse_1 : decode cX3_refuse 1 = .ok (.iconst 1, 1) := by decide +kernel
theorem dX3_refuse_2 : decode cX3_refuse 2 = .ok (.putfield 36, 3) := by decide +kernel
theorem dX3_refuse_5 : decode cX3_refuse 5 = .ok (.aload_n 0, 1) := by decide +kernel
theorem dX3_refuse_6 : decode cX3_refuse 6 = .ok (.aload_n 0, 1) := by decide +kernel
theorem dX3_refuse_7 : decode cX3_refuse 7 = .ok (.getfield 47, 3) := by decide +kernel
theorem dX3_refuse_10 : decode cX3_refuse 10 = .ok (.invokevirtual 66, 3) := by decide +kernel
theorem dX3_refuse_13 : decode cX3_refuse 13 = .ok (.putfield 39, 3) := by decide +kernel
theorem dX3_refuse_16 : decode cX3_refuse 16 = .ok (.iconst 0, 1) := by decide +kernel
theorem dX3_refuse_17 : decode cX3_refuse 17 = .ok (.ireturn, 1) := by decide +kernel
theorem dX3_noteFault_0 : decode cX3_noteFault 0 = .ok (.aload_n 0, 1) := by decide +kernel
theorem dX3_noteFault_1 : decode cX3_noteFault 1 = .ok (.getfield 36, 3) := by decide +kernel
theorem dX3_noteFault_4 : decode cX3_noteFault 4 = .ok (.ifCond .eq 11, 3) := by decide +kernel
theorem dX3_noteFault_7 : decode cX3_noteFault 7 = .ok (.iload_n 2, 1) := by decide +kernel
theorem dX3_noteFault_8 : decode cX3_noteFault 8 = .ok (.aload_n 0, 1) := by decide +kernel
theorem dX3_noteFault_9 : decode cX3_noteFault 9 = .ok (.getfield 39, 3) := by decide +kernel
theorem dX3_noteFault_12 : decode cX3_noteFault 12 = .ok (.if_icmp .ge 13, 3) := by decide +kernel
theorem dX3_noteFault_15 : decode cX3_noteFault 15 = .ok (.aload_n 0, 1) := by decide +kernel
theorem dX3_noteFault_16 : decode cX3_noteFault 16 = .ok (.iload_n 1, 1) := by decide +kernel
theorem dX3_noteFault_17 : decode cX3_noteFault 17 = .ok (.putfield 36, 3) := by decide +kernel
theorem dX3_noteFault_20 : decode cX3_noteFault 20 = .ok (.aload_n 0, 1) := by decide +kernel
theorem dX3_noteFault_21 : decode cX3_noteFault 21 = .ok (.iload_n 2, 1) := by decide +kernel
theorem dX3_noteFault_22 : decode cX3_noteFault 22 = .ok (.putfield 39, 3) := by decide +kernel
theorem dX3_noteFault_25 : decode cX3_noteFault 25 = .ok (.return_, 1) := by decide +kernel
theorem dX3_takeStatement_0 : decode cX3_takeStatement 0 = .ok (.aload_n 0, 1) := by decide +kernel
theorem dX3_takeStatement_1 : decode cX3_takeStatement 1 = .ok (.getfield 47, 3) := by decide +kernel
theorem dX3_takeStatement_4 : decode cX3_takeStatement 4 = .ok (.invokevirtual 55, 3) := by decide +kernel
theorem dX3_takeStatement_7 : decode cX3_takeStatement 7 = .ok (.iconst 1, 1) := by decide +kernel
theorem dX3_takeStatement_8 : decode cX3_takeStatement 8 = .ok (.if_icmp .ne 20, 3) := by decide +kernel
theorem dX3_takeStatement_11 : decode cX3_takeStatement 11 = .ok (.aload_n 0, 1) := by decide +kernel
theorem dX3_takeStatement_12 : decode cX3_takeStatement 12 = .ok (.getfield 47, 3) := by decide +kernel
theorem dX3_takeStatement_15 : decode cX3_takeStatement 15 = .ok (.invokevirtual 69, 3) := by decide +kernel
theorem dX3_takeStatement_18 : decode cX3_takeStatement 18 = .ok (.bipush 61, 2) := by decide +kernel
theorem dX3_takeStatement_20 : decode cX3_takeStatement 20 = .ok (.if_icmp .ne 8, 3) := by decide +kernel
theorem dX3_takeStatement_23 : decode cX3_takeStatement 23 = .ok (.aload_n 0, 1) := by decide +kernel
theorem dX3_takeStatement_24 : decode cX3_takeStatement 24 = .ok (.invokevirtual 72, 3) := by decide +kernel
theorem dX3_takeStatement_27 : decode cX3_takeStatement 27 = .ok (.ireturn, 1) := by decide +kernel
theorem dX3_takeStatement_28 : decode cX3_takeStatement 28 = .ok (.iconst 0, 1) := by decide +kernel
theorem dX3_takeStatement_29 : decode cX3_takeStatement 29 = .ok (.istore_n 1, 1) := by decide +kernel
theorem dX3_takeStatement_30 : decode cX3_takeStatement 30 = .ok (.iload_n 1, 1) := by decide +kernel
theorem dX3_takeStatement_31 : decode cX3_takeStatement 31 = .ok (.sipush 350, 3) := by decide +kernel
theorem dX3_takeStatement_34 : decode cX3_takeStatement 34 = .ok (.if_icmp .ge 69, 3) := by decide +kernel
theorem dX3_takeStatement_37 : decode cX3_takeStatement 37 = .ok (.aload_n 0, 1) := by decide +kernel
theorem dX3_takeStatement_38 : decode cX3_takeStatement 38 = .ok (.getfield 47, 3) := by decide +kernel
theorem dX3_takeStatement_41 : decode cX3_takeStatement 41 = .ok (.invokevirtual 55, 3) := by decide +kernel
theorem dX3_takeStatement_44 : decode cX3_takeStatement 44 = .ok (.iconst 1, 1) := by decide +kernel
theorem dX3_takeStatement_45 : decode cX3_takeStatement 45 = .ok (.if_icmp .ne 58, 3) := by decide +kernel
theorem dX3_takeStatement_48 : decode cX3_takeStatement 48 = .ok (.aload_n 0, 1) := by decide +kernel
theorem dX3_takeStatement_49 : decode cX3_takeStatement 49 = .ok (.getfield 47, 3) := by decide +kernel
theorem dX3_takeStatement_52 : decode cX3_takeStatement 52 = .ok (.invokevirtual 69, 3) := by decide +kernel
theorem dX3_takeStatement_55 : decode cX3_takeStatement 55 = .ok (.bipush 58, 2) := by decide +kernel
theorem dX3_takeStatement_57 : decode cX3_takeStatement 57 = .ok (.if_icmp .ne 46, 3) := by decide +kernel
theorem dX3_takeStatement_60 : decode cX3_takeStatement 60 = .ok (.aload_n 0, 1) := by decide +kernel
theorem dX3_takeStatement_61 : decode cX3_takeStatement 61 = .ok (.aload_n 0, 1) := by decide +kernel
theorem dX3_takeStatement_62 : decode cX3_takeStatement 62 = .ok (.getfield 47, 3) := by decide +kernel
theorem dX3_takeStatement_65 : decode cX3_takeStatement 65 = .ok (.invokevirtual 75, 3) := by decide +kernel
theorem dX3_takeStatement_68 : decode cX3_takeStatement 68 = .ok (.aload_n 0, 1) := by decide +kernel
theorem dX3_takeStatement_69 : decode cX3_takeStatement 69 = .ok (.getfield 47, 3) := by decide +kernel
theorem dX3_takeStatement_72 : decode cX3_takeStatement 72 = .ok (.invokevirtual 66, 3) := by decide +kernel
theorem dX3_takeStatement_75 : decode cX3_takeStatement 75 = .ok (.aload_n 0, 1) := by decide +kernel
theorem dX3_takeStatement_76 : decode cX3_takeStatement 76 = .ok (.getfield 32, 3) := by decide +kernel
theorem dX3_takeStatement_79 : decode cX3_takeStatement 79 = .ok (.i2l, 1) := by decide +kernel
theorem dX3_takeStatement_80 : decode cX3_takeStatement 80 = .ok (.invokevirtual 79, 3) := by decide +kernel
theorem dX3_takeStatement_83 : decode cX3_takeStatement 83 = .ok (.aload_n 0, 1) := by decide +kernel
theorem dX3_takeStatement_84 : decode cX3_takeStatement 84 = .ok (.getfield 47, 3) := by decide +kernel
theorem dX3_takeStatement_87 : decode cX3_takeStatement 87 = .ok (.invokevirtual 83, 3) := by decide +kernel
theorem dX3_takeStatement_90 : decode cX3_takeStatement 90 = .ok (.aload_n 0, 1) := by decide +kernel
theorem dX3_takeStatement_91 : decode cX3_takeStatement 91 = .ok (.getfield 47, 3) := by decide +kernel
theorem dX3_takeStatement_94 : decode cX3_takeStatement 94 = .ok (.invokevirtual 83, 3) := by decide +kernel
theorem dX3_takeStatement_97 : decode cX3_takeStatement 97 = .ok (.iinc 1 1, 3) := by decide +kernel
theorem dX3_takeStatement_100 : decode cX3_takeStatement 100 = .ok (.goto (-70), 3) := by decide +kernel
theorem dX3_takeStatement_103 : decode cX3_takeStatement 103 = .ok (.aload_n 0, 1) := by decide +kernel
theorem dX3_takeStatement_104 : decode cX3_takeStatement 104 = .ok (.getfield 47, 3) := by decide +kernel
theorem dX3_takeStatement_107 : decode cX3_takeStatement 107 = .ok (.invokevirtual 55, 3) := by decide +kernel
theorem dX3_takeStatement_110 : decode cX3_takeStatement 110 = .ok (.bipush 59, 2) := by decide +kernel
theorem dX3_takeStatement_112 : decode cX3_takeStatement 112 = .ok (.if_icmp .ne 10, 3) := by decide +kernel
theorem dX3_takeStatement_115 : decode cX3_takeStatement 115 = .ok (.aload_n 0, 1) := by decide +kernel
theorem dX3_takeStatement_116 : decode cX3_takeStatement 116 = .ok (.bipush 59, 2) := by decide +kernel
theorem dX3_takeStatement_118 : decode cX3_takeStatement 118 = .ok (.invokevirtual 86, 3) := by decide +kernel
theorem dX3_takeStatement_121 : decode cX3_takeStatement 121 = .ok (.ireturn, 1) := by decide +kernel
theorem dX3_takeStatement_122 : decode cX3_takeStatement 122 = .ok (.aload_n 0, 1) := by decide +kernel
theorem dX3_takeStatement_123 : decode cX3_takeStatement 123 = .ok (.getfield 47, 3) := by decide +kernel
theorem dX3_takeStatement_126 : decode cX3_takeStatement 126 = .ok (.invokevirtual 55, 3) := by decide +kernel
theorem dX3_takeStatement_129 : decode cX3_takeStatement 129 = .ok (.bipush 64, 2) := by decide +kernel
theorem dX3_takeStatement_131 : decode cX3_takeStatement 131 = .ok (.if_icmp .ne 10, 3) := by decide +kernel
theorem dX3_takeStatement_134 : decode cX3_takeStatement 134 = .ok (.aload_n 0, 1) := by decide +kernel
theorem dX3_takeStatement_135 : decode cX3_takeStatement 135 = .ok (.invokevirtual 90, 3) := by decide +kernel
theorem dX3_takeStatement_138 : decode cX3_takeStatement 138 = .ok (.goto 4, 3) := by decide +kernel
theorem dX3_takeStatement_141 : decode cX3_takeStatement 141 = .ok (.iconst 0, 1) := by decide +kernel
theorem dX3_takeStatement_142 : decode cX3_takeStatement 142 = .ok (.istore_n 1, 1) := by decide +kernel
theorem dX3_takeStatement_143 : decode cX3_takeStatement 143 = .ok (.iload_n 1, 1) := by decide +kernel
theorem dX3_takeStatement_144 : decode cX3_takeStatement 144 = .ok (.iconst (-1), 1) := by decide +kernel
theorem dX3_takeStatement_145 : decode cX3_takeStatement 145 = .ok (.if_icmp .ne 8, 3) := by decide +kernel
theorem dX3_takeStatement_148 : decode cX3_takeStatement 148 = .ok (.aload_n 0, 1) := by decide +kernel
theorem dX3_takeStatement_149 : decode cX3_takeStatement 149 = .ok (.invokevirtual 93, 3) := by decide +kernel
theorem dX3_takeStatement_152 : decode cX3_takeStatement 152 = .ok (.ireturn, 1) := by decide +kernel
theorem dX3_takeStatement_153 : decode cX3_takeStatement 153 = .ok (.aload_n 0, 1) := by decide +kernel
theorem dX3_takeStatement_154 : decode cX3_takeStatement 154 = .ok (.iload_n 1, 1) := by decide +kernel
theorem dX3_takeStatement_155 : decode cX3_takeStatement 155 = .ok (.invokevirtual 96, 3) := by decide +kernel
theorem dX3_takeStatement_158 : decode cX3_takeStatement 158 = .ok (.ifCond .eq 16, 3) := by decide +kernel
theorem dX3_takeStatement_161 : decode cX3_takeStatement 161 = .ok (.aload_n 0, 1) := by decide +kernel
theorem dX3_takeStatement_162 : decode cX3_takeStatement 162 = .ok (.bipush 59, 2) := by decide +kernel
theorem dX3_takeStatement_164 : decode cX3_takeStatement 164 = .ok (.invokevirtual 86, 3) := by decide +kernel
theorem dX3_takeStatement_167 : decode cX3_takeStatement 167 = .ok (.ifCond .eq 7, 3) := by decide +kernel
theorem dX3_takeStatement_170 : decode cX3_takeStatement 170 = .ok (.iconst 1, 1) := by decide +kernel
theorem dX3_takeStatement_171 : decode cX3_takeStatement 171 = .ok (.goto 4, 3) := by decide +kernel
theorem dX3_takeStatement_174 : decode cX3_takeStatement 174 = .ok (.iconst 0, 1) := by decide +kernel
theorem dX3_takeStatement_175 : decode cX3_takeStatement 175 = .ok (.ireturn, 1) := by decide +kernel
theorem dX3_takeConstant_0 : decode cX3_takeConstant 0 = .ok (.aload_n 0, 1) := by decide +kernel
theorem dX3_takeConstant_1 : decode cX3_takeConstant 1 = .ok (.getfield 47, 3) := by decide +kernel
theorem dX3_takeConstant_4 : decode cX3_takeConstant 4 = .ok (.invokevirtual 75, 3) := by decide +kernel
theorem dX3_takeConstant_7 : decode cX3_takeConstant 7 = .ok (.lstore_n 1, 1) := by decide +kernel
theorem dX3_takeConstant_8 : decode cX3_takeConstant 8 = .ok (.aload_n 0, 1) := by decide +kernel
theorem dX3_takeConstant_9 : decode cX3_takeConstant 9 = .ok (.getfield 47, 3) := by decide +kernel
theorem dX3_takeConstant_12 : decode cX3_takeConstant 12 = .ok (.invokevirtual 66, 3) := by decide +kernel
theorem dX3_takeConstant_15 : decode cX3_takeConstant 15 = .ok (.istore_n 3, 1) := by decide +kernel
theorem dX3_takeConstant_16 : decode cX3_takeConstant 16 = .ok (.aload_n 0, 1) := by decide +kernel
theorem dX3_takeConstant_17 : decode cX3_takeConstant 17 = .ok (.getfield 47, 3) := by decide +kernel
theorem dX3_takeConstant_20 : decode cX3_takeConstant 20 = .ok (.invokevirtual 83, 3) := by decide +kernel
theorem dX3_takeConstant_23 : decode cX3_takeConstant 23 = .ok (.aload_n 0, 1) := by decide +kernel
theorem dX3_takeConstant_24 : decode cX3_takeConstant 24 = .ok (.getfield 47, 3) := by decide +kernel
theorem dX3_takeConstant_27 : decode cX3_takeConstant 27 = .ok (.invokevirtual 83, 3) := by decide +kernel
theorem dX3_takeConstant_30 : decode cX3_takeConstant 30 = .ok (.aload_n 0, 1) := by decide +kernel
theorem dX3_takeConstant_31 : decode cX3_takeConstant 31 = .ok (.getfield 47, 3) := by decide +kernel
theorem dX3_takeConstant_34 : decode cX3_takeConstant 34 = .ok (.invokevirtual 100, 3) := by decide +kernel
theorem dX3_takeConstant_37 : decode cX3_takeConstant 37 = .ok (.istore 4, 2) := by decide +kernel
theorem dX3_takeConstant_39 : decode cX3_takeConstant 39 = .ok (.aload_n 0, 1) := by decide +kernel
theorem dX3_takeConstant_40 : decode cX3_takeConstant 40 = .ok (.invokevirtual 103, 3) := by decide +kernel
theorem dX3_takeConstant_43 : decode cX3_takeConstant 43 = .ok (.ifCond .ne 8, 3) := by decide +kernel
theorem dX3_takeConstant_46 : decode cX3_takeConstant 46 = .ok (.aload_n 0, 1) := by decide +kernel
theorem dX3_takeConstant_47 : decode cX3_takeConstant 47 = .ok (.invokevirtual 93, 3) := by decide +kernel
theorem dX3_takeConstant_50 : decode cX3_takeConstant 50 = .ok (.ireturn, 1) := by decide +kernel
theorem dX3_takeConstant_51 : decode cX3_takeConstant 51 = .ok (.aload_n 0, 1) := by decide +kernel
theorem dX3_takeConstant_52 : decode cX3_takeConstant 52 = .ok (.lload_n 1, 1) := by decide +kernel
theorem dX3_takeConstant_53 : decode cX3_takeConstant 53 = .ok (.iload_n 3, 1) := by decide +kernel
theorem dX3_takeConstant_54 : decode cX3_takeConstant 54 = .ok (.aload_n 0, 1) := by decide +kernel
theorem dX3_takeConstant_55 : decode cX3_takeConstant 55 = .ok (.iload 4, 2) := by decide +kernel
theorem dX3_takeConstant_57 : decode cX3_takeConstant 57 = .ok (.bipush 110, 2) := by decide +kernel
theorem dX3_takeConstant_59 : decode cX3_takeConstant 59 = .ok (.invokevirtual 106, 3) := by decide +kernel
theorem dX3_takeConstant_62 : decode cX3_takeConstant 62 = .ok (.invokevirtual 79, 3) := by decide +kernel
theorem dX3_takeConstant_65 : decode cX3_takeConstant 65 = .ok (.aload_n 0, 1) := by decide +kernel
theorem dX3_takeConstant_66 : decode cX3_takeConstant 66 = .ok (.bipush 59, 2) := by decide +kernel
theorem dX3_takeConstant_68 : decode cX3_takeConstant 68 = .ok (.invokevirtual 86, 3) := by decide +kernel
theorem dX3_takeConstant_71 : decode cX3_takeConstant 71 = .ok (.ireturn, 1) := by decide +kernel
theorem dX3_tellName_0 : decode cX3_tellName 0 = .ok (.aload_n 0, 1) := by decide +kernel
theorem dX3_tellName_1 : decode cX3_tellName 1 = .ok (.getfield 24, 3) := by decide +kernel
theorem dX3_tellName_4 : decode cX3_tellName 4 = .ok (.lload_n 1, 1) := by decide +kernel
theorem dX3_tellName_5 : decode cX3_tellName 5 = .ok (.lload 4, 2) := by decide +kernel
theorem dX3_tellName_7 : decode cX3_tellName 7 = .ok (.invokevirtual 110, 3) := by decide +kernel
theorem dX3_tellName_10 : decode cX3_tellName 10 = .ok (.ifCond .ne 9, 3) := by decide +kernel
theorem dX3_tellName_13 : decode cX3_tellName 13 = .ok (.aload_n 0, 1) := by decide +kernel
theorem dX3_tellName_14 : decode cX3_tellName 14 = .ok (.iconst 2, 1) := by decide +kernel
theorem dX3_tellName_15 : decode cX3_tellName 15 = .ok (.iload_n 3, 1) := by decide +kernel
theorem dX3_tellName_16 : decode cX3_tellName 16 = .ok (.invokevirtual 114, 3) := by decide +kernel
theorem dX3_tellName_19 : decode cX3_tellName 19 = .ok (.return_, 1) := by decide +kernel
theorem dX3_takeSign_0 : decode cX3_takeSign 0 = .ok (.aload_n 0, 1) := by decide +kernel
theorem dX3_takeSign_1 : decode cX3_takeSign 1 = .ok (.getfield 47, 3) := by decide +kernel
theorem dX3_takeSign_4 : decode cX3_takeSign 4 = .ok (.invokevirtual 55, 3) := by decide +kernel
theorem dX3_takeSign_7 : decode cX3_takeSign 7 = .ok (.iload_n 1, 1) := by decide +kernel
theorem dX3_takeSign_8 : decode cX3_takeSign 8 = .ok (.if_icmp .eq 8, 3) := by decide +kernel
theorem dX3_takeSign_11 : decode cX3_takeSign 11 = .ok (.aload_n 0, 1) := by decide +kernel
theorem dX3_takeSign_12 : decode cX3_takeSign 12 = .ok (.invokevirtual 93, 3) := by decide +kernel
theorem dX3_takeSign_15 : decode cX3_takeSign 15 = .ok (.ireturn, 1) := by decide +kernel
theorem dX3_takeSign_16 : decode cX3_takeSign 16 = .ok (.aload_n 0, 1) := by decide +kernel
theorem dX3_takeSign_17 : decode cX3_takeSign 17 = .ok (.getfield 47, 3) := by decide +kernel
theorem dX3_takeSign_20 : decode cX3_takeSign 20 = .ok (.invokevirtual 83, 3) := by decide +kernel
theorem dX3_takeSign_23 : decode cX3_takeSign 23 = .ok (.iconst 1, 1) := by decide +kernel
theorem dX3_takeSign_24 : decode cX3_takeSign 24 = .ok (.ireturn, 1) := by decide +kernel
theorem dX3_takeGuard_0 : decode cX3_takeGuard 0 = .ok (.aload_n 0, 1) := by decide +kernel
theorem dX3_takeGuard_1 : decode cX3_takeGuard 1 = .ok (.getfield 47, 3) := by decide +kernel
theorem dX3_takeGuard_4 : decode cX3_takeGuard 4 = .ok (.invokevirtual 83, 3) := by decide +kernel
theorem dX3_takeGuard_7 : decode cX3_takeGuard 7 = .ok (.bipush 8, 2) := by decide +kernel
theorem dX3_takeGuard_9 : decode cX3_takeGuard 9 = .ok (.istore_n 1, 1) := by decide +kernel
theorem dX3_takeGuard_10 : decode cX3_takeGuard 10 = .ok (.aload_n 0, 1) := by decide +kernel
theorem dX3_takeGuard_11 : decode cX3_takeGuard 11 = .ok (.getfield 47, 3) := by decide +kernel
theorem dX3_takeGuard_14 : decode cX3_takeGuard 14 = .ok (.invokevirtual 55, 3) := by decide +kernel
theorem dX3_takeGuard_17 : decode cX3_takeGuard 17 = .ok (.bipush 33, 2) := by decide +kernel
theorem dX3_takeGuard_19 : decode cX3_takeGuard 19 = .ok (.if_icmp .ne 13, 3) := by decide +kernel
theorem dX3_takeGuard_22 : decode cX3_takeGuard 22 = .ok (.bipush 12, 2) := by decide +kernel
theorem dX3_takeGuard_24 : decode cX3_takeGuard 24 = .ok (.istore_n 1, 1) := by decide +kernel
theorem dX3_takeGuard_25 : decode cX3_takeGuard 25 = .ok (.aload_n 0, 1) := by decide +kernel
theorem dX3_takeGuard_26 : decode cX3_takeGuard 26 = .ok (.getfield 47, 3) := by decide +kernel
theorem dX3_takeGuard_29 : decode cX3_takeGuard 29 = .ok (.invokevirtual 83, 3) := by decide +kernel
theorem dX3_takeGuard_32 : decode cX3_takeGuard 32 = .ok (.aload_n 0, 1) := by decide +kernel
theorem dX3_takeGuard_33 : decode cX3_takeGuard 33 = .ok (.getfield 47, 3) := by decide +kernel
theorem dX3_takeGuard_36 : decode cX3_takeGuard 36 = .ok (.bipush 112, 2) := by decide +kernel
theorem dX3_takeGuard_38 : decode cX3_takeGuard 38 = .ok (.iconst 3, 1) := by decide +kernel
theorem dX3_takeGuard_39 : decode cX3_takeGuard 39 = .ok (.invokevirtual 118, 3) := by decide +kernel
theorem dX3_takeGuard_42 : decode cX3_takeGuard 42 = .ok (.istore_n 2, 1) := by decide +kernel
theorem dX3_takeGuard_43 : decode cX3_takeGuard 43 = .ok (.iload_n 2, 1) := by decide +kernel
theorem dX3_takeGuard_44 : decode cX3_takeGuard 44 = .ok (.iconst (-1), 1) := by decide +kernel
theorem dX3_takeGuard_45 : decode cX3_takeGuard 45 = .ok (.if_icmp .ne 5, 3) := by decide +kernel
theorem dX3_takeGuard_48 : decode cX3_takeGuard 48 = .ok (.iconst (-1), 1) := by decide +kernel
theorem dX3_takeGuard_49 : decode cX3_takeGuard 49 = .ok (.ireturn, 1) := by decide +kernel
theorem dX3_takeGuard_50 : decode cX3_takeGuard 50 = .ok (.aload_n 0, 1) := by decide +kernel
theorem dX3_takeGuard_51 : decode cX3_takeGuard 51 = .ok (.getfield 47, 3) := by decide +kernel
theorem dX3_takeGuard_54 : decode cX3_takeGuard 54 = .ok (.invokevirtual 83, 3) := by decide +kernel
theorem dX3_takeGuard_57 : decode cX3_takeGuard 57 = .ok (.iload_n 1, 1) := by decide +kernel
theorem dX3_takeGuard_58 : decode cX3_takeGuard 58 = .ok (.iload_n 2, 1) := by decide +kernel
theorem dX3_takeGuard_59 : decode cX3_takeGuard 59 = .ok (.iadd, 1) := by decide +kernel
theorem dX3_takeGuard_60 : decode cX3_takeGuard 60 = .ok (.ireturn, 1) := by decide +kernel
theorem dX3_takeWord_0 : decode cX3_takeWord 0 = .ok (.aload_n 0, 1) := by decide +kernel
theorem dX3_takeWord_1 : decode cX3_takeWord 1 = .ok (.getfield 47, 3) := by decide +kernel
theorem dX3_takeWord_4 : decode cX3_takeWord 4 = .ok (.invokevirtual 55, 3) := by decide +kernel
theorem dX3_takeWord_7 : decode cX3_takeWord 7 = .ok (.iconst 1, 1) := by decide +kernel
theorem dX3_takeWord_8 : decode cX3_takeWord 8 = .ok (.if_icmp .ne 16, 3) := by decide +kernel
theorem dX3_takeWord_11 : decode cX3_takeWord 11 = .ok (.aload_n 0, 1) := by decide +kernel
theorem dX3_takeWord_12 : decode cX3_takeWord 12 = .ok (.getfield 47, 3) := by decide +kernel
theorem dX3_takeWord_15 : decode cX3_takeWord 15 = .ok (.invokevirtual 75, 3) := by decide +kernel
theorem dX3_takeWord_18 : decode cX3_takeWord 18 = .ok (.invokestatic 122, 3) := by decide +kernel
theorem dX3_takeWord_21 : decode cX3_takeWord 21 = .ok (.goto 4, 3) := by decide +kernel
theorem dX3_takeWord_24 : decode cX3_takeWord 24 = .ok (.aconst_null, 1) := by decide +kernel
theorem dX3_takeWord_25 : decode cX3_takeWord 25 = .ok (.astore_n 2, 1) := by decide +kernel
theorem dX3_takeWord_26 : decode cX3_takeWord 26 = .ok (.aload_n 2, 1) := by decide +kernel
theorem dX3_takeWord_27 : decode cX3_takeWord 27 = .ok (.ifnonnull 9, 3) := by decide +kernel
theorem dX3_takeWord_30 : decode cX3_takeWord 30 = .ok (.aload_n 0, 1) := by decide +kernel
theorem dX3_takeWord_31 : decode cX3_takeWord 31 = .ok (.iload_n 1, 1) := by decide +kernel
theorem dX3_takeWord_32 : decode cX3_takeWord 32 = .ok (.invokevirtual 126, 3) := by decide +kernel
theorem dX3_takeWord_35 : decode cX3_takeWord 35 = .ok (.ireturn, 1) := by decide +kernel
theorem dX3_takeWord_36 : decode cX3_takeWord 36 = .ok (.aload_n 0, 1) := by decide +kernel
theorem dX3_takeWord_37 : decode cX3_takeWord 37 = .ok (.getfield 32, 3) := by decide +kernel
theorem dX3_takeWord_40 : decode cX3_takeWord 40 = .ok (.bipush 64, 2) := by decide +kernel
theorem dX3_takeWord_42 : decode cX3_takeWord 42 = .ok (.if_icmp .lt 8, 3) := by decide +kernel
theorem dX3_takeWord_45 : decode cX3_takeWord 45 = .ok (.aload_n 0, 1) := by decide +kernel
theorem dX3_takeWord_46 : decode cX3_takeWord 46 = .ok (.invokevirtual 93, 3) := by decide +kernel
theorem dX3_takeWord_49 : decode cX3_takeWord 49 = .ok (.ireturn, 1) := by decide +kernel
theorem dX3_takeWord_50 : decode cX3_takeWord 50 = .ok (.aload_n 0, 1) := by decide +kernel
theorem dX3_takeWord_51 : decode cX3_takeWord 51 = .ok (.getfield 47, 3) := by decide +kernel
theorem dX3_takeWord_54 : decode cX3_takeWord 54 = .ok (.invokevirtual 83, 3) := by decide +kernel
theorem dX3_takeWord_57 : decode cX3_takeWord 57 = .ok (.aload_n 0, 1) := by decide +kernel
theorem dX3_takeWord_58 : decode cX3_takeWord 58 = .ok (.getfield 11, 3) := by decide +kernel
theorem dX3_takeWord_61 : decode cX3_takeWord 61 = .ok (.aload_n 0, 1) := by decide +kernel
theorem dX3_takeWord_62 : decode cX3_takeWord 62 = .ok (.getfield 32, 3) := by decide +kernel
theorem dX3_takeWord_65 : decode cX3_takeWord 65 = .ok (.aload_n 2, 1) := by decide +kernel
theorem dX3_takeWord_66 : decode cX3_takeWord 66 = .ok (.aastore, 1) := by decide +kernel
theorem dX3_takeWord_67 : decode cX3_takeWord 67 = .ok (.aload_n 0, 1) := by decide +kernel
theorem dX3_takeWord_68 : decode cX3_takeWord 68 = .ok (.getfield 17, 3) := by decide +kernel
theorem dX3_takeWord_71 : decode cX3_takeWord 71 = .ok (.aload_n 0, 1) := by decide +kernel
theorem dX3_takeWord_72 : decode cX3_takeWord 72 = .ok (.getfield 32, 3) := by decide +kernel
theorem dX3_takeWord_75 : decode cX3_takeWord 75 = .ok (.iconst (-1), 1) := by decide +kernel
theorem dX3_takeWord_76 : decode cX3_takeWord 76 = .ok (.iastore, 1) := by decide +kernel
theorem dX3_takeWord_77 : decode cX3_takeWord 77 = .ok (.aload_n 2, 1) := by decide +kernel
theorem dX3_takeWord_78 : decode cX3_takeWord 78 = .ok (.getfield 129, 3) := by decide +kernel
theorem dX3_takeWord_81 : decode cX3_takeWord 81 = .ok (.iload_n 1, 1) := by decide +kernel
theorem dX3_takeWord_82 : decode cX3_takeWord 82 = .ok (.i2l, 1) := by decide +kernel
theorem dX3_takeWord_83 : decode cX3_takeWord 83 = .ok (.bipush 20, 2) := by decide +kernel
theorem dX3_takeWord_85 : decode cX3_takeWord 85 = .ok (.lshl, 1) := by decide +kernel
theorem dX3_takeWord_86 : decode cX3_takeWord 86 = .ok (.lor, 1) := by decide +kernel
theorem dX3_takeWord_87 : decode cX3_takeWord 87 = .ok (.lstore_n 3, 1) := by decide +kernel
theorem dX3_takeWord_88 : decode cX3_takeWord 88 = .ok (.iconst 0, 1) := by decide +kernel
theorem dX3_takeWord_89 : decode cX3_takeWord 89 = .ok (.istore 5, 2) := by decide +kernel
theorem dX3_takeWord_91 : decode cX3_takeWord 91 = .ok (.iload 5, 2) := by decide +kernel
theorem dX3_takeWord_93 : decode cX3_takeWord 93 = .ok (.aload_n 2, 1) := by decide +kernel
theorem dX3_takeWord_94 : decode cX3_takeWord 94 = .ok (.getfield 133, 3) := by decide +kernel
theorem dX3_takeWord_97 : decode cX3_takeWord 97 = .ok (.invokevirtual 137, 3) := by decide +kernel
theorem dX3_takeWord_100 : decode cX3_takeWord 100 = .ok (.if_icmp .ge 43, 3) := by decide +kernel
theorem dX3_takeWord_103 : decode cX3_takeWord 103 = .ok (.aload_n 0, 1) := by decide +kernel
theorem dX3_takeWord_104 : decode cX3_takeWord 104 = .ok (.aload_n 2, 1) := by decide +kernel
theorem dX3_takeWord_105 : decode cX3_takeWord 105 = .ok (.getfield 133, 3) := by decide +kernel
theorem dX3_takeWord_108 : decode cX3_takeWord 108 = .ok (.iload 5, 2) := by decide +kernel
theorem dX3_takeWord_110 : decode cX3_takeWord 110 = .ok (.invokevirtual 142, 3) := by decide +kernel
theorem dX3_takeWord_113 : decode cX3_takeWord 113 = .ok (.invokevirtual 146, 3) := by decide +kernel
theorem dX3_takeWord_116 : decode cX3_takeWord 116 = .ok (.lstore 6, 2) := by decide +kernel
theorem dX3_takeWord_118 : decode cX3_takeWord 118 = .ok (.lload 6, 2) := by decide +kernel
theorem dX3_takeWord_120 : decode cX3_takeWord 120 = .ok (.ldc2_w 150, 3) := by decide +kernel
theorem dX3_takeWord_123 : decode cX3_takeWord 123 = .ok (.lcmp, 1) := by decide +kernel
theorem dX3_takeWord_124 : decode cX3_takeWord 124 = .ok (.ifCond .ne 8, 3) := by decide +kernel
theorem dX3_takeWord_127 : decode cX3_takeWord 127 = .ok (.aload_n 0, 1) := by decide +kernel
theorem dX3_takeWord_128 : decode cX3_takeWord 128 = .ok (.invokevirtual 93, 3) := by decide +kernel
theorem dX3_takeWord_131 : decode cX3_takeWord 131 = .ok (.ireturn, 1) := by decide +kernel
theorem dX3_takeWord_132 : decode cX3_takeWord 132 = .ok (.lload_n 3, 1) := by decide +kernel
theorem dX3_takeWord_133 : decode cX3_takeWord 133 = .ok (.lload 6, 2) := by decide +kernel
theorem dX3_takeWord_135 : decode cX3_takeWord 135 = .ok (.lor, 1) := by decide +kernel
theorem dX3_takeWord_136 : decode cX3_takeWord 136 = .ok (.lstore_n 3, 1) := by decide +kernel
theorem dX3_takeWord_137 : decode cX3_takeWord 137 = .ok (.iinc 5 1, 3) := by decide +kernel
theorem dX3_takeWord_140 : decode cX3_takeWord 140 = .ok (.goto (-49), 3) := by decide +kernel
theorem dX3_takeWord_143 : decode cX3_takeWord 143 = .ok (.aload_n 0, 1) := by decide +kernel
theorem dX3_takeWord_144 : decode cX3_takeWord 144 = .ok (.getfield 28, 3) := by decide +kernel
theorem dX3_takeWord_147 : decode cX3_takeWord 147 = .ok (.aload_n 0, 1) := by decide +kernel
theorem dX3_takeWord_148 : decode cX3_takeWord 148 = .ok (.getfield 32, 3) := by decide +kernel
theorem dX3_takeWord_151 : decode cX3_takeWord 151 = .ok (.lload_n 3, 1) := by decide +kernel
theorem dX3_takeWord_152 : decode cX3_takeWord 152 = .ok (.lastore, 1) := by decide +kernel
theorem dX3_takeWord_153 : decode cX3_takeWord 153 = .ok (.aload_n 0, 1) := by decide +kernel
theorem dX3_takeWord_154 : decode cX3_takeWord 154 = .ok (.dup, 1) := by decide +kernel
theorem dX3_takeWord_155 : decode cX3_takeWord 155 = .ok (.getfield 32, 3) := by decide +kernel
theorem dX3_takeWord_158 : decode cX3_takeWord 158 = .ok (.iconst 1, 1) := by decide +kernel
theorem dX3_takeWord_159 : decode cX3_takeWord 159 = .ok (.iadd, 1) := by decide +kernel
theorem dX3_takeWord_160 : decode cX3_takeWord 160 = .ok (.putfield 32, 3) := by decide +kernel
theorem dX3_takeWord_163 : decode cX3_takeWord 163 = .ok (.iconst 1, 1) := by decide +kernel
theorem dX3_takeWord_164 : decode cX3_takeWord 164 = .ok (.ireturn, 1) := by decide +kernel
theorem dX3_refuseNoWord_0 : decode cX3_refuseNoWord 0 = .ok (.iload_n 1, 1) := by decide +kernel
theorem dX3_refuseNoWord_1 : decode cX3_refuseNoWord 1 = .ok (.ifCond .ne 33, 3) := by decide +kernel
theorem dX3_refuseNoWord_4 : decode cX3_refuseNoWord 4 = .ok (.aload_n 0, 1) := by decide +kernel
theorem dX3_refuseNoWord_5 : decode cX3_refuseNoWord 5 = .ok (.getfield 47, 3) := by decide +kernel
theorem dX3_refuseNoWord_8 : decode cX3_refuseNoWord 8 = .ok (.invokevirtual 55, 3) := by decide +kernel
theorem dX3_refuseNoWord_11 : decode cX3_refuseNoWord 11 = .ok (.iconst 1, 1) := by decide +kernel
theorem dX3_refuseNoWord_12 : decode cX3_refuseNoWord 12 = .ok (.if_icmp .ne 22, 3) := by decide +kernel
theorem dX3_refuseNoWord_15 : decode cX3_refuseNoWord 15 = .ok (.aload_n 0, 1) := by decide +kernel
theorem dX3_refuseNoWord_16 : decode cX3_refuseNoWord 16 = .ok (.getfield 47, 3) := by decide +kernel
theorem dX3_refuseNoWord_19 : decode cX3_refuseNoWord 19 = .ok (.invokevirtual 69, 3) := by decide +kernel
theorem dX3_refuseNoWord_22 : decode cX3_refuseNoWord 22 = .ok (.bipush 61, 2) := by decide +kernel
theorem dX3_refuseNoWord_24 : decode cX3_refuseNoWord 24 = .ok (.if_icmp .ne 10, 3) := by decide +kernel
theorem dX3_refuseNoWord_27 : decode cX3_refuseNoWord 27 = .ok (.aload_n 0, 1) := by decide +kernel
theorem dX3_refuseNoWord_28 : decode cX3_refuseNoWord 28 = .ok (.getfield 47, 3) := by decide +kernel
theorem dX3_refuseNoWord_31 : decode cX3_refuseNoWord 31 = .ok (.invokevirtual 83, 3) := by decide +kernel
theorem dX3_refuseNoWord_34 : decode cX3_refuseNoWord 34 = .ok (.aload_n 0, 1) := by decide +kernel
theorem dX3_refuseNoWord_35 : decode cX3_refuseNoWord 35 = .ok (.invokevirtual 93, 3) := by decide +kernel
theorem dX3_refuseNoWord_38 : decode cX3_refuseNoWord 38 = .ok (.ireturn, 1) := by decide +kernel
theorem dX3_takePart_0 : decode cX3_takePart 0 = .ok (.iload_n 1, 1) := by decide +kernel
theorem dX3_takePart_1 : decode cX3_takePart 1 = .ok (.bipush 110, 2) := by decide +kernel
theorem dX3_takePart_3 : decode cX3_takePart 3 = .ok (.if_icmp .eq 9, 3) := by decide +kernel
theorem dX3_takePart_6 : decode cX3_takePart 6 = .ok (.iload_n 1, 1) := by decide +kernel
theorem dX3_takePart_7 : decode cX3_takePart 7 = .ok (.bipush 116, 2) := by decide +kernel
theorem dX3_takePart_9 : decode cX3_takePart 9 = .ok (.if_icmp .ne 34, 3) := by decide +kernel
theorem dX3_takePart_12 : decode cX3_takePart 12 = .ok (.aload_n 0, 1) := by decide +kernel
theorem dX3_takePart_13 : decode cX3_takePart 13 = .ok (.getfield 17, 3) := by decide +kernel
theorem dX3_takePart_16 : decode cX3_takePart 16 = .ok (.aload_n 0, 1) := by decide +kernel
theorem dX3_takePart_17 : decode cX3_takePart 17 = .ok (.getfield 32, 3) := by decide +kernel
theorem dX3_takePart_20 : decode cX3_takePart 20 = .ok (.aload_n 0, 1) := by decide +kernel
theorem dX3_takePart_21 : decode cX3_takePart 21 = .ok (.getfield 47, 3) := by decide +kernel
theorem dX3_takePart_24 : decode cX3_takePart 24 = .ok (.invokevirtual 100, 3) := by decide +kernel
theorem dX3_takePart_27 : decode cX3_takePart 27 = .ok (.iastore, 1) := by decide +kernel
theorem dX3_takePart_28 : decode cX3_takePart 28 = .ok (.aload_n 0, 1) := by decide +kernel
theorem dX3_takePart_29 : decode cX3_takePart 29 = .ok (.invokevirtual 103, 3) := by decide +kernel
theorem dX3_takePart_32 : decode cX3_takePart 32 = .ok (.ifCond .eq 7, 3) := by decide +kernel
theorem dX3_takePart_35 : decode cX3_takePart 35 = .ok (.lconst 0, 1) := by decide +kernel
theorem dX3_takePart_36 : decode cX3_takePart 36 = .ok (.goto 6, 3) := by decide +kernel
theorem dX3_takePart_39 : decode cX3_takePart 39 = .ok (.ldc2_w 150, 3) := by decide +kernel
theorem dX3_takePart_42 : decode cX3_takePart 42 = .ok (.lreturn, 1) := by decide +kernel
theorem dX3_takePart_43 : decode cX3_takePart 43 = .ok (.lconst 0, 1) := by decide +kernel
theorem dX3_takePart_44 : decode cX3_takePart 44 = .ok (.lstore_n 2, 1) := by decide +kernel
theorem dX3_takePart_45 : decode cX3_takePart 45 = .ok (.iload_n 1, 1) := by decide +kernel
theorem dX3_takePart_46 : decode cX3_takePart 46 = .ok (.invokestatic 152, 3) := by decide +kernel
theorem dX3_takePart_49 : decode cX3_takePart 49 = .ok (.iconst (-1), 1) := by decide +kernel
theorem dX3_takePart_50 : decode cX3_takePart 50 = .ok (.if_icmp .eq 54, 3) := by decide +kernel
theorem dX3_takePart_53 : decode cX3_takePart 53 = .ok (.aload_n 0, 1) := by decide +kernel
theorem dX3_takePart_54 : decode cX3_takePart 54 = .ok (.getfield 47, 3) := by decide +kernel
theorem dX3_takePart_57 : decode cX3_takePart 57 = .ok (.iload_n 1, 1) := by decide +kernel
theorem dX3_takePart_58 : decode cX3_takePart 58 = .ok (.invokestatic 156, 3) := by decide +kernel
theorem dX3_takePart_61 : decode cX3_takePart 61 = .ok (.ifCond .eq 8, 3) := by decide +kernel
theorem dX3_takePart_64 : decode cX3_takePart 64 = .ok (.bipush 114, 2) := by decide +kernel
theorem dX3_takePart_66 : decode cX3_takePart 66 = .ok (.goto 5, 3) := by decide +kernel
theorem dX3_takePart_69 : decode cX3_takePart 69 = .ok (.bipush 112, 2) := by decide +kernel
theorem dX3_takePart_71 : decode cX3_takePart 71 = .ok (.iload_n 1, 1) := by decide +kernel
theorem dX3_takePart_72 : decode cX3_takePart 72 = .ok (.invokestatic 159, 3) := by decide +kernel
theorem dX3_takePart_75 : decode cX3_takePart 75 = .ok (.invokevirtual 118, 3) := by decide +kernel
theorem dX3_takePart_78 : decode cX3_takePart 78 = .ok (.istore 4, 2) := by decide +kernel
theorem dX3_takePart_80 : decode cX3_takePart 80 = .ok (.iload 4, 2) := by decide +kernel
theorem dX3_takePart_82 : decode cX3_takePart 82 = .ok (.iconst (-1), 1) := by decide +kernel
theorem dX3_takePart_83 : decode cX3_takePart 83 = .ok (.if_icmp .ne 9, 3) := by decide +kernel
theorem dX3_takePart_86 : decode cX3_takePart 86 = .ok (.ldc2_w 150, 3) := by decide +kernel
theorem dX3_takePart_89 : decode cX3_takePart 89 = .ok (.goto 11, 3) := by decide +kernel
theorem dX3_takePart_92 : decode cX3_takePart 92 = .ok (.iload 4, 2) := by decide +kernel
theorem dX3_takePart_94 : decode cX3_takePart 94 = .ok (.i2l, 1) := by decide +kernel
theorem dX3_takePart_95 : decode cX3_takePart 95 = .ok (.iload_n 1, 1) := by decide +kernel
theorem dX3_takePart_96 : decode cX3_takePart 96 = .ok (.invokestatic 152, 3) := by decide +kernel
theorem dX3_takePart_99 : decode cX3_takePart 99 = .ok (.lshl, 1) := by decide +kernel
theorem dX3_takePart_100 : decode cX3_takePart 100 = .ok (.lstore_n 2, 1) := by decide +kernel
theorem dX3_takePart_101 : decode cX3_takePart 101 = .ok (.goto 18, 3) := by decide +kernel
theorem dX3_takePart_104 : decode cX3_takePart 104 = .ok (.aload_n 0, 1) := by decide +kernel
theorem dX3_takePart_105 : decode cX3_takePart 105 = .ok (.getfield 47, 3) := by decide +kernel
theorem dX3_takePart_108 : decode cX3_takePart 108 = .ok (.invokevirtual 55, 3) := by decide +kernel
theorem dX3_takePart_111 : decode cX3_takePart 111 = .ok (.iload_n 1, 1) := by decide +kernel
theorem dX3_takePart_112 : decode cX3_takePart 112 = .ok (.if_icmp .eq 7, 3) := by decide +kernel
theorem dX3_takePart_115 : decode cX3_takePart 115 = .ok (.ldc2_w 150, 3) := by decide +kernel
theorem dX3_takePart_118 : decode cX3_takePart 118 = .ok (.lstore_n 2, 1) := by decide +kernel
theorem dX3_takePart_119 : decode cX3_takePart 119 = .ok (.lload_n 2, 1) := by decide +kernel
theorem dX3_takePart_120 : decode cX3_takePart 120 = .ok (.ldc2_w 150, 3) := by decide +kernel
theorem dX3_takePart_123 : decode cX3_takePart 123 = .ok (.lcmp, 1) := by decide +kernel
theorem dX3_takePart_124 : decode cX3_takePart 124 = .ok (.ifCond .eq 10, 3) := by decide +kernel
theorem dX3_takePart_127 : decode cX3_takePart 127 = .ok (.aload_n 0, 1) := by decide +kernel
theorem dX3_takePart_128 : decode cX3_takePart 128 = .ok (.getfield 47, 3) := by decide +kernel
theorem dX3_takePart_131 : decode cX3_takePart 131 = .ok (.invokevirtual 83, 3) := by decide +kernel
theorem dX3_takePart_134 : decode cX3_takePart 134 = .ok (.lload_n 2, 1) := by decide +kernel
theorem dX3_takePart_135 : decode cX3_takePart 135 = .ok (.lreturn, 1) := by decide +kernel
theorem dX3_passAmount_0 : decode cX3_passAmount 0 = .ok (.aload_n 0, 1) := by decide +kernel
theorem dX3_passAmount_1 : decode cX3_passAmount 1 = .ok (.getfield 47, 3) := by decide +kernel
theorem dX3_passAmount_4 : decode cX3_passAmount 4 = .ok (.invokevirtual 55, 3) := by decide +kernel
theorem dX3_passAmount_7 : decode cX3_passAmount 7 = .ok (.bipush 45, 2) := by decide +kernel
theorem dX3_passAmount_9 : decode cX3_passAmount 9 = .ok (.if_icmp .ne 10, 3) := by decide +kernel
theorem dX3_passAmount_12 : decode cX3_passAmount 12 = .ok (.aload_n 0, 1) := by decide +kernel
theorem dX3_passAmount_13 : decode cX3_passAmount 13 = .ok (.getfield 47, 3) := by decide +kernel
theorem dX3_passAmount_16 : decode cX3_passAmount 16 = .ok (.invokevirtual 83, 3) := by decide +kernel
theorem dX3_passAmount_19 : decode cX3_passAmount 19 = .ok (.aload_n 0, 1) := by decide +kernel
theorem dX3_passAmount_20 : decode cX3_passAmount 20 = .ok (.getfield 47, 3) := by decide +kernel
theorem dX3_passAmount_23 : decode cX3_passAmount 23 = .ok (.invokevirtual 55, 3) := by decide +kernel
theorem dX3_passAmount_26 : decode cX3_passAmount 26 = .ok (.iconst 1, 1) := by decide +kernel
theorem dX3_passAmount_27 : decode cX3_passAmount 27 = .ok (.if_icmp .eq 16, 3) := by decide +kernel
theorem dX3_passAmount_30 : decode cX3_passAmount 30 = .ok (.aload_n 0, 1) := by decide +kernel
theorem dX3_passAmount_31 : decode cX3_passAmount 31 = .ok (.getfield 47, 3) := by decide +kernel
theorem dX3_passAmount_34 : decode cX3_passAmount 34 = .ok (.invokevirtual 55, 3) := by decide +kernel
theorem dX3_passAmount_37 : decode cX3_passAmount 37 = .ok (.iconst 2, 1) := by decide +kernel
theorem dX3_passAmount_38 : decode cX3_passAmount 38 = .ok (.if_icmp .eq 5, 3) := by decide +kernel
theorem dX3_passAmount_41 : decode cX3_passAmount 41 = .ok (.iconst 0, 1) := by decide +kernel
theorem dX3_passAmount_42 : decode cX3_passAmount 42 = .ok (.ireturn, 1) := by decide +kernel
theorem dX3_passAmount_43 : decode cX3_passAmount 43 = .ok (.aload_n 0, 1) := by decide +kernel
theorem dX3_passAmount_44 : decode cX3_passAmount 44 = .ok (.getfield 47, 3) := by decide +kernel
theorem dX3_passAmount_47 : decode cX3_passAmount 47 = .ok (.invokevirtual 83, 3) := by decide +kernel
theorem dX3_passAmount_50 : decode cX3_passAmount 50 = .ok (.iconst 1, 1) := by decide +kernel
theorem dX3_passAmount_51 : decode cX3_passAmount 51 = .ok (.ireturn, 1) := by decide +kernel
theorem dX3_amountAt_0 : decode cX3_amountAt 0 = .ok (.aload_n 0, 1) := by decide +kernel
theorem dX3_amountAt_1 : decode cX3_amountAt 1 = .ok (.getfield 47, 3) := by decide +kernel
theorem dX3_amountAt_4 : decode cX3_amountAt 4 = .ok (.iload_n 1, 1) := by decide +kernel
theorem dX3_amountAt_5 : decode cX3_amountAt 5 = .ok (.invokevirtual 162, 3) := by decide +kernel
theorem dX3_amountAt_8 : decode cX3_amountAt 8 = .ok (.aload_n 0, 1) := by decide +kernel
theorem dX3_amountAt_9 : decode cX3_amountAt 9 = .ok (.getfield 47, 3) := by decide +kernel
theorem dX3_amountAt_12 : decode cX3_amountAt 12 = .ok (.invokevirtual 66, 3) := by decide +kernel
theorem dX3_amountAt_15 : decode cX3_amountAt 15 = .ok (.istore_n 3, 1) := by decide +kernel
theorem dX3_amountAt_16 : decode cX3_amountAt 16 = .ok (.aload_n 0, 1) := by decide +kernel
theorem dX3_amountAt_17 : decode cX3_amountAt 17 = .ok (.getfield 47, 3) := by decide +kernel
theorem dX3_amountAt_20 : decode cX3_amountAt 20 = .ok (.invokevirtual 55, 3) := by decide +kernel
theorem dX3_amountAt_23 : decode cX3_amountAt 23 = .ok (.bipush 45, 2) := by decide +kernel
theorem dX3_amountAt_25 : decode cX3_amountAt 25 = .ok (.if_icmp .ne 7, 3) := by decide +kernel
theorem dX3_amountAt_28 : decode cX3_amountAt 28 = .ok (.iconst 1, 1) := by decide +kernel
theorem dX3_amountAt_29 : decode cX3_amountAt 29 = .ok (.goto 4, 3) := by decide +kernel
theorem dX3_amountAt_32 : decode cX3_amountAt 32 = .ok (.iconst 0, 1) := by decide +kernel
theorem dX3_amountAt_33 : decode cX3_amountAt 33 = .ok (.istore 4, 2) := by decide +kernel
theorem dX3_amountAt_35 : decode cX3_amountAt 35 = .ok (.iload 4, 2) := by decide +kernel
theorem dX3_amountAt_37 : decode cX3_amountAt 37 = .ok (.ifCond .eq 10, 3) := by decide +kernel
theorem dX3_amountAt_40 : decode cX3_amountAt 40 = .ok (.aload_n 0, 1) := by decide +kernel
theorem dX3_amountAt_41 : decode cX3_amountAt 41 = .ok (.getfield 47, 3) := by decide +kernel
theorem dX3_amountAt_44 : decode cX3_amountAt 44 = .ok (.invokevirtual 83, 3) := by decide +kernel
theorem dX3_amountAt_47 : decode cX3_amountAt 47 = .ok (.aload_n 0, 1) := by decide +kernel
theorem dX3_amountAt_48 : decode cX3_amountAt 48 = .ok (.getfield 47, 3) := by decide +kernel
theorem dX3_amountAt_51 : decode cX3_amountAt 51 = .ok (.invokevirtual 55, 3) := by decide +kernel
theorem dX3_amountAt_54 : decode cX3_amountAt 54 = .ok (.iconst 1, 1) := by decide +kernel
theorem dX3_amountAt_55 : decode cX3_amountAt 55 = .ok (.if_icmp .ne 10, 3) := by decide +kernel
theorem dX3_amountAt_58 : decode cX3_amountAt 58 = .ok (.aload_n 0, 1) := by decide +kernel
theorem dX3_amountAt_59 : decode cX3_amountAt 59 = .ok (.invokevirtual 166, 3) := by decide +kernel
theorem dX3_amountAt_62 : decode cX3_amountAt 62 = .ok (.goto 10, 3) := by decide +kernel
theorem dX3_amountAt_65 : decode cX3_amountAt 65 = .ok (.aload_n 0, 1) := by decide +kernel
theorem dX3_amountAt_66 : decode cX3_amountAt 66 = .ok (.getfield 47, 3) := by decide +kernel
theorem dX3_amountAt_69 : decode cX3_amountAt 69 = .ok (.invokevirtual 75, 3) := by decide +kernel
theorem dX3_amountAt_72 : decode cX3_amountAt 72 = .ok (.lstore 5, 2) := by decide +kernel
theorem dX3_amountAt_74 : decode cX3_amountAt 74 = .ok (.aload_n 0, 1) := by decide +kernel
theorem dX3_amountAt_75 : decode cX3_amountAt 75 = .ok (.getfield 47, 3) := by decide +kernel
theorem dX3_amountAt_78 : decode cX3_amountAt 78 = .ok (.invokevirtual 83, 3) := by decide +kernel
theorem dX3_amountAt_81 : decode cX3_amountAt 81 = .ok (.iload 4, 2) := by decide +kernel
theorem dX3_amountAt_83 : decode cX3_amountAt 83 = .ok (.ifCond .eq 8, 3) := by decide +kernel
theorem dX3_amountAt_86 : decode cX3_amountAt 86 = .ok (.lload 5, 2) := by decide +kernel
theorem dX3_amountAt_88 : decode cX3_amountAt 88 = .ok (.lneg, 1) := by decide +kernel
theorem dX3_amountAt_89 : decode cX3_amountAt 89 = .ok (.lstore 5, 2) := by decide +kernel
theorem dX3_amountAt_91 : decode cX3_amountAt 91 = .ok (.lload 5, 2) := by decide +kernel
theorem dX3_amountAt_93 : decode cX3_amountAt 93 = .ok (.iload_n 2, 1) := by decide +kernel
theorem dX3_amountAt_94 : decode cX3_amountAt 94 = .ok (.invokestatic 169, 3) := by decide +kernel
theorem dX3_amountAt_97 : decode cX3_amountAt 97 = .ok (.i2l, 1) := by decide +kernel
theorem dX3_amountAt_98 : decode cX3_amountAt 98 = .ok (.lcmp, 1) := by decide +kernel
theorem dX3_amountAt_99 : decode cX3_amountAt 99 = .ok (.ifCond .lt 14, 3) := by decide +kernel
theorem dX3_amountAt_102 : decode cX3_amountAt 102 = .ok (.lload 5, 2) := by decide +kernel
theorem dX3_amountAt_104 : decode cX3_amountAt 104 = .ok (.iload_n 2, 1) := by decide +kernel
theorem dX3_amountAt_105 : decode cX3_amountAt 105 = .ok (.invokestatic 159, 3) := by decide +kernel
theorem dX3_amountAt_108 : decode cX3_amountAt 108 = .ok (.i2l, 1) := by decide +kernel
theorem dX3_amountAt_109 : decode cX3_amountAt 109 = .ok (.lcmp, 1) := by decide +kernel
theorem dX3_amountAt_110 : decode cX3_amountAt 110 = .ok (.ifCond .le 9, 3) := by decide +kernel
theorem dX3_amountAt_113 : decode cX3_amountAt 113 = .ok (.aload_n 0, 1) := by decide +kernel
theorem dX3_amountAt_114 : decode cX3_amountAt 114 = .ok (.iconst 3, 1) := by decide +kernel
theorem dX3_amountAt_115 : decode cX3_amountAt 115 = .ok (.iload_n 3, 1) := by decide +kernel
theorem dX3_amountAt_116 : decode cX3_amountAt 116 = .ok (.invokevirtual 114, 3) := by decide +kernel
theorem dX3_amountAt_119 : decode cX3_amountAt 119 = .ok (.lload 5, 2) := by decide +kernel
theorem dX3_amountAt_121 : decode cX3_amountAt 121 = .ok (.lreturn, 1) := by decide +kernel
theorem dX3_valueOfName_0 : decode cX3_valueOfName 0 = .ok (.aload_n 0, 1) := by decide +kernel
theorem dX3_valueOfName_1 : decode cX3_valueOfName 1 = .ok (.getfield 24, 3) := by decide +kernel
theorem dX3_valueOfName_4 : decode cX3_valueOfName 4 = .ok (.aload_n 0, 1) := by decide +kernel
theorem dX3_valueOfName_5 : decode cX3_valueOfName 5 = .ok (.getfield 47, 3) := by decide +kernel
theorem dX3_valueOfName_8 : decode cX3_valueOfName 8 = .ok (.invokevirtual 75, 3) := by decide +kernel
theorem dX3_valueOfName_11 : decode cX3_valueOfName 11 = .ok (.invokevirtual 172, 3) := by decide +kernel
theorem dX3_valueOfName_14 : decode cX3_valueOfName 14 = .ok (.istore_n 1, 1) := by decide +kernel
theorem dX3_valueOfName_15 : decode cX3_valueOfName 15 = .ok (.iload_n 1, 1) := by decide +kernel
theorem dX3_valueOfName_16 : decode cX3_valueOfName 16 = .ok (.iconst (-1), 1) := by decide +kernel
theorem dX3_valueOfName_17 : decode cX3_valueOfName 17 = .ok (.if_icmp .ne 17, 3) := by decide +kernel
theorem dX3_valueOfName_20 : decode cX3_valueOfName 20 = .ok (.aload_n 0, 1) := by decide +kernel
theorem dX3_valueOfName_21 : decode cX3_valueOfName 21 = .ok (.iconst 2, 1) := by decide +kernel
theorem dX3_valueOfName_22 : decode cX3_valueOfName 22 = .ok (.aload_n 0, 1) := by decide +kernel
theorem dX3_valueOfName_23 : decode cX3_valueOfName 23 = .ok (.getfield 47, 3) := by decide +kernel
theorem dX3_valueOfName_26 : decode cX3_valueOfName 26 = .ok (.invokevirtual 66, 3) := by decide +kernel
theorem dX3_valueOfName_29 : decode cX3_valueOfName 29 = .ok (.invokevirtual 114, 3) := by decide +kernel
theorem dX3_valueOfName_32 : decode cX3_valueOfName 32 = .ok (.lconst 0, 1) := by decide +kernel
theorem dX3_valueOfName_33 : decode cX3_valueOfName 33 = .ok (.lreturn, 1) := by decide +kernel
theorem dX3_valueOfName_34 : decode cX3_valueOfName 34 = .ok (.aload_n 0, 1) := by decide +kernel
theorem dX3_valueOfName_35 : decode cX3_valueOfName 35 = .ok (.getfield 24, 3) := by decide +kernel
theorem dX3_valueOfName_38 : decode cX3_valueOfName 38 = .ok (.getfield 176, 3) := by decide +kernel
theorem dX3_valueOfName_41 : decode cX3_valueOfName 41 = .ok (.iload_n 1, 1) := by decide +kernel
theorem dX3_valueOfName_42 : decode cX3_valueOfName 42 = .ok (.laload, 1) := by decide +kernel
theorem dX3_valueOfName_43 : decode cX3_valueOfName 43 = .ok (.lreturn, 1) := by decide +kernel
theorem dX3_fillAmounts_0 : decode cX3_fillAmounts 0 = .ok (.iconst 0, 1) := by decide +kernel
theorem dX3_fillAmounts_1 : decode cX3_fillAmounts 1 = .ok (.istore_n 1, 1) := by decide +kernel
theorem dX3_fillAmounts_2 : decode cX3_fillAmounts 2 = .ok (.iload_n 1, 1) := by decide +kernel
theorem dX3_fillAmounts_3 : decode cX3_fillAmounts 3 = .ok (.aload_n 0, 1) := by decide +kernel
theorem dX3_fillAmounts_4 : decode cX3_fillAmounts 4 = .ok (.getfield 32, 3) := by decide +kernel
theorem dX3_fillAmounts_7 : decode cX3_fillAmounts 7 = .ok (.if_icmp .ge 59, 3) := by decide +kernel
theorem dX3_fillAmounts_10 : decode cX3_fillAmounts 10 = .ok (.aload_n 0, 1) := by decide +kernel
theorem dX3_fillAmounts_11 : decode cX3_fillAmounts 11 = .ok (.getfield 17, 3) := by decide +kernel
theorem dX3_fillAmounts_14 : decode cX3_fillAmounts 14 = .ok (.iload_n 1, 1) := by decide +kernel
theorem dX3_fillAmounts_15 : decode cX3_fillAmounts 15 = .ok (.iaload, 1) := by decide +kernel
theorem dX3_fillAmounts_16 : decode cX3_fillAmounts 16 = .ok (.iconst (-1), 1) := by decide +kernel
theorem dX3_fillAmounts_17 : decode cX3_fillAmounts 17 = .ok (.if_icmp .eq 43, 3) := by decide +kernel
theorem dX3_fillAmounts_20 : decode cX3_fillAmounts 20 = .ok (.aload_n 0, 1) := by decide +kernel
theorem dX3_fillAmounts_21 : decode cX3_fillAmounts 21 = .ok (.getfield 11, 3) := by decide +kernel
theorem dX3_fillAmounts_24 : decode cX3_fillAmounts 24 = .ok (.iload_n 1, 1) := by decide +kernel
theorem dX3_fillAmounts_25 : decode cX3_fillAmounts 25 = .ok (.aaload, 1) := by decide +kernel
theorem dX3_fillAmounts_26 : decode cX3_fillAmounts 26 = .ok (.ifnull 34, 3) := by decide +kernel
theorem dX3_fillAmounts_29 : decode cX3_fillAmounts 29 = .ok (.aload_n 0, 1) := by decide +kernel
theorem dX3_fillAmounts_30 : decode cX3_fillAmounts 30 = .ok (.getfield 28, 3) := by decide +kernel
theorem dX3_fillAmounts_33 : decode cX3_fillAmounts 33 = .ok (.iload_n 1, 1) := by decide +kernel
theorem dX3_fillAmounts_34 : decode cX3_fillAmounts 34 = .ok (.dup2, 1) := by decide +kernel
theorem dX3_fillAmounts_35 : decode cX3_fillAmounts 35 = .ok (.laload, 1) := by decide +kernel
theorem dX3_fillAmounts_36 : decode cX3_fillAmounts 36 = .ok (.aload_n 0, 1) := by decide +kernel
theorem dX3_fillAmounts_37 : decode cX3_fillAmounts 37 = .ok (.aload_n 0, 1) := by decide +kernel
theorem dX3_fillAmounts_38 : decode cX3_fillAmounts 38 = .ok (.getfield 17, 3) := by decide +kernel
theorem dX3_fillAmounts_41 : decode cX3_fillAmounts 41 = .ok (.iload_n 1, 1) := by decide +kernel
theorem dX3_fillAmounts_42 : decode cX3_fillAmounts 42 = .ok (.iaload, 1) := by decide +kernel
theorem dX3_fillAmounts_43 : decode cX3_fillAmounts 43 = .ok (.aload_n 0, 1) := by decide +kernel
theorem dX3_fillAmounts_44 : decode cX3_fillAmounts 44 = .ok (.getfield 11, 3) := by decide +kernel
theorem dX3_fillAmounts_47 : decode cX3_fillAmounts 47 = .ok (.iload_n 1, 1) := by decide +kernel
theorem dX3_fillAmounts_48 : decode cX3_fillAmounts 48 = .ok (.aaload, 1) := by decide +kernel
theorem dX3_fillAmounts_49 : decode cX3_fillAmounts 49 = .ok (.invokevirtual 179, 3) := by decide +kernel
theorem dX3_fillAmounts_52 : decode cX3_fillAmounts 52 = .ok (.invokevirtual 106, 3) := by decide +kernel
theorem dX3_fillAmounts_55 : decode cX3_fillAmounts 55 = .ok (.bipush 32, 2) := by decide +kernel
theorem dX3_fillAmounts_57 : decode cX3_fillAmounts 57 = .ok (.lshl, 1) := by decide +kernel
theorem dX3_fillAmounts_58 : decode cX3_fillAmounts 58 = .ok (.lor, 1) := by decide +kernel
theorem dX3_fillAmounts_59 : decode cX3_fillAmounts 59 = .ok (.lastore, 1) := by decide +kernel
theorem dX3_fillAmounts_60 : decode cX3_fillAmounts 60 = .ok (.iinc 1 1, 3) := by decide +kernel
theorem dX3_fillAmounts_63 : decode cX3_fillAmounts 63 = .ok (.goto (-61), 3) := by decide +kernel
theorem dX3_fillAmounts_66 : decode cX3_fillAmounts 66 = .ok (.return_, 1) := by decide +kernel
theorem dX4_init_0 : decode cX4_init 0 = .ok (.aload_n 0, 1) := by decide +kernel
theorem dX4_init_1 : decode cX4_init 1 = .ok (.invokespecial 3, 3) := by decide +kernel
theorem dX4_init_4 : decode cX4_init 4 = .ok (.aload_n 0, 1) := by decide +kernel
theorem dX4_init_5 : decode cX4_init 5 = .ok (.new 9, 3) := by decide +kernel
theorem dX4_init_8 : decode cX4_init 8 = .ok (.dup, 1) := by decide +kernel
theorem dX4_init_9 : decode cX4_init 9 = .ok (.invokespecial 11, 3) := by decide +kernel
theorem dX4_init_12 : decode cX4_init 12 = .ok (.putfield 12, 3) := by decide +kernel
theorem dX4_init_15 : decode cX4_init 15 = .ok (.return_, 1) := by decide +kernel
theorem dX4_letterOf_0 : decode cX4_letterOf 0 = .ok (.aload_n 0, 1) := by decide +kernel
theorem dX4_letterOf_1 : decode cX4_letterOf 1 = .ok (.getfield 12, 3) := by decide +kernel
theorem dX4_letterOf_4 : decode cX4_letterOf 4 = .ok (.iconst 0, 1) := by decide +kernel
theorem dX4_letterOf_5 : decode cX4_letterOf 5 = .ok (.invokevirtual 18, 3) := by decide +kernel
theorem dX4_letterOf_8 : decode cX4_letterOf 8 = .ok (.aload_n 1, 1) := by decide +kernel
theorem dX4_letterOf_9 : decode cX4_letterOf 9 = .ok (.ifnonnull 16, 3) := by decide +kernel
theorem dX4_letterOf_12 : decode cX4_letterOf 12 = .ok (.aload_n 0, 1) := by decide +kernel
theorem dX4_letterOf_13 : decode cX4_letterOf 13 = .ok (.getfield 12, 3) := by decide +kernel
theorem dX4_letterOf_16 : decode cX4_letterOf 16 = .ok (.bipush 63, 2) := by decide +kernel
theorem dX4_letterOf_18 : decode cX4_letterOf 18 = .ok (.invokevirtual 22, 3) := by decide +kernel
theorem dX4_letterOf_21 : decode cX4_letterOf 21 = .ok (.pop, 1) := by decide +kernel
theorem dX4_letterOf_22 : decode cX4_letterOf 22 = .ok (.goto 29, 3) := by decide +kernel
theorem dX4_letterOf_25 : decode cX4_letterOf 25 = .ok (.aload_n 0, 1) := by decide +kernel
theorem dX4_letterOf_26 : decode cX4_letterOf 26 = .ok (.lload_n 2, 1) := by decide +kernel
theorem dX4_letterOf_27 : decode cX4_letterOf 27 = .ok (.invokestatic 26, 3) := by decide +kernel
theorem dX4_letterOf_30 : decode cX4_letterOf 30 = .ok (.invokevirtual 32, 3) := by decide +kernel
theorem dX4_letterOf_33 : decode cX4_letterOf 33 = .ok (.aload_n 0, 1) := by decide +kernel
theorem dX4_letterOf_34 : decode cX4_letterOf 34 = .ok (.getfield 12, 3) := by decide +kernel
theorem dX4_letterOf_37 : decode cX4_letterOf 37 = .ok (.aload_n 1, 1) := by decide +kernel
theorem dX4_letterOf_38 : decode cX4_letterOf 38 = .ok (.getfield 35, 3) := by decide +kernel
theorem dX4_letterOf_41 : decode cX4_letterOf 41 = .ok (.invokevirtual 38, 3) := by decide +kernel
theorem dX4_letterOf_44 : decode cX4_letterOf 44 = .ok (.pop, 1) := by decide +kernel
theorem dX4_letterOf_45 : decode cX4_letterOf 45 = .ok (.aload_n 0, 1) := by decide +kernel
theorem dX4_letterOf_46 : decode cX4_letterOf 46 = .ok (.aload_n 1, 1) := by decide +kernel
theorem dX4_letterOf_47 : decode cX4_letterOf 47 = .ok (.lload_n 2, 1) := by decide +kernel
theorem dX4_letterOf_48 : decode cX4_letterOf 48 = .ok (.invokevirtual 41, 3) := by decide +kernel
theorem dX4_letterOf_51 : decode cX4_letterOf 51 = .ok (.aload_n 0, 1) := by decide +kernel
theorem dX4_letterOf_52 : decode cX4_letterOf 52 = .ok (.getfield 12, 3) := by decide +kernel
theorem dX4_letterOf_55 : decode cX4_letterOf 55 = .ok (.bipush 59, 2) := by decide +kernel
theorem dX4_letterOf_57 : decode cX4_letterOf 57 = .ok (.invokevirtual 22, 3) := by decide +kernel
theorem dX4_letterOf_60 : decode cX4_letterOf 60 = .ok (.pop, 1) := by decide +kernel
theorem dX4_letterOf_61 : decode cX4_letterOf 61 = .ok (.iload 4, 2) := by decide +kernel
theorem dX4_letterOf_63 : decode cX4_letterOf 63 = .ok (.ifCond .lt 27, 3) := by decide +kernel
theorem dX4_letterOf_66 : decode cX4_letterOf 66 = .ok (.iload 4, 2) := by decide +kernel
theorem dX4_letterOf_68 : decode cX4_letterOf 68 = .ok (.aload_n 0, 1) := by decide +kernel
theorem dX4_letterOf_69 : decode cX4_letterOf 69 = .ok (.getfield 12, 3) := by decide +kernel
theorem dX4_letterOf_72 : decode cX4_letterOf 72 = .ok (.invokevirtual 45, 3) := by decide +kernel
theorem dX4_letterOf_75 : decode cX4_letterOf 75 = .ok (.if_icmp .ge 15, 3) := by decide +kernel
theorem dX4_letterOf_78 : decode cX4_letterOf 78 = .ok (.aload_n 0, 1) := by decide +kernel
theorem dX4_letterOf_79 : decode cX4_letterOf 79 = .ok (.getfield 12, 3) := by decide +kernel
theorem dX4_letterOf_82 : decode cX4_letterOf 82 = .ok (.iload 4, 2) := by decide +kernel
theorem dX4_letterOf_84 : decode cX4_letterOf 84 = .ok (.invokevirtual 49, 3) := by decide +kernel
theorem dX4_letterOf_87 : decode cX4_letterOf 87 = .ok (.goto 4, 3) := by decide +kernel
theorem dX4_letterOf_90 : decode cX4_letterOf 90 = .ok (.iconst (-1), 1) := by decide +kernel
theorem dX4_letterOf_91 : decode cX4_letterOf 91 = .ok (.ireturn, 1) := by decide +kernel
theorem dX4_spellGuard_0 : decode cX4_spellGuard 0 = .ok (.iload_n 1, 1) := by decide +kernel
theorem dX4_spellGuard_1 : decode cX4_spellGuard 1 = .ok (.ifCond .ne 4, 3) := by decide +kernel
theorem dX4_spellGuard_4 : decode cX4_spellGuard 4 = .ok (.return_, 1) := by decide +kernel
theorem dX4_spellGuard_5 : decode cX4_spellGuard 5 = .ok (.aload_n 0, 1) := by decide +kernel
theorem dX4_spellGuard_6 : decode cX4_spellGuard 6 = .ok (.getfield 12, 3) := by decide +kernel
theorem dX4_spellGuard_9 : decode cX4_spellGuard 9 = .ok (.bipush 64, 2) := by decide +kernel
theorem dX4_spellGuard_11 : decode cX4_spellGuard 11 = .ok (.invokevirtual 22, 3) := by decide +kernel
theorem dX4_spellGuard_14 : decode cX4_spellGuard 14 = .ok (.pop, 1) := by decide +kernel
theorem dX4_spellGuard_15 : decode cX4_spellGuard 15 = .ok (.iload_n 1, 1) := by decide +kernel
theorem dX4_spellGuard_16 : decode cX4_spellGuard 16 = .ok (.bipush 12, 2) := by decide +kernel
theorem dX4_spellGuard_18 : decode cX4_spellGuard 18 = .ok (.if_icmp .lt 13, 3) := by decide +kernel
theorem dX4_spellGuard_21 : decode cX4_spellGuard 21 = .ok (.aload_n 0, 1) := by decide +kernel
theorem dX4_spellGuard_22 : decode cX4_spellGuard 22 = .ok (.getfield 12, 3) := by decide +kernel
theorem dX4_spellGuard_25 : decode cX4_spellGuard 25 = .ok (.bipush 33, 2) := by decide +kernel
theorem dX4_spellGuard_27 : decode cX4_spellGuard 27 = .ok (.invokevirtual 22, 3) := by decide +kernel
theorem dX4_spellGuard_30 : decode cX4_spellGuard 30 = .ok (.pop, 1) := by decide +kernel
theorem dX4_spellGuard_31 : decode cX4_spellGuard 31 = .ok (.aload_n 0, 1) := by decide +kernel
theorem dX4_spellGuard_32 : decode cX4_spellGuard 32 = .ok (.getfield 12, 3) := by decide +kernel
theorem dX4_spellGuard_35 : decode cX4_spellGuard 35 = .ok (.bipush 112, 2) := by decide +kernel
theorem dX4_spellGuard_37 : decode cX4_spellGuard 37 = .ok (.invokevirtual 22, 3) := by decide +kernel
theorem dX4_spellGuard_40 : decode cX4_spellGuard 40 = .ok (.pop, 1) := by decide +kernel
theorem dX4_spellGuard_41 : decode cX4_spellGuard 41 = .ok (.aload_n 0, 1) := by decide +kernel
theorem dX4_spellGuard_42 : decode cX4_spellGuard 42 = .ok (.getfield 12, 3) := by decide +kernel
theorem dX4_spellGuard_45 : decode cX4_spellGuard 45 = .ok (.iload_n 1, 1) := by decide +kernel
theorem dX4_spellGuard_46 : decode cX4_spellGuard 46 = .ok (.iconst 4, 1) := by decide +kernel
theorem dX4_spellGuard_47 : decode cX4_spellGuard 47 = .ok (.irem, 1) := by decide +kernel
theorem dX4_spellGuard_48 : decode cX4_spellGuard 48 = .ok (.invokevirtual 53, 3) := by decide +kernel
theorem dX4_spellGuard_51 : decode cX4_spellGuard 51 = .ok (.pop, 1) := by decide +kernel
theorem dX4_spellGuard_52 : decode cX4_spellGuard 52 = .ok (.aload_n 0, 1) := by decide +kernel
theorem dX4_spellGuard_53 : decode cX4_spellGuard 53 = .ok (.getfield 12, 3) := by decide +kernel
theorem dX4_spellGuard_56 : decode cX4_spellGuard 56 = .ok (.bipush 32, 2) := by decide +kernel
theorem dX4_spellGuard_58 : decode cX4_spellGuard 58 = .ok (.invokevirtual 22, 3) := by decide +kernel
theorem dX4_spellGuard_61 : decode cX4_spellGuard 61 = .ok (.pop, 1) := by decide +kernel
theorem dX4_spellGuard_62 : decode cX4_spellGuard 62 = .ok (.return_, 1) := by decide +kernel
theorem dX4_spellParts_0 : decode cX4_spellParts 0 = .ok (.aload_n 1, 1) := by decide +kernel
theorem dX4_spellParts_1 : decode cX4_spellParts 1 = .ok (.getfield 56, 3) := by decide +kernel
theorem dX4_spellParts_4 : decode cX4_spellParts 4 = .ok (.invokevirtual 59, 3) := by decide +kernel
theorem dX4_spellParts_7 : decode cX4_spellParts 7 = .ok (.ifCond .ne 13, 3) := by decide +kernel
theorem dX4_spellParts_10 : decode cX4_spellParts 10 = .ok (.aload_n 0, 1) := by decide +kernel
theorem dX4_spellParts_11 : decode cX4_spellParts 11 = .ok (.getfield 12, 3) := by decide +kernel
theorem dX4_spellParts_14 : decode cX4_spellParts 14 = .ok (.bipush 32, 2) := by decide +kernel
theorem dX4_spellParts_16 : decode cX4_spellParts 16 = .ok (.invokevirtual 22, 3) := by decide +kernel
theorem dX4_spellParts_19 : decode cX4_spellParts 19 = .ok (.pop, 1) := by decide +kernel
theorem dX4_spellParts_20 : decode cX4_spellParts 20 = .ok (.iconst 0, 1) := by decide +kernel
theorem dX4_spellParts_21 : decode cX4_spellParts 21 = .ok (.istore 4, 2) := by decide +kernel
theorem dX4_spellParts_23 : decode cX4_spellParts 23 = .ok (.iload 4, 2) := by decide +kernel
theorem dX4_spellParts_25 : decode cX4_spellParts 25 = .ok (.aload_n 1, 1) := by decide +kernel
theorem dX4_spellParts_26 : decode cX4_spellParts 26 = .ok (.getfield 56, 3) := by decide +kernel
theorem dX4_spellParts_29 : decode cX4_spellParts 29 = .ok (.invokevirtual 65, 3) := by decide +kernel
theorem dX4_spellParts_32 : decode cX4_spellParts 32 = .ok (.if_icmp .ge 95, 3) := by decide +kernel
theorem dX4_spellParts_35 : decode cX4_spellParts 35 = .ok (.aload_n 1, 1) := by decide +kernel
theorem dX4_spellParts_36 : decode cX4_spellParts 36 = .ok (.getfield 56, 3) := by decide +kernel
theorem dX4_spellParts_39 : decode cX4_spellParts 39 = .ok (.iload 4, 2) := by decide +kernel
theorem dX4_spellParts_41 : decode cX4_spellParts 41 = .ok (.invokevirtual 66, 3) := by decide +kernel
theorem dX4_spellParts_44 : decode cX4_spellParts 44 = .ok (.istore 5, 2) := by decide +kernel
theorem dX4_spellParts_46 : decode cX4_spellParts 46 = .ok (.iload 5, 2) := by decide +kernel
theorem dX4_spellParts_48 : decode cX4_spellParts 48 = .ok (.invokestatic 67, 3) := by decide +kernel
theorem dX4_spellParts_51 : decode cX4_spellParts 51 = .ok (.iconst (-1), 1) := by decide +kernel
theorem dX4_spellParts_52 : decode cX4_spellParts 52 = .ok (.if_icmp .ne 16, 3) := by decide +kernel
theorem dX4_spellParts_55 : decode cX4_spellParts 55 = .ok (.aload_n 0, 1) := by decide +kernel
theorem dX4_spellParts_56 : decode cX4_spellParts 56 = .ok (.getfield 12, 3) := by decide +kernel
theorem dX4_spellParts_59 : decode cX4_spellParts 59 = .ok (.iload 5, 2) := by decide +kernel
theorem dX4_spellParts_61 : decode cX4_spellParts 61 = .ok (.invokevirtual 22, 3) := by decide +kernel
theorem dX4_spellParts_64 : decode cX4_spellParts 64 = .ok (.pop, 1) := by decide +kernel
theorem dX4_spellParts_65 : decode cX4_spellParts 65 = .ok (.goto 56, 3) := by decide +kernel
theorem dX4_spellParts_68 : decode cX4_spellParts 68 = .ok (.iload 5, 2) := by decide +kernel
theorem dX4_spellParts_70 : decode cX4_spellParts 70 = .ok (.invokestatic 71, 3) := by decide +kernel
theorem dX4_spellParts_73 : decode cX4_spellParts 73 = .ok (.ifCond .eq 16, 3) := by decide +kernel
theorem dX4_spellParts_76 : decode cX4_spellParts 76 = .ok (.aload_n 0, 1) := by decide +kernel
theorem dX4_spellParts_77 : decode cX4_spellParts 77 = .ok (.getfield 12, 3) := by decide +kernel
theorem dX4_spellParts_80 : decode cX4_spellParts 80 = .ok (.bipush 114, 2) := by decide +kernel
theorem dX4_spellParts_82 : decode cX4_spellParts 82 = .ok (.invokevirtual 22, 3) := by decide +kernel
theorem dX4_spellParts_85 : decode cX4_spellParts 85 = .ok (.pop, 1) := by decide +kernel
theorem dX4_spellParts_86 : decode cX4_spellParts 86 = .ok (.goto 21, 3) := by decide +kernel
theorem dX4_spellParts_89 : decode cX4_spellParts 89 = .ok (.iload 5, 2) := by decide +kernel
theorem dX4_spellParts_91 : decode cX4_spellParts 91 = .ok (.invokestatic 75, 3) := by decide +kernel
theorem dX4_spellParts_94 : decode cX4_spellParts 94 = .ok (.ifCond .eq 13, 3) := by decide +kernel
theorem dX4_spellParts_97 : decode cX4_spellParts 97 = .ok (.aload_n 0, 1) := by decide +kernel
theorem dX4_spellParts_98 : decode cX4_spellParts 98 = .ok (.getfield 12, 3) := by decide +kernel
theorem dX4_spellParts_101 : decode cX4_spellParts 101 = .ok (.bipush 112, 2) := by decide +kernel
theorem dX4_spellParts_103 : decode cX4_spellParts 103 = .ok (.invokevirtual 22, 3) := by decide +kernel
theorem dX4_spellParts_106 : decode cX4_spellParts 106 = .ok (.pop, 1) := by decide +kernel
theorem dX4_spellParts_107 : decode cX4_spellParts 107 = .ok (.aload_n 0, 1) := by decide +kernel
theorem dX4_spellParts_108 : decode cX4_spellParts 108 = .ok (.getfield 12, 3) := by decide +kernel
theorem dX4_spellParts_111 : decode cX4_spellParts 111 = .ok (.iload 5, 2) := by decide +kernel
theorem dX4_spellParts_113 : decode cX4_spellParts 113 = .ok (.lload_n 2, 1) := by decide +kernel
theorem dX4_spellParts_114 : decode cX4_spellParts 114 = .ok (.invokestatic 78, 3) := by decide +kernel
theorem dX4_spellParts_117 : decode cX4_spellParts 117 = .ok (.invokevirtual 53, 3) := by decide +kernel
theorem dX4_spellParts_120 : decode cX4_spellParts 120 = .ok (.pop, 1) := by decide +kernel
theorem dX4_spellParts_121 : decode cX4_spellParts 121 = .ok (.iinc 4 1, 3) := by decide +kernel
theorem dX4_spellParts_124 : decode cX4_spellParts 124 = .ok (.goto (-101), 3) := by decide +kernel
theorem dX4_spellParts_127 : decode cX4_spellParts 127 = .ok (.return_, 1) := by decide +kernel
theorem dX5_init_0 : decode cX5_init 0 = .ok (.aload_n 0, 1) := by decide +kernel
theorem dX5_init_1 : decode cX5_init 1 = .ok (.invokespecial 3, 3) := by decide +kernel
theorem dX5_init_4 : decode cX5_init 4 = .ok (.aload_n 0, 1) := by decide +kernel
theorem dX5_init_5 : decode cX5_init 5 = .ok (.sipush 700, 3) := by decide +kernel
theorem dX5_init_8 : decode cX5_init 8 = .ok (.newarray .char, 2) := by decide +kernel
theorem dX5_init_10 : decode cX5_init 10 = .ok (.putfield 9, 3) := by decide +kernel
theorem dX5_init_13 : decode cX5_init 13 = .ok (.aload_n 0, 1) := by decide +kernel
theorem dX5_init_14 : decode cX5_init 14 = .ok (.iconst 0, 1) := by decide +kernel
theorem dX5_init_15 : decode cX5_init 15 = .ok (.putfield 15, 3) := by decide +kernel
theorem dX5_init_18 : decode cX5_init 18 = .ok (.return_, 1) := by decide +kernel
theorem dX5_append_0 : decode cX5_append 0 = .ok (.iload_n 3, 1) := by decide +kernel
theorem dX5_append_1 : decode cX5_append 1 = .ok (.iconst 1, 1) := by decide +kernel
theorem dX5_append_2 : decode cX5_append 2 = .ok (.if_icmp .lt 21, 3) := by decide +kernel
theorem dX5_append_5 : decode cX5_append 5 = .ok (.iload_n 3, 1) := by decide +kernel
theorem dX5_append_6 : decode cX5_append 6 = .ok (.bipush 8, 2) := by decide +kernel
theorem dX5_append_8 : decode cX5_append 8 = .ok (.if_icmp .gt 15, 3) := by decide +kernel
theorem dX5_append_11 : decode cX5_append 11 = .ok (.aload_n 0, 1) := by decide +kernel
theorem dX5_append_12 : decode cX5_append 12 = .ok (.getfield 15, 3) := by decide +kernel
theorem dX5_append_15 : decode cX5_append 15 = .ok (.sipush 700, 3) := by decide +kernel
theorem dX5_append_18 : decode cX5_append 18 = .ok (.iload_n 3, 1) := by decide +kernel
theorem dX5_append_19 : decode cX5_append 19 = .ok (.isub, 1) := by decide +kernel
theorem dX5_append_20 : decode cX5_append 20 = .ok (.if_icmp .le 5, 3) := by decide +kernel
theorem dX5_append_23 : decode cX5_append 23 = .ok (.iconst 0, 1) := by decide +kernel
theorem dX5_append_24 : decode cX5_append 24 = .ok (.ireturn, 1) := by decide +kernel
theorem dX5_append_25 : decode cX5_append 25 = .ok (.iconst 0, 1) := by decide +kernel
theorem dX5_append_26 : decode cX5_append 26 = .ok (.istore 4, 2) := by decide +kernel
theorem dX5_append_28 : decode cX5_append 28 = .ok (.iload 4, 2) := by decide +kernel
theorem dX5_append_30 : decode cX5_append 30 = .ok (.iload_n 3, 1) := by decide +kernel
theorem dX5_append_31 : decode cX5_append 31 = .ok (.if_icmp .ge 33, 3) := by decide +kernel
theorem dX5_append_34 : decode cX5_append 34 = .ok (.lload_n 1, 1) := by decide +kernel
theorem dX5_append_35 : decode cX5_append 35 = .ok (.iload 4, 2) := by decide +kernel
theorem dX5_append_37 : decode cX5_append 37 = .ok (.invokestatic 19, 3) := by decide +kernel
theorem dX5_append_40 : decode cX5_append 40 = .ok (.istore 5, 2) := by decide +kernel
theorem dX5_append_42 : decode cX5_append 42 = .ok (.iload 5, 2) := by decide +kernel
theorem dX5_append_44 : decode cX5_append 44 = .ok (.bipush 32, 2) := by decide +kernel
theorem dX5_append_46 : decode cX5_append 46 = .ok (.if_icmp .lt 10, 3) := by decide +kernel
theorem dX5_append_49 : decode cX5_append 49 = .ok (.iload 5, 2) := by decide +kernel
theorem dX5_append_51 : decode cX5_append 51 = .ok (.bipush 126, 2) := by decide +kernel
theorem dX5_append_53 : decode cX5_append 53 = .ok (.if_icmp .le 5, 3) := by decide +kernel
theorem dX5_append_56 : decode cX5_append 56 = .ok (.iconst 0, 1) := by decide +kernel
theorem dX5_append_57 : decode cX5_append 57 = .ok (.ireturn, 1) := by decide +kernel
theorem dX5_append_58 : decode cX5_append 58 = .ok (.iinc 4 1, 3) := by decide +kernel
theorem dX5_append_61 : decode cX5_append 61 = .ok (.goto (-33), 3) := by decide +kernel
theorem dX5_append_64 : decode cX5_append 64 = .ok (.iload_n 3, 1) := by decide +kernel
theorem dX5_append_65 : decode cX5_append 65 = .ok (.iconst 1, 1) := by decide +kernel
theorem dX5_append_66 : decode cX5_append 66 = .ok (.isub, 1) := by decide +kernel
theorem dX5_append_67 : decode cX5_append 67 = .ok (.istore 4, 2) := by decide +kernel
theorem dX5_append_69 : decode cX5_append 69 = .ok (.iload 4, 2) := by decide +kernel
theorem dX5_append_71 : decode cX5_append 71 = .ok (.ifCond .lt 35, 3) := by decide +kernel
theorem dX5_append_74 : decode cX5_append 74 = .ok (.aload_n 0, 1) := by decide +kernel
theorem dX5_append_75 : decode cX5_append 75 = .ok (.getfield 9, 3) := by decide +kernel
theorem dX5_append_78 : decode cX5_append 78 = .ok (.aload_n 0, 1) := by decide +kernel
theorem dX5_append_79 : decode cX5_append 79 = .ok (.getfield 15, 3) := by decide +kernel
theorem dX5_append_82 : decode cX5_append 82 = .ok (.lload_n 1, 1) := by decide +kernel
theorem dX5_append_83 : decode cX5_append 83 = .ok (.iload 4, 2) := by decide +kernel
theorem dX5_append_85 : decode cX5_append 85 = .ok (.invokestatic 19, 3) := by decide +kernel
theorem dX5_append_88 : decode cX5_append 88 = .ok (.i2c, 1) := by decide +kernel
theorem dX5_append_89 : decode cX5_append 89 = .ok (.castore, 1) := by decide +kernel
theorem dX5_append_90 : decode cX5_append 90 = .ok (.aload_n 0, 1) := by decide +kernel
theorem dX5_append_91 : decode cX5_append 91 = .ok (.dup, 1) := by decide +kernel
theorem dX5_append_92 : decode cX5_append 92 = .ok (.getfield 15, 3) := by decide +kernel
theorem dX5_append_95 : decode cX5_append 95 = .ok (.iconst 1, 1) := by decide +kernel
theorem dX5_append_96 : decode cX5_append 96 = .ok (.iadd, 1) := by decide +kernel
theorem dX5_append_97 : decode cX5_append 97 = .ok (.putfield 15, 3) := by decide +kernel
theorem dX5_append_100 : decode cX5_append 100 = .ok (.iinc 4 (-1), 3) := by decide +kernel
theorem dX5_append_103 : decode cX5_append 103 = .ok (.goto (-34), 3) := by decide +kernel
theorem dX5_append_106 : decode cX5_append 106 = .ok (.iconst 1, 1) := by decide +kernel
theorem dX5_append_107 : decode cX5_append 107 = .ok (.ireturn, 1) := by decide +kernel
theorem dX5_byteOf_0 : decode cX5_byteOf 0 = .ok (.lload_n 0, 1) := by decide +kernel
theorem dX5_byteOf_1 : decode cX5_byteOf 1 = .ok (.bipush 8, 2) := by decide +kernel
theorem dX5_byteOf_3 : decode cX5_byteOf 3 = .ok (.iload_n 2, 1) := by decide +kernel
theorem dX5_byteOf_4 : decode cX5_byteOf 4 = .ok (.imul, 1) := by decide +kernel
theorem dX5_byteOf_5 : decode cX5_byteOf 5 = .ok (.lshr, 1) := by decide +kernel
theorem dX5_byteOf_6 : decode cX5_byteOf 6 = .ok (.ldc2_w 23, 3) := by decide +kernel
theorem dX5_byteOf_9 : decode cX5_byteOf 9 = .ok (.land, 1) := by decide +kernel
theorem dX5_byteOf_10 : decode cX5_byteOf 10 = .ok (.l2i, 1) := by decide +kernel
theorem dX5_byteOf_11 : decode cX5_byteOf 11 = .ok (.ireturn, 1) := by decide +kernel
theorem dX6_init_0 : decode cX6_init 0 = .ok (.aload_n 0, 1) := by decide +kernel
theorem dX6_init_1 : decode cX6_init 1 = .ok (.invokespecial 3, 3) := by decide +kernel
theorem dX6_init_4 : decode cX6_init 4 = .ok (.aload_n 0, 1) := by decide +kernel
theorem dX6_init_5 : decode cX6_init 5 = .ok (.sipush 701, 3) := by decide +kernel
theorem dX6_init_8 : decode cX6_init 8 = .ok (.newarray .int, 2) := by decide +kernel
theorem dX6_init_10 : decode cX6_init 10 = .ok (.putfield 9, 3) := by decide +kernel
theorem dX6_init_13 : decode cX6_init 13 = .ok (.aload_n 0, 1) := by decide +kernel
theorem dX6_init_14 : decode cX6_init 14 = .ok (.sipush 701, 3) := by decide +kernel
theorem dX6_init_17 : decode cX6_init 17 = .ok (.newarray .int, 2) := by decide +kernel
theorem dX6_init_19 : decode cX6_init 19 = .ok (.putfield 15, 3) := by decide +kernel
theorem dX6_init_22 : decode cX6_init 22 = .ok (.aload_n 0, 1) := by decide +kernel
theorem dX6_init_23 : decode cX6_init 23 = .ok (.sipush 701, 3) := by decide +kernel
theorem dX6_init_26 : decode cX6_init 26 = .ok (.newarray .long, 2) := by decide +kernel
theorem dX6_init_28 : decode cX6_init 28 = .ok (.putfield 18, 3) := by decide +kernel
theorem dX6_init_31 : decode cX6_init 31 = .ok (.aload_n 0, 1) := by decide +kernel
theorem dX6_init_32 : decode cX6_init 32 = .ok (.iconst 0, 1) := by decide +kernel
theorem dX6_init_33 : decode cX6_init 33 = .ok (.putfield 22, 3) := by decide +kernel
theorem dX6_init_36 : decode cX6_init 36 = .ok (.aload_n 0, 1) := by decide +kernel
theorem dX6_init_37 : decode cX6_init 37 = .ok (.iconst 0, 1) := by decide +kernel
