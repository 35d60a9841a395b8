theorem dX9_write_24 : decode cX9_write 24 = .ok (.invokevirtual 266, 3) := by decide +kernel
theorem dX9_write_27 : decode cX9_write 27 = .ok (.return_, 1) := by decide +kernel
theorem dX9_write_28 : decode cX9_write 28 = .ok (.lload_n 1, 1) := by decide +kernel
theorem dX9_write_29 : decode cX9_write 29 = .ok (.invokestatic 245, 3) := by decide +kernel
theorem dX9_write_32 : decode cX9_write 32 = .ok (.ifCond .le 47, 3) := by decide +kernel
theorem dX9_write_35 : decode cX9_write 35 = .ok (.aload_n 0, 1) := by decide +kernel
theorem dX9_write_36 : decode cX9_write 36 = .ok (.bipush 64, 2) := by decide +kernel
theorem dX9_write_38 : decode cX9_write 38 = .ok (.invokevirtual 266, 3) := by decide +kernel
theorem dX9_write_41 : decode cX9_write 41 = .ok (.lload_n 1, 1) := by decide +kernel
theorem dX9_write_42 : decode cX9_write 42 = .ok (.invokestatic 245, 3) := by decide +kernel
theorem dX9_write_45 : decode cX9_write 45 = .ok (.bipush 11, 2) := by decide +kernel
theorem dX9_write_47 : decode cX9_write 47 = .ok (.if_icmp .le 9, 3) := by decide +kernel
theorem dX9_write_50 : decode cX9_write 50 = .ok (.aload_n 0, 1) := by decide +kernel
theorem dX9_write_51 : decode cX9_write 51 = .ok (.bipush 33, 2) := by decide +kernel
theorem dX9_write_53 : decode cX9_write 53 = .ok (.invokevirtual 266, 3) := by decide +kernel
theorem dX9_write_56 : decode cX9_write 56 = .ok (.aload_n 0, 1) := by decide +kernel
theorem dX9_write_57 : decode cX9_write 57 = .ok (.bipush 112, 2) := by decide +kernel
theorem dX9_write_59 : decode cX9_write 59 = .ok (.invokevirtual 266, 3) := by decide +kernel
theorem dX9_write_62 : decode cX9_write 62 = .ok (.aload_n 0, 1) := by decide +kernel
theorem dX9_write_63 : decode cX9_write 63 = .ok (.lload_n 1, 1) := by decide +kernel
theorem dX9_write_64 : decode cX9_write 64 = .ok (.invokestatic 245, 3) := by decide +kernel
theorem dX9_write_67 : decode cX9_write 67 = .ok (.iconst 3, 1) := by decide +kernel
theorem dX9_write_68 : decode cX9_write 68 = .ok (.iand, 1) := by decide +kernel
theorem dX9_write_69 : decode cX9_write 69 = .ok (.i2l, 1) := by decide +kernel
theorem dX9_write_70 : decode cX9_write 70 = .ok (.invokevirtual 272, 3) := by decide +kernel
theorem dX9_write_73 : decode cX9_write 73 = .ok (.aload_n 0, 1) := by decide +kernel
theorem dX9_write_74 : decode cX9_write 74 = .ok (.bipush 32, 2) := by decide +kernel
theorem dX9_write_76 : decode cX9_write 76 = .ok (.invokevirtual 266, 3) := by decide +kernel
theorem dX9_write_79 : decode cX9_write 79 = .ok (.iconst 0, 1) := by decide +kernel
theorem dX9_write_80 : decode cX9_write 80 = .ok (.istore 4, 2) := by decide +kernel
theorem dX9_write_82 : decode cX9_write 82 = .ok (.iload 4, 2) := by decide +kernel
theorem dX9_write_84 : decode cX9_write 84 = .ok (.bipush 8, 2) := by decide +kernel
theorem dX9_write_86 : decode cX9_write 86 = .ok (.if_icmp .ge 30, 3) := by decide +kernel
theorem dX9_write_89 : decode cX9_write 89 = .ok (.iload_n 3, 1) := by decide +kernel
theorem dX9_write_90 : decode cX9_write 90 = .ok (.iload 4, 2) := by decide +kernel
theorem dX9_write_92 : decode cX9_write 92 = .ok (.invokestatic 88, 3) := by decide +kernel
theorem dX9_write_95 : decode cX9_write 95 = .ok (.bipush 32, 2) := by decide +kernel
theorem dX9_write_97 : decode cX9_write 97 = .ok (.if_icmp .eq 19, 3) := by decide +kernel
theorem dX9_write_100 : decode cX9_write 100 = .ok (.aload_n 0, 1) := by decide +kernel
theorem dX9_write_101 : decode cX9_write 101 = .ok (.iload_n 3, 1) := by decide +kernel
theorem dX9_write_102 : decode cX9_write 102 = .ok (.iload 4, 2) := by decide +kernel
theorem dX9_write_104 : decode cX9_write 104 = .ok (.invokestatic 88, 3) := by decide +kernel
theorem dX9_write_107 : decode cX9_write 107 = .ok (.invokevirtual 266, 3) := by decide +kernel
theorem dX9_write_110 : decode cX9_write 110 = .ok (.iinc 4 1, 3) := by decide +kernel
theorem dX9_write_113 : decode cX9_write 113 = .ok (.goto (-31), 3) := by decide +kernel
theorem dX9_write_116 : decode cX9_write 116 = .ok (.iconst 0, 1) := by decide +kernel
theorem dX9_write_117 : decode cX9_write 117 = .ok (.istore 4, 2) := by decide +kernel
theorem dX9_write_119 : decode cX9_write 119 = .ok (.iload 4, 2) := by decide +kernel
theorem dX9_write_121 : decode cX9_write 121 = .ok (.iconst 4, 1) := by decide +kernel
theorem dX9_write_122 : decode cX9_write 122 = .ok (.if_icmp .ge 47, 3) := by decide +kernel
theorem dX9_write_125 : decode cX9_write 125 = .ok (.iload_n 3, 1) := by decide +kernel
theorem dX9_write_126 : decode cX9_write 126 = .ok (.iload 4, 2) := by decide +kernel
theorem dX9_write_128 : decode cX9_write 128 = .ok (.invokestatic 207, 3) := by decide +kernel
theorem dX9_write_131 : decode cX9_write 131 = .ok (.bipush 46, 2) := by decide +kernel
theorem dX9_write_133 : decode cX9_write 133 = .ok (.if_icmp .eq 36, 3) := by decide +kernel
theorem dX9_write_136 : decode cX9_write 136 = .ok (.aload_n 0, 1) := by decide +kernel
theorem dX9_write_137 : decode cX9_write 137 = .ok (.iload 4, 2) := by decide +kernel
theorem dX9_write_139 : decode cX9_write 139 = .ok (.ifCond .ne 8, 3) := by decide +kernel
theorem dX9_write_142 : decode cX9_write 142 = .ok (.bipush 32, 2) := by decide +kernel
theorem dX9_write_144 : decode cX9_write 144 = .ok (.goto 5, 3) := by decide +kernel
theorem dX9_write_147 : decode cX9_write 147 = .ok (.bipush 44, 2) := by decide +kernel
theorem dX9_write_149 : decode cX9_write 149 = .ok (.invokevirtual 266, 3) := by decide +kernel
theorem dX9_write_152 : decode cX9_write 152 = .ok (.aload_n 0, 1) := by decide +kernel
theorem dX9_write_153 : decode cX9_write 153 = .ok (.iload_n 3, 1) := by decide +kernel
theorem dX9_write_154 : decode cX9_write 154 = .ok (.iload 4, 2) := by decide +kernel
theorem dX9_write_156 : decode cX9_write 156 = .ok (.invokestatic 207, 3) := by decide +kernel
theorem dX9_write_159 : decode cX9_write 159 = .ok (.lload_n 1, 1) := by decide +kernel
theorem dX9_write_160 : decode cX9_write 160 = .ok (.invokevirtual 279, 3) := by decide +kernel
theorem dX9_write_163 : decode cX9_write 163 = .ok (.iinc 4 1, 3) := by decide +kernel
theorem dX9_write_166 : decode cX9_write 166 = .ok (.goto (-47), 3) := by decide +kernel
theorem dX9_write_169 : decode cX9_write 169 = .ok (.aload_n 0, 1) := by decide +kernel
theorem dX9_write_170 : decode cX9_write 170 = .ok (.bipush 59, 2) := by decide +kernel
theorem dX9_write_172 : decode cX9_write 172 = .ok (.invokevirtual 266, 3) := by decide +kernel
theorem dX9_write_175 : decode cX9_write 175 = .ok (.return_, 1) := by decide +kernel
theorem dX9_isPlace_0 : decode cX9_isPlace 0 = .ok (.iload_n 1, 1) := by decide +kernel
theorem dX9_isPlace_1 : decode cX9_isPlace 1 = .ok (.ifCond .lt 15, 3) := by decide +kernel
theorem dX9_isPlace_4 : decode cX9_isPlace 4 = .ok (.iload_n 1, 1) := by decide +kernel
theorem dX9_isPlace_5 : decode cX9_isPlace 5 = .ok (.aload_n 0, 1) := by decide +kernel
theorem dX9_isPlace_6 : decode cX9_isPlace 6 = .ok (.getfield 237, 3) := by decide +kernel
theorem dX9_isPlace_9 : decode cX9_isPlace 9 = .ok (.if_icmp .ge 7, 3) := by decide +kernel
theorem dX9_isPlace_12 : decode cX9_isPlace 12 = .ok (.iconst 1, 1) := by decide +kernel
theorem dX9_isPlace_13 : decode cX9_isPlace 13 = .ok (.goto 4, 3) := by decide +kernel
theorem dX9_isPlace_16 : decode cX9_isPlace 16 = .ok (.iconst 0, 1) := by decide +kernel
theorem dX9_isPlace_17 : decode cX9_isPlace 17 = .ok (.ireturn, 1) := by decide +kernel
theorem dX9_set_0 : decode cX9_set 0 = .ok (.aload_n 0, 1) := by decide +kernel
theorem dX9_set_1 : decode cX9_set 1 = .ok (.iconst 0, 1) := by decide +kernel
theorem dX9_set_2 : decode cX9_set 2 = .ok (.putfield 63, 3) := by decide +kernel
theorem dX9_set_5 : decode cX9_set 5 = .ok (.iload_n 1, 1) := by decide +kernel
theorem dX9_set_6 : decode cX9_set 6 = .ok (.ifCond .lt 17, 3) := by decide +kernel
theorem dX9_set_9 : decode cX9_set 9 = .ok (.iload_n 1, 1) := by decide +kernel
theorem dX9_set_10 : decode cX9_set 10 = .ok (.aload_n 0, 1) := by decide +kernel
theorem dX9_set_11 : decode cX9_set 11 = .ok (.getfield 237, 3) := by decide +kernel
theorem dX9_set_14 : decode cX9_set 14 = .ok (.if_icmp .gt 9, 3) := by decide +kernel
theorem dX9_set_17 : decode cX9_set 17 = .ok (.iload_n 1, 1) := by decide +kernel
theorem dX9_set_18 : decode cX9_set 18 = .ok (.bipush 64, 2) := by decide +kernel
theorem dX9_set_20 : decode cX9_set 20 = .ok (.if_icmp .ne 5, 3) := by decide +kernel
theorem dX9_set_23 : decode cX9_set 23 = .ok (.iconst 0, 1) := by decide +kernel
theorem dX9_set_24 : decode cX9_set 24 = .ok (.ireturn, 1) := by decide +kernel
theorem dX9_set_25 : decode cX9_set 25 = .ok (.aload_n 0, 1) := by decide +kernel
theorem dX9_set_26 : decode cX9_set 26 = .ok (.getfield 23, 3) := by decide +kernel
theorem dX9_set_29 : decode cX9_set 29 = .ok (.iload_n 1, 1) := by decide +kernel
theorem dX9_set_30 : decode cX9_set 30 = .ok (.lload_n 2, 1) := by decide +kernel
theorem dX9_set_31 : decode cX9_set 31 = .ok (.lastore, 1) := by decide +kernel
theorem dX9_set_32 : decode cX9_set 32 = .ok (.aload_n 0, 1) := by decide +kernel
theorem dX9_set_33 : decode cX9_set 33 = .ok (.dup, 1) := by decide +kernel
theorem dX9_set_34 : decode cX9_set 34 = .ok (.getfield 237, 3) := by decide +kernel
theorem dX9_set_37 : decode cX9_set 37 = .ok (.iload_n 1, 1) := by decide +kernel
theorem dX9_set_38 : decode cX9_set 38 = .ok (.aload_n 0, 1) := by decide +kernel
theorem dX9_set_39 : decode cX9_set 39 = .ok (.getfield 237, 3) := by decide +kernel
theorem dX9_set_42 : decode cX9_set 42 = .ok (.if_icmp .ne 7, 3) := by decide +kernel
theorem dX9_set_45 : decode cX9_set 45 = .ok (.iconst 1, 1) := by decide +kernel
theorem dX9_set_46 : decode cX9_set 46 = .ok (.goto 4, 3) := by decide +kernel
theorem dX9_set_49 : decode cX9_set 49 = .ok (.iconst 0, 1) := by decide +kernel
theorem dX9_set_50 : decode cX9_set 50 = .ok (.iadd, 1) := by decide +kernel
theorem dX9_set_51 : decode cX9_set 51 = .ok (.putfield 237, 3) := by decide +kernel
theorem dX9_set_54 : decode cX9_set 54 = .ok (.iconst 1, 1) := by decide +kernel
theorem dX9_set_55 : decode cX9_set 55 = .ok (.ireturn, 1) := by decide +kernel
theorem dX9_word_0 : decode cX9_word 0 = .ok (.aload_n 0, 1) := by decide +kernel
theorem dX9_word_1 : decode cX9_word 1 = .ok (.aload_n 0, 1) := by decide +kernel
theorem dX9_word_2 : decode cX9_word 2 = .ok (.iload_n 1, 1) := by decide +kernel
theorem dX9_word_3 : decode cX9_word 3 = .ok (.invokevirtual 283, 3) := by decide +kernel
theorem dX9_word_6 : decode cX9_word 6 = .ok (.ifCond .eq 7, 3) := by decide +kernel
theorem dX9_word_9 : decode cX9_word 9 = .ok (.iconst 0, 1) := by decide +kernel
theorem dX9_word_10 : decode cX9_word 10 = .ok (.goto 4, 3) := by decide +kernel
theorem dX9_word_13 : decode cX9_word 13 = .ok (.iconst 1, 1) := by decide +kernel
theorem dX9_word_14 : decode cX9_word 14 = .ok (.putfield 63, 3) := by decide +kernel
theorem dX9_word_17 : decode cX9_word 17 = .ok (.aload_n 0, 1) := by decide +kernel
theorem dX9_word_18 : decode cX9_word 18 = .ok (.getfield 63, 3) := by decide +kernel
theorem dX9_word_21 : decode cX9_word 21 = .ok (.ifCond .ne 12, 3) := by decide +kernel
theorem dX9_word_24 : decode cX9_word 24 = .ok (.aload_n 0, 1) := by decide +kernel
theorem dX9_word_25 : decode cX9_word 25 = .ok (.getfield 23, 3) := by decide +kernel
theorem dX9_word_28 : decode cX9_word 28 = .ok (.iload_n 1, 1) := by decide +kernel
theorem dX9_word_29 : decode cX9_word 29 = .ok (.laload, 1) := by decide +kernel
theorem dX9_word_30 : decode cX9_word 30 = .ok (.goto 4, 3) := by decide +kernel
theorem dX9_word_33 : decode cX9_word 33 = .ok (.lconst 0, 1) := by decide +kernel
theorem dX9_word_34 : decode cX9_word 34 = .ok (.lreturn, 1) := by decide +kernel
theorem dX9_letter_0 : decode cX9_letter 0 = .ok (.aload_n 0, 1) := by decide +kernel
theorem dX9_letter_1 : decode cX9_letter 1 = .ok (.iconst 0, 1) := by decide +kernel
theorem dX9_letter_2 : decode cX9_letter 2 = .ok (.putfield 63, 3) := by decide +kernel
theorem dX9_letter_5 : decode cX9_letter 5 = .ok (.aload_n 0, 1) := by decide +kernel
theorem dX9_letter_6 : decode cX9_letter 6 = .ok (.iload_n 1, 1) := by decide +kernel
theorem dX9_letter_7 : decode cX9_letter 7 = .ok (.invokevirtual 283, 3) := by decide +kernel
theorem dX9_letter_10 : decode cX9_letter 10 = .ok (.ifCond .eq 7, 3) := by decide +kernel
theorem dX9_letter_13 : decode cX9_letter 13 = .ok (.iload_n 2, 1) := by decide +kernel
theorem dX9_letter_14 : decode cX9_letter 14 = .ok (.ifCond .ge 5, 3) := by decide +kernel
theorem dX9_letter_17 : decode cX9_letter 17 = .ok (.iconst (-1), 1) := by decide +kernel
theorem dX9_letter_18 : decode cX9_letter 18 = .ok (.ireturn, 1) := by decide +kernel
theorem dX9_letter_19 : decode cX9_letter 19 = .ok (.aload_n 0, 1) := by decide +kernel
theorem dX9_letter_20 : decode cX9_letter 20 = .ok (.aload_n 0, 1) := by decide +kernel
theorem dX9_letter_21 : decode cX9_letter 21 = .ok (.getfield 23, 3) := by decide +kernel
theorem dX9_letter_24 : decode cX9_letter 24 = .ok (.iload_n 1, 1) := by decide +kernel
theorem dX9_letter_25 : decode cX9_letter 25 = .ok (.laload, 1) := by decide +kernel
theorem dX9_letter_26 : decode cX9_letter 26 = .ok (.invokevirtual 286, 3) := by decide +kernel
theorem dX9_letter_29 : decode cX9_letter 29 = .ok (.iload_n 2, 1) := by decide +kernel
theorem dX9_letter_30 : decode cX9_letter 30 = .ok (.aload_n 0, 1) := by decide +kernel
theorem dX9_letter_31 : decode cX9_letter 31 = .ok (.getfield 263, 3) := by decide +kernel
theorem dX9_letter_34 : decode cX9_letter 34 = .ok (.if_icmp .ge 12, 3) := by decide +kernel
theorem dX9_letter_37 : decode cX9_letter 37 = .ok (.aload_n 0, 1) := by decide +kernel
theorem dX9_letter_38 : decode cX9_letter 38 = .ok (.getfield 57, 3) := by decide +kernel
theorem dX9_letter_41 : decode cX9_letter 41 = .ok (.iload_n 2, 1) := by decide +kernel
theorem dX9_letter_42 : decode cX9_letter 42 = .ok (.iaload, 1) := by decide +kernel
theorem dX9_letter_43 : decode cX9_letter 43 = .ok (.goto 4, 3) := by decide +kernel
theorem dX9_letter_46 : decode cX9_letter 46 = .ok (.iconst (-1), 1) := by decide +kernel
theorem dX9_letter_47 : decode cX9_letter 47 = .ok (.ireturn, 1) := by decide +kernel
theorem dX9_name_0 : decode cX9_name 0 = .ok (.aload_n 0, 1) := by decide +kernel
theorem dX9_name_1 : decode cX9_name 1 = .ok (.aload_n 0, 1) := by decide +kernel
theorem dX9_name_2 : decode cX9_name 2 = .ok (.getfield 141, 3) := by decide +kernel
theorem dX9_name_5 : decode cX9_name 5 = .ok (.lload_n 1, 1) := by decide +kernel
theorem dX9_name_6 : decode cX9_name 6 = .ok (.invokevirtual 144, 3) := by decide +kernel
theorem dX9_name_9 : decode cX9_name 9 = .ok (.istore_n 3, 1) := by decide +kernel
theorem dX9_name_10 : decode cX9_name 10 = .ok (.aload_n 0, 1) := by decide +kernel
theorem dX9_name_11 : decode cX9_name 11 = .ok (.iload_n 3, 1) := by decide +kernel
theorem dX9_name_12 : decode cX9_name 12 = .ok (.iconst (-1), 1) := by decide +kernel
theorem dX9_name_13 : decode cX9_name 13 = .ok (.if_icmp .ne 7, 3) := by decide +kernel
theorem dX9_name_16 : decode cX9_name 16 = .ok (.iconst 1, 1) := by decide +kernel
theorem dX9_name_17 : decode cX9_name 17 = .ok (.goto 4, 3) := by decide +kernel
theorem dX9_name_20 : decode cX9_name 20 = .ok (.iconst 0, 1) := by decide +kernel
theorem dX9_name_21 : decode cX9_name 21 = .ok (.putfield 63, 3) := by decide +kernel
theorem dX9_name_24 : decode cX9_name 24 = .ok (.iload_n 3, 1) := by decide +kernel
theorem dX9_name_25 : decode cX9_name 25 = .ok (.iconst (-1), 1) := by decide +kernel
theorem dX9_name_26 : decode cX9_name 26 = .ok (.if_icmp .ne 7, 3) := by decide +kernel
theorem dX9_name_29 : decode cX9_name 29 = .ok (.iconst 0, 1) := by decide +kernel
theorem dX9_name_30 : decode cX9_name 30 = .ok (.goto 10, 3) := by decide +kernel
theorem dX9_name_33 : decode cX9_name 33 = .ok (.aload_n 0, 1) := by decide +kernel
theorem dX9_name_34 : decode cX9_name 34 = .ok (.getfield 35, 3) := by decide +kernel
theorem dX9_name_37 : decode cX9_name 37 = .ok (.iload_n 3, 1) := by decide +kernel
theorem dX9_name_38 : decode cX9_name 38 = .ok (.laload, 1) := by decide +kernel
theorem dX9_name_39 : decode cX9_name 39 = .ok (.l2i, 1) := by decide +kernel
theorem dX9_name_40 : decode cX9_name 40 = .ok (.ireturn, 1) := by decide +kernel
theorem dX9_isGuarded_0 : decode cX9_isGuarded 0 = .ok (.aload_n 0, 1) := by decide +kernel
theorem dX9_isGuarded_1 : decode cX9_isGuarded 1 = .ok (.getfield 23, 3) := by decide +kernel
theorem dX9_isGuarded_4 : decode cX9_isGuarded 4 = .ok (.iload_n 1, 1) := by decide +kernel
theorem dX9_isGuarded_5 : decode cX9_isGuarded 5 = .ok (.laload, 1) := by decide +kernel
theorem dX9_isGuarded_6 : decode cX9_isGuarded 6 = .ok (.invokestatic 245, 3) := by decide +kernel
theorem dX9_isGuarded_9 : decode cX9_isGuarded 9 = .ok (.ifCond .le 7, 3) := by decide +kernel
theorem dX9_isGuarded_12 : decode cX9_isGuarded 12 = .ok (.iconst 1, 1) := by decide +kernel
theorem dX9_isGuarded_13 : decode cX9_isGuarded 13 = .ok (.goto 4, 3) := by decide +kernel
theorem dX9_isGuarded_16 : decode cX9_isGuarded 16 = .ok (.iconst 0, 1) := by decide +kernel
theorem dX9_isGuarded_17 : decode cX9_isGuarded 17 = .ok (.ireturn, 1) := by decide +kernel
theorem dX9_wayOf_0 : decode cX9_wayOf 0 = .ok (.aload_n 0, 1) := by decide +kernel
theorem dX9_wayOf_1 : decode cX9_wayOf 1 = .ok (.getfield 23, 3) := by decide +kernel
theorem dX9_wayOf_4 : decode cX9_wayOf 4 = .ok (.iload_n 1, 1) := by decide +kernel
theorem dX9_wayOf_5 : decode cX9_wayOf 5 = .ok (.laload, 1) := by decide +kernel
theorem dX9_wayOf_6 : decode cX9_wayOf 6 = .ok (.invokestatic 276, 3) := by decide +kernel
theorem dX9_wayOf_9 : decode cX9_wayOf 9 = .ok (.istore_n 3, 1) := by decide +kernel
theorem dX9_wayOf_10 : decode cX9_wayOf 10 = .ok (.iload_n 3, 1) := by decide +kernel
theorem dX9_wayOf_11 : decode cX9_wayOf 11 = .ok (.iconst (-1), 1) := by decide +kernel
theorem dX9_wayOf_12 : decode cX9_wayOf 12 = .ok (.if_icmp .ne 6, 3) := by decide +kernel
theorem dX9_wayOf_15 : decode cX9_wayOf 15 = .ok (.bipush (-2), 2) := by decide +kernel
theorem dX9_wayOf_17 : decode cX9_wayOf 17 = .ok (.ireturn, 1) := by decide +kernel
theorem dX9_wayOf_18 : decode cX9_wayOf 18 = .ok (.iload_n 3, 1) := by decide +kernel
theorem dX9_wayOf_19 : decode cX9_wayOf 19 = .ok (.invokestatic 201, 3) := by decide +kernel
theorem dX9_wayOf_22 : decode cX9_wayOf 22 = .ok (.istore 4, 2) := by decide +kernel
theorem dX9_wayOf_24 : decode cX9_wayOf 24 = .ok (.iload 4, 2) := by decide +kernel
theorem dX9_wayOf_26 : decode cX9_wayOf 26 = .ok (.bipush 40, 2) := by decide +kernel
theorem dX9_wayOf_28 : decode cX9_wayOf 28 = .ok (.if_icmp .eq 10, 3) := by decide +kernel
theorem dX9_wayOf_31 : decode cX9_wayOf 31 = .ok (.iload 4, 2) := by decide +kernel
theorem dX9_wayOf_33 : decode cX9_wayOf 33 = .ok (.bipush 41, 2) := by decide +kernel
theorem dX9_wayOf_35 : decode cX9_wayOf 35 = .ok (.if_icmp .ne 7, 3) := by decide +kernel
theorem dX9_wayOf_38 : decode cX9_wayOf 38 = .ok (.iconst 1, 1) := by decide +kernel
theorem dX9_wayOf_39 : decode cX9_wayOf 39 = .ok (.goto 4, 3) := by decide +kernel
theorem dX9_wayOf_42 : decode cX9_wayOf 42 = .ok (.iconst 0, 1) := by decide +kernel
theorem dX9_wayOf_43 : decode cX9_wayOf 43 = .ok (.istore 5, 2) := by decide +kernel
theorem dX9_wayOf_45 : decode cX9_wayOf 45 = .ok (.iload 5, 2) := by decide +kernel
theorem dX9_wayOf_47 : decode cX9_wayOf 47 = .ok (.ifCond .eq 17, 3) := by decide +kernel
theorem dX9_wayOf_50 : decode cX9_wayOf 50 = .ok (.iload_n 2, 1) := by decide +kernel
theorem dX9_wayOf_51 : decode cX9_wayOf 51 = .ok (.ifCond .ne 13, 3) := by decide +kernel
theorem dX9_wayOf_54 : decode cX9_wayOf 54 = .ok (.aload_n 0, 1) := by decide +kernel
theorem dX9_wayOf_55 : decode cX9_wayOf 55 = .ok (.getfield 23, 3) := by decide +kernel
theorem dX9_wayOf_58 : decode cX9_wayOf 58 = .ok (.iload_n 1, 1) := by decide +kernel
theorem dX9_wayOf_59 : decode cX9_wayOf 59 = .ok (.laload, 1) := by decide +kernel
theorem dX9_wayOf_60 : decode cX9_wayOf 60 = .ok (.invokestatic 248, 3) := by decide +kernel
theorem dX9_wayOf_63 : decode cX9_wayOf 63 = .ok (.ireturn, 1) := by decide +kernel
theorem dX9_wayOf_64 : decode cX9_wayOf 64 = .ok (.iload 4, 2) := by decide +kernel
theorem dX9_wayOf_66 : decode cX9_wayOf 66 = .ok (.ifCond .eq 15, 3) := by decide +kernel
theorem dX9_wayOf_69 : decode cX9_wayOf 69 = .ok (.iload 5, 2) := by decide +kernel
theorem dX9_wayOf_71 : decode cX9_wayOf 71 = .ok (.ifCond .ne 10, 3) := by decide +kernel
theorem dX9_wayOf_74 : decode cX9_wayOf 74 = .ok (.iload 4, 2) := by decide +kernel
theorem dX9_wayOf_76 : decode cX9_wayOf 76 = .ok (.bipush 42, 2) := by decide +kernel
theorem dX9_wayOf_78 : decode cX9_wayOf 78 = .ok (.if_icmp .ne 34, 3) := by decide +kernel
theorem dX9_wayOf_81 : decode cX9_wayOf 81 = .ok (.aload_n 0, 1) := by decide +kernel
theorem dX9_wayOf_82 : decode cX9_wayOf 82 = .ok (.iload_n 1, 1) := by decide +kernel
theorem dX9_wayOf_83 : decode cX9_wayOf 83 = .ok (.invokevirtual 289, 3) := by decide +kernel
theorem dX9_wayOf_86 : decode cX9_wayOf 86 = .ok (.ifCond .eq 23, 3) := by decide +kernel
theorem dX9_wayOf_89 : decode cX9_wayOf 89 = .ok (.iload_n 2, 1) := by decide +kernel
theorem dX9_wayOf_90 : decode cX9_wayOf 90 = .ok (.iload 5, 2) := by decide +kernel
theorem dX9_wayOf_92 : decode cX9_wayOf 92 = .ok (.ifCond .eq 7, 3) := by decide +kernel
theorem dX9_wayOf_95 : decode cX9_wayOf 95 = .ok (.iconst 1, 1) := by decide +kernel
theorem dX9_wayOf_96 : decode cX9_wayOf 96 = .ok (.goto 4, 3) := by decide +kernel
theorem dX9_wayOf_99 : decode cX9_wayOf 99 = .ok (.iconst 0, 1) := by decide +kernel
theorem dX9_wayOf_100 : decode cX9_wayOf 100 = .ok (.if_icmp .ne 9, 3) := by decide +kernel
theorem dX9_wayOf_103 : decode cX9_wayOf 103 = .ok (.iload_n 1, 1) := by decide +kernel
theorem dX9_wayOf_104 : decode cX9_wayOf 104 = .ok (.iconst 1, 1) := by decide +kernel
theorem dX9_wayOf_105 : decode cX9_wayOf 105 = .ok (.iadd, 1) := by decide +kernel
theorem dX9_wayOf_106 : decode cX9_wayOf 106 = .ok (.goto 5, 3) := by decide +kernel
theorem dX9_wayOf_109 : decode cX9_wayOf 109 = .ok (.bipush (-2), 2) := by decide +kernel
theorem dX9_wayOf_111 : decode cX9_wayOf 111 = .ok (.ireturn, 1) := by decide +kernel
theorem dX9_wayOf_112 : decode cX9_wayOf 112 = .ok (.iload_n 2, 1) := by decide +kernel
theorem dX9_wayOf_113 : decode cX9_wayOf 113 = .ok (.ifCond .ne 9, 3) := by decide +kernel
theorem dX9_wayOf_116 : decode cX9_wayOf 116 = .ok (.iload_n 1, 1) := by decide +kernel
theorem dX9_wayOf_117 : decode cX9_wayOf 117 = .ok (.iconst 1, 1) := by decide +kernel
theorem dX9_wayOf_118 : decode cX9_wayOf 118 = .ok (.iadd, 1) := by decide +kernel
theorem dX9_wayOf_119 : decode cX9_wayOf 119 = .ok (.goto 5, 3) := by decide +kernel
theorem dX9_wayOf_122 : decode cX9_wayOf 122 = .ok (.bipush (-2), 2) := by decide +kernel
theorem dX9_wayOf_124 : decode cX9_wayOf 124 = .ok (.ireturn, 1) := by decide +kernel
theorem dX9_way_0 : decode cX9_way 0 = .ok (.aload_n 0, 1) := by decide +kernel
theorem dX9_way_1 : decode cX9_way 1 = .ok (.iconst 0, 1) := by decide +kernel
theorem dX9_way_2 : decode cX9_way 2 = .ok (.putfield 63, 3) := by decide +kernel
theorem dX9_way_5 : decode cX9_way 5 = .ok (.aload_n 0, 1) := by decide +kernel
theorem dX9_way_6 : decode cX9_way 6 = .ok (.iload_n 1, 1) := by decide +kernel
theorem dX9_way_7 : decode cX9_way 7 = .ok (.invokevirtual 283, 3) := by decide +kernel
theorem dX9_way_10 : decode cX9_way 10 = .ok (.ifCond .eq 12, 3) := by decide +kernel
theorem dX9_way_13 : decode cX9_way 13 = .ok (.iload_n 2, 1) := by decide +kernel
theorem dX9_way_14 : decode cX9_way 14 = .ok (.ifCond .lt 8, 3) := by decide +kernel
theorem dX9_way_17 : decode cX9_way 17 = .ok (.iload_n 2, 1) := by decide +kernel
theorem dX9_way_18 : decode cX9_way 18 = .ok (.iconst 1, 1) := by decide +kernel
theorem dX9_way_19 : decode cX9_way 19 = .ok (.if_icmp .le 5, 3) := by decide +kernel
theorem dX9_way_22 : decode cX9_way 22 = .ok (.iconst (-1), 1) := by decide +kernel
theorem dX9_way_23 : decode cX9_way 23 = .ok (.ireturn, 1) := by decide +kernel
theorem dX9_way_24 : decode cX9_way 24 = .ok (.aload_n 0, 1) := by decide +kernel
theorem dX9_way_25 : decode cX9_way 25 = .ok (.iload_n 1, 1) := by decide +kernel
theorem dX9_way_26 : decode cX9_way 26 = .ok (.iload_n 2, 1) := by decide +kernel
theorem dX9_way_27 : decode cX9_way 27 = .ok (.invokevirtual 292, 3) := by decide +kernel
theorem dX9_way_30 : decode cX9_way 30 = .ok (.istore_n 3, 1) := by decide +kernel
theorem dX9_way_31 : decode cX9_way 31 = .ok (.iload_n 3, 1) := by decide +kernel
theorem dX9_way_32 : decode cX9_way 32 = .ok (.bipush (-2), 2) := by decide +kernel
theorem dX9_way_34 : decode cX9_way 34 = .ok (.if_icmp .ne 7, 3) := by decide +kernel
theorem dX9_way_37 : decode cX9_way 37 = .ok (.iconst (-1), 1) := by decide +kernel
theorem dX9_way_38 : decode cX9_way 38 = .ok (.goto 4, 3) := by decide +kernel
theorem dX9_way_41 : decode cX9_way 41 = .ok (.iload_n 3, 1) := by decide +kernel
theorem dX9_way_42 : decode cX9_way 42 = .ok (.ireturn, 1) := by decide +kernel
theorem dX9_spread_0 : decode cX9_spread 0 = .ok (.iconst 0, 1) := by decide +kernel
theorem dX9_spread_1 : decode cX9_spread 1 = .ok (.istore_n 3, 1) := by decide +kernel
theorem dX9_spread_2 : decode cX9_spread 2 = .ok (.iload_n 3, 1) := by decide +kernel
theorem dX9_spread_3 : decode cX9_spread 3 = .ok (.bipush 64, 2) := by decide +kernel
theorem dX9_spread_5 : decode cX9_spread 5 = .ok (.if_icmp .ge 16, 3) := by decide +kernel
theorem dX9_spread_8 : decode cX9_spread 8 = .ok (.aload_n 0, 1) := by decide +kernel
theorem dX9_spread_9 : decode cX9_spread 9 = .ok (.getfield 60, 3) := by decide +kernel
theorem dX9_spread_12 : decode cX9_spread 12 = .ok (.iload_n 3, 1) := by decide +kernel
theorem dX9_spread_13 : decode cX9_spread 13 = .ok (.iconst 0, 1) := by decide +kernel
theorem dX9_spread_14 : decode cX9_spread 14 = .ok (.bastore, 1) := by decide +kernel
theorem dX9_spread_15 : decode cX9_spread 15 = .ok (.iinc 3 1, 3) := by decide +kernel
theorem dX9_spread_18 : decode cX9_spread 18 = .ok (.goto (-16), 3) := by decide +kernel
theorem dX9_spread_21 : decode cX9_spread 21 = .ok (.aload_n 0, 1) := by decide +kernel
theorem dX9_spread_22 : decode cX9_spread 22 = .ok (.iload_n 1, 1) := by decide +kernel
theorem dX9_spread_23 : decode cX9_spread 23 = .ok (.invokevirtual 283, 3) := by decide +kernel
theorem dX9_spread_26 : decode cX9_spread 26 = .ok (.ifCond .eq 15, 3) := by decide +kernel
theorem dX9_spread_29 : decode cX9_spread 29 = .ok (.iload_n 1, 1) := by decide +kernel
theorem dX9_spread_30 : decode cX9_spread 30 = .ok (.iload_n 2, 1) := by decide +kernel
theorem dX9_spread_31 : decode cX9_spread 31 = .ok (.if_icmp .eq 10, 3) := by decide +kernel
theorem dX9_spread_34 : decode cX9_spread 34 = .ok (.aload_n 0, 1) := by decide +kernel
theorem dX9_spread_35 : decode cX9_spread 35 = .ok (.getfield 60, 3) := by decide +kernel
theorem dX9_spread_38 : decode cX9_spread 38 = .ok (.iload_n 1, 1) := by decide +kernel
theorem dX9_spread_39 : decode cX9_spread 39 = .ok (.iconst 1, 1) := by decide +kernel
theorem dX9_spread_40 : decode cX9_spread 40 = .ok (.bastore, 1) := by decide +kernel
theorem dX9_spread_41 : decode cX9_spread 41 = .ok (.iconst 1, 1) := by decide +kernel
theorem dX9_spread_42 : decode cX9_spread 42 = .ok (.istore_n 3, 1) := by decide +kernel
theorem dX9_spread_43 : decode cX9_spread 43 = .ok (.iload_n 3, 1) := by decide +kernel
theorem dX9_spread_44 : decode cX9_spread 44 = .ok (.ifCond .eq 104, 3) := by decide +kernel
theorem dX9_spread_47 : decode cX9_spread 47 = .ok (.iconst 0, 1) := by decide +kernel
theorem dX9_spread_48 : decode cX9_spread 48 = .ok (.istore_n 3, 1) := by decide +kernel
theorem dX9_spread_49 : decode cX9_spread 49 = .ok (.iconst 0, 1) := by decide +kernel
theorem dX9_spread_50 : decode cX9_spread 50 = .ok (.istore 4, 2) := by decide +kernel
theorem dX9_spread_52 : decode cX9_spread 52 = .ok (.iload 4, 2) := by decide +kernel
theorem dX9_spread_54 : decode cX9_spread 54 = .ok (.aload_n 0, 1) := by decide +kernel
theorem dX9_spread_55 : decode cX9_spread 55 = .ok (.getfield 237, 3) := by decide +kernel
theorem dX9_spread_58 : decode cX9_spread 58 = .ok (.if_icmp .ge 87, 3) := by decide +kernel
theorem dX9_spread_61 : decode cX9_spread 61 = .ok (.iconst 0, 1) := by decide +kernel
theorem dX9_spread_62 : decode cX9_spread 62 = .ok (.istore 5, 2) := by decide +kernel
theorem dX9_spread_64 : decode cX9_spread 64 = .ok (.iload 5, 2) := by decide +kernel
theorem dX9_spread_66 : decode cX9_spread 66 = .ok (.iconst 2, 1) := by decide +kernel
theorem dX9_spread_67 : decode cX9_spread 67 = .ok (.if_icmp .ge 72, 3) := by decide +kernel
theorem dX9_spread_70 : decode cX9_spread 70 = .ok (.aload_n 0, 1) := by decide +kernel
theorem dX9_spread_71 : decode cX9_spread 71 = .ok (.getfield 60, 3) := by decide +kernel
theorem dX9_spread_74 : decode cX9_spread 74 = .ok (.iload 4, 2) := by decide +kernel
theorem dX9_spread_76 : decode cX9_spread 76 = .ok (.baload, 1) := by decide +kernel
theorem dX9_spread_77 : decode cX9_spread 77 = .ok (.ifCond .eq 62, 3) := by decide +kernel
theorem dX9_spread_80 : decode cX9_spread 80 = .ok (.aload_n 0, 1) := by decide +kernel
theorem dX9_spread_81 : decode cX9_spread 81 = .ok (.iload 4, 2) := by decide +kernel
theorem dX9_spread_83 : decode cX9_spread 83 = .ok (.iload 5, 2) := by decide +kernel
theorem dX9_spread_85 : decode cX9_spread 85 = .ok (.invokevirtual 292, 3) := by decide +kernel
theorem dX9_spread_88 : decode cX9_spread 88 = .ok (.istore 6, 2) := by decide +kernel
theorem dX9_spread_90 : decode cX9_spread 90 = .ok (.iload 6, 2) := by decide +kernel
theorem dX9_spread_92 : decode cX9_spread 92 = .ok (.ifCond .lt 41, 3) := by decide +kernel
theorem dX9_spread_95 : decode cX9_spread 95 = .ok (.aload_n 0, 1) := by decide +kernel
theorem dX9_spread_96 : decode cX9_spread 96 = .ok (.iload 6, 2) := by decide +kernel
theorem dX9_spread_98 : decode cX9_spread 98 = .ok (.invokevirtual 283, 3) := by decide +kernel
theorem dX9_spread_101 : decode cX9_spread 101 = .ok (.ifCond .eq 32, 3) := by decide +kernel
theorem dX9_spread_104 : decode cX9_spread 104 = .ok (.iload 6, 2) := by decide +kernel
theorem dX9_spread_106 : decode cX9_spread 106 = .ok (.iload_n 2, 1) := by decide +kernel
theorem dX9_spread_107 : decode cX9_spread 107 = .ok (.if_icmp .eq 26, 3) := by decide +kernel
theorem dX9_spread_110 : decode cX9_spread 110 = .ok (.aload_n 0, 1) := by decide +kernel
theorem dX9_spread_111 : decode cX9_spread 111 = .ok (.getfield 60, 3) := by decide +kernel
theorem dX9_spread_114 : decode cX9_spread 114 = .ok (.iload 6, 2) := by decide +kernel
theorem dX9_spread_116 : decode cX9_spread 116 = .ok (.baload, 1) := by decide +kernel
theorem dX9_spread_117 : decode cX9_spread 117 = .ok (.ifCond .eq 6, 3) := by decide +kernel
theorem dX9_spread_120 : decode cX9_spread 120 = .ok (.goto 13, 3) := by decide +kernel
theorem dX9_spread_123 : decode cX9_spread 123 = .ok (.aload_n 0, 1) := by decide +kernel
theorem dX9_spread_124 : decode cX9_spread 124 = .ok (.getfield 60, 3) := by decide +kernel
theorem dX9_spread_127 : decode cX9_spread 127 = .ok (.iload 6, 2) := by decide +kernel
theorem dX9_spread_129 : decode cX9_spread 129 = .ok (.iconst 1, 1) := by decide +kernel
theorem dX9_spread_130 : decode cX9_spread 130 = .ok (.bastore, 1) := by decide +kernel
theorem dX9_spread_131 : decode cX9_spread 131 = .ok (.iconst 1, 1) := by decide +kernel
theorem dX9_spread_132 : decode cX9_spread 132 = .ok (.istore_n 3, 1) := by decide +kernel
theorem dX9_spread_133 : decode cX9_spread 133 = .ok (.iinc 5 1, 3) := by decide +kernel
theorem dX9_spread_136 : decode cX9_spread 136 = .ok (.goto (-72), 3) := by decide +kernel
theorem dX9_spread_139 : decode cX9_spread 139 = .ok (.iinc 4 1, 3) := by decide +kernel
theorem dX9_spread_142 : decode cX9_spread 142 = .ok (.goto (-90), 3) := by decide +kernel
theorem dX9_spread_145 : decode cX9_spread 145 = .ok (.goto (-102), 3) := by decide +kernel
theorem dX9_spread_148 : decode cX9_spread 148 = .ok (.return_, 1) := by decide +kernel
theorem dX9_reached_0 : decode cX9_reached 0 = .ok (.aload_n 0, 1) := by decide +kernel
theorem dX9_reached_1 : decode cX9_reached 1 = .ok (.iconst 0, 1) := by decide +kernel
theorem dX9_reached_2 : decode cX9_reached 2 = .ok (.putfield 63, 3) := by decide +kernel
theorem dX9_reached_5 : decode cX9_reached 5 = .ok (.aload_n 0, 1) := by decide +kernel
theorem dX9_reached_6 : decode cX9_reached 6 = .ok (.iload_n 1, 1) := by decide +kernel
theorem dX9_reached_7 : decode cX9_reached 7 = .ok (.invokevirtual 283, 3) := by decide +kernel
theorem dX9_reached_10 : decode cX9_reached 10 = .ok (.ifCond .ne 5, 3) := by decide +kernel
theorem dX9_reached_13 : decode cX9_reached 13 = .ok (.iconst 0, 1) := by decide +kernel
theorem dX9_reached_14 : decode cX9_reached 14 = .ok (.ireturn, 1) := by decide +kernel
theorem dX9_reached_15 : decode cX9_reached 15 = .ok (.aload_n 0, 1) := by decide +kernel
theorem dX9_reached_16 : decode cX9_reached 16 = .ok (.iconst 0, 1) := by decide +kernel
theorem dX9_reached_17 : decode cX9_reached 17 = .ok (.iconst (-1), 1) := by decide +kernel
theorem dX9_reached_18 : decode cX9_reached 18 = .ok (.invokevirtual 295, 3) := by decide +kernel
theorem dX9_reached_21 : decode cX9_reached 21 = .ok (.aload_n 0, 1) := by decide +kernel
theorem dX9_reached_22 : decode cX9_reached 22 = .ok (.getfield 60, 3) := by decide +kernel
theorem dX9_reached_25 : decode cX9_reached 25 = .ok (.iload_n 1, 1) := by decide +kernel
theorem dX9_reached_26 : decode cX9_reached 26 = .ok (.baload, 1) := by decide +kernel
theorem dX9_reached_27 : decode cX9_reached 27 = .ok (.ireturn, 1) := by decide +kernel
theorem dX9_reads_0 : decode cX9_reads 0 = .ok (.aload_n 0, 1) := by decide +kernel
theorem dX9_reads_1 : decode cX9_reads 1 = .ok (.getfield 23, 3) := by decide +kernel
theorem dX9_reads_4 : decode cX9_reads 4 = .ok (.iload_n 1, 1) := by decide +kernel
theorem dX9_reads_5 : decode cX9_reads 5 = .ok (.laload, 1) := by decide +kernel
theorem dX9_reads_6 : decode cX9_reads 6 = .ok (.lstore_n 3, 1) := by decide +kernel
theorem dX9_reads_7 : decode cX9_reads 7 = .ok (.lload_n 3, 1) := by decide +kernel
theorem dX9_reads_8 : decode cX9_reads 8 = .ok (.invokestatic 276, 3) := by decide +kernel
theorem dX9_reads_11 : decode cX9_reads 11 = .ok (.istore 5, 2) := by decide +kernel
theorem dX9_reads_13 : decode cX9_reads 13 = .ok (.iload 5, 2) := by decide +kernel
theorem dX9_reads_15 : decode cX9_reads 15 = .ok (.iconst (-1), 1) := by decide +kernel
theorem dX9_reads_16 : decode cX9_reads 16 = .ok (.if_icmp .ne 5, 3) := by decide +kernel
theorem dX9_reads_19 : decode cX9_reads 19 = .ok (.iconst 0, 1) := by decide +kernel
theorem dX9_reads_20 : decode cX9_reads 20 = .ok (.ireturn, 1) := by decide +kernel
theorem dX9_reads_21 : decode cX9_reads 21 = .ok (.iload_n 2, 1) := by decide +kernel
theorem dX9_reads_22 : decode cX9_reads 22 = .ok (.bipush 15, 2) := by decide +kernel
theorem dX9_reads_24 : decode cX9_reads 24 = .ok (.if_icmp .le 26, 3) := by decide +kernel
theorem dX9_reads_27 : decode cX9_reads 27 = .ok (.aload_n 0, 1) := by decide +kernel
theorem dX9_reads_28 : decode cX9_reads 28 = .ok (.iload_n 1, 1) := by decide +kernel
theorem dX9_reads_29 : decode cX9_reads 29 = .ok (.invokevirtual 289, 3) := by decide +kernel
theorem dX9_reads_32 : decode cX9_reads 32 = .ok (.ifCond .eq 18, 3) := by decide +kernel
theorem dX9_reads_35 : decode cX9_reads 35 = .ok (.lload_n 3, 1) := by decide +kernel
theorem dX9_reads_36 : decode cX9_reads 36 = .ok (.invokestatic 245, 3) := by decide +kernel
theorem dX9_reads_39 : decode cX9_reads 39 = .ok (.iconst 3, 1) := by decide +kernel
theorem dX9_reads_40 : decode cX9_reads 40 = .ok (.iand, 1) := by decide +kernel
theorem dX9_reads_41 : decode cX9_reads 41 = .ok (.iload_n 2, 1) := by decide +kernel
theorem dX9_reads_42 : decode cX9_reads 42 = .ok (.bipush 16, 2) := by decide +kernel
theorem dX9_reads_44 : decode cX9_reads 44 = .ok (.isub, 1) := by decide +kernel
theorem dX9_reads_45 : decode cX9_reads 45 = .ok (.if_icmp .ne 5, 3) := by decide +kernel
theorem dX9_reads_48 : decode cX9_reads 48 = .ok (.iconst 1, 1) := by decide +kernel
theorem dX9_reads_49 : decode cX9_reads 49 = .ok (.ireturn, 1) := by decide +kernel
theorem dX9_reads_50 : decode cX9_reads 50 = .ok (.iconst 0, 1) := by decide +kernel
theorem dX9_reads_51 : decode cX9_reads 51 = .ok (.istore 6, 2) := by decide +kernel
theorem dX9_reads_53 : decode cX9_reads 53 = .ok (.iload 6, 2) := by decide +kernel
theorem dX9_reads_55 : decode cX9_reads 55 = .ok (.iconst 4, 1) := by decide +kernel
theorem dX9_reads_56 : decode cX9_reads 56 = .ok (.if_icmp .ge 113, 3) := by decide +kernel
theorem dX9_reads_59 : decode cX9_reads 59 = .ok (.iload 5, 2) := by decide +kernel
theorem dX9_reads_61 : decode cX9_reads 61 = .ok (.iload 6, 2) := by decide +kernel
theorem dX9_reads_63 : decode cX9_reads 63 = .ok (.invokestatic 207, 3) := by decide +kernel
theorem dX9_reads_66 : decode cX9_reads 66 = .ok (.istore 7, 2) := by decide +kernel
theorem dX9_reads_68 : decode cX9_reads 68 = .ok (.iload 7, 2) := by decide +kernel
theorem dX9_reads_70 : decode cX9_reads 70 = .ok (.bipush 65, 2) := by decide +kernel
theorem dX9_reads_72 : decode cX9_reads 72 = .ok (.if_icmp .eq 10, 3) := by decide +kernel
theorem dX9_reads_75 : decode cX9_reads 75 = .ok (.iload 7, 2) := by decide +kernel
theorem dX9_reads_77 : decode cX9_reads 77 = .ok (.bipush 77, 2) := by decide +kernel
theorem dX9_reads_79 : decode cX9_reads 79 = .ok (.if_icmp .ne 11, 3) := by decide +kernel
theorem dX9_reads_82 : decode cX9_reads 82 = .ok (.lload_n 3, 1) := by decide +kernel
theorem dX9_reads_83 : decode cX9_reads 83 = .ok (.invokestatic 254, 3) := by decide +kernel
theorem dX9_reads_86 : decode cX9_reads 86 = .ok (.iload_n 2, 1) := by decide +kernel
theorem dX9_reads_87 : decode cX9_reads 87 = .ok (.if_icmp .eq 18, 3) := by decide +kernel
theorem dX9_reads_90 : decode cX9_reads 90 = .ok (.iload 7, 2) := by decide +kernel
theorem dX9_reads_92 : decode cX9_reads 92 = .ok (.bipush 66, 2) := by decide +kernel
theorem dX9_reads_94 : decode cX9_reads 94 = .ok (.if_icmp .ne 13, 3) := by decide +kernel
theorem dX9_reads_97 : decode cX9_reads 97 = .ok (.lload_n 3, 1) := by decide +kernel
theorem dX9_reads_98 : decode cX9_reads 98 = .ok (.invokestatic 257, 3) := by decide +kernel
theorem dX9_reads_101 : decode cX9_reads 101 = .ok (.iload_n 2, 1) := by decide +kernel
theorem dX9_reads_102 : decode cX9_reads 102 = .ok (.if_icmp .ne 5, 3) := by decide +kernel
theorem dX9_reads_105 : decode cX9_reads 105 = .ok (.iconst 1, 1) := by decide +kernel
theorem dX9_reads_106 : decode cX9_reads 106 = .ok (.ireturn, 1) := by decide +kernel
theorem dX9_reads_107 : decode cX9_reads 107 = .ok (.iload 7, 2) := by decide +kernel
theorem dX9_reads_109 : decode cX9_reads 109 = .ok (.bipush 97, 2) := by decide +kernel
theorem dX9_reads_111 : decode cX9_reads 111 = .ok (.if_icmp .ne 14, 3) := by decide +kernel
theorem dX9_reads_114 : decode cX9_reads 114 = .ok (.lload_n 3, 1) := by decide +kernel
theorem dX9_reads_115 : decode cX9_reads 115 = .ok (.invokestatic 254, 3) := by decide +kernel
theorem dX9_reads_118 : decode cX9_reads 118 = .ok (.bipush 16, 2) := by decide +kernel
theorem dX9_reads_120 : decode cX9_reads 120 = .ok (.iadd, 1) := by decide +kernel
theorem dX9_reads_121 : decode cX9_reads 121 = .ok (.iload_n 2, 1) := by decide +kernel
theorem dX9_reads_122 : decode cX9_reads 122 = .ok (.if_icmp .eq 39, 3) := by decide +kernel
theorem dX9_reads_125 : decode cX9_reads 125 = .ok (.iload 7, 2) := by decide +kernel
theorem dX9_reads_127 : decode cX9_reads 127 = .ok (.bipush 98, 2) := by decide +kernel
theorem dX9_reads_129 : decode cX9_reads 129 = .ok (.if_icmp .ne 14, 3) := by decide +kernel
theorem dX9_reads_132 : decode cX9_reads 132 = .ok (.lload_n 3, 1) := by decide +kernel
theorem dX9_reads_133 : decode cX9_reads 133 = .ok (.invokestatic 257, 3) := by decide +kernel
theorem dX9_reads_136 : decode cX9_reads 136 = .ok (.bipush 16, 2) := by decide +kernel
theorem dX9_reads_138 : decode cX9_reads 138 = .ok (.iadd, 1) := by decide +kernel
theorem dX9_reads_139 : decode cX9_reads 139 = .ok (.iload_n 2, 1) := by decide +kernel
theorem dX9_reads_140 : decode cX9_reads 140 = .ok (.if_icmp .eq 21, 3) := by decide +kernel
theorem dX9_reads_143 : decode cX9_reads 143 = .ok (.iload 7, 2) := by decide +kernel
theorem dX9_reads_145 : decode cX9_reads 145 = .ok (.bipush 80, 2) := by decide +kernel
theorem dX9_reads_147 : decode cX9_reads 147 = .ok (.if_icmp .ne 16, 3) := by decide +kernel
theorem dX9_reads_150 : decode cX9_reads 150 = .ok (.lload_n 3, 1) := by decide +kernel
theorem dX9_reads_151 : decode cX9_reads 151 = .ok (.invokestatic 248, 3) := by decide +kernel
theorem dX9_reads_154 : decode cX9_reads 154 = .ok (.bipush 16, 2) := by decide +kernel
theorem dX9_reads_156 : decode cX9_reads 156 = .ok (.iadd, 1) := by decide +kernel
theorem dX9_reads_157 : decode cX9_reads 157 = .ok (.iload_n 2, 1) := by decide +kernel
theorem dX9_reads_158 : decode cX9_reads 158 = .ok (.if_icmp .ne 5, 3) := by decide +kernel
theorem dX9_reads_161 : decode cX9_reads 161 = .ok (.iconst 1, 1) := by decide +kernel
theorem dX9_reads_162 : decode cX9_reads 162 = .ok (.ireturn, 1) := by decide +kernel
theorem dX9_reads_163 : decode cX9_reads 163 = .ok (.iinc 6 1, 3) := by decide +kernel
theorem dX9_reads_166 : decode cX9_reads 166 = .ok (.goto (-113), 3) := by decide +kernel
theorem dX9_reads_169 : decode cX9_reads 169 = .ok (.iload 5, 2) := by decide +kernel
theorem dX9_reads_171 : decode cX9_reads 171 = .ok (.invokestatic 201, 3) := by decide +kernel
theorem dX9_reads_174 : decode cX9_reads 174 = .ok (.bipush 57, 2) := by decide +kernel
theorem dX9_reads_176 : decode cX9_reads 176 = .ok (.if_icmp .ne 15, 3) := by decide +kernel
theorem dX9_reads_179 : decode cX9_reads 179 = .ok (.lload_n 3, 1) := by decide +kernel
theorem dX9_reads_180 : decode cX9_reads 180 = .ok (.invokestatic 251, 3) := by decide +kernel
theorem dX9_reads_183 : decode cX9_reads 183 = .ok (.iload_n 2, 1) := by decide +kernel
theorem dX9_reads_184 : decode cX9_reads 184 = .ok (.if_icmp .ne 7, 3) := by decide +kernel
theorem dX9_reads_187 : decode cX9_reads 187 = .ok (.iconst 1, 1) := by decide +kernel
theorem dX9_reads_188 : decode cX9_reads 188 = .ok (.goto 4, 3) := by decide +kernel
theorem dX9_reads_191 : decode cX9_reads 191 = .ok (.iconst 0, 1) := by decide +kernel
theorem dX9_reads_192 : decode cX9_reads 192 = .ok (.ireturn, 1) := by decide +kernel
theorem dX9_writes_0 : decode cX9_writes 0 = .ok (.aload_n 0, 1) := by decide +kernel
theorem dX9_writes_1 : decode cX9_writes 1 = .ok (.getfield 23, 3) := by decide +kernel
theorem dX9_writes_4 : decode cX9_writes 4 = .ok (.iload_n 1, 1) := by decide +kernel
theorem dX9_writes_5 : decode cX9_writes 5 = .ok (.laload, 1) := by decide +kernel
theorem dX9_writes_6 : decode cX9_writes 6 = .ok (.invokestatic 276, 3) := by decide +kernel
theorem dX9_writes_9 : decode cX9_writes 9 = .ok (.istore_n 3, 1) := by decide +kernel
theorem dX9_writes_10 : decode cX9_writes 10 = .ok (.iload_n 3, 1) := by decide +kernel
theorem dX9_writes_11 : decode cX9_writes 11 = .ok (.iconst (-1), 1) := by decide +kernel
theorem dX9_writes_12 : decode cX9_writes 12 = .ok (.if_icmp .eq 11, 3) := by decide +kernel
theorem dX9_writes_15 : decode cX9_writes 15 = .ok (.aload_n 0, 1) := by decide +kernel
theorem dX9_writes_16 : decode cX9_writes 16 = .ok (.iload_n 1, 1) := by decide +kernel
theorem dX9_writes_17 : decode cX9_writes 17 = .ok (.invokevirtual 289, 3) := by decide +kernel
theorem dX9_writes_20 : decode cX9_writes 20 = .ok (.ifCond .eq 5, 3) := by decide +kernel
theorem dX9_writes_23 : decode cX9_writes 23 = .ok (.iconst 0, 1) := by decide +kernel
theorem dX9_writes_24 : decode cX9_writes 24 = .ok (.ireturn, 1) := by decide +kernel
theorem dX9_writes_25 : decode cX9_writes 25 = .ok (.iconst 0, 1) := by decide +kernel
theorem dX9_writes_26 : decode cX9_writes 26 = .ok (.istore 4, 2) := by decide +kernel
theorem dX9_writes_28 : decode cX9_writes 28 = .ok (.iload 4, 2) := by decide +kernel
theorem dX9_writes_30 : decode cX9_writes 30 = .ok (.iconst 4, 1) := by decide +kernel
theorem dX9_writes_31 : decode cX9_writes 31 = .ok (.if_icmp .ge 62, 3) := by decide +kernel
theorem dX9_writes_34 : decode cX9_writes 34 = .ok (.iload_n 3, 1) := by decide +kernel
theorem dX9_writes_35 : decode cX9_writes 35 = .ok (.iload 4, 2) := by decide +kernel
theorem dX9_writes_37 : decode cX9_writes 37 = .ok (.invokestatic 207, 3) := by decide +kernel
theorem dX9_writes_40 : decode cX9_writes 40 = .ok (.bipush 68, 2) := by decide +kernel
theorem dX9_writes_42 : decode cX9_writes 42 = .ok (.if_icmp .ne 16, 3) := by decide +kernel
theorem dX9_writes_45 : decode cX9_writes 45 = .ok (.aload_n 0, 1) := by decide +kernel
theorem dX9_writes_46 : decode cX9_writes 46 = .ok (.getfield 23, 3) := by decide +kernel
theorem dX9_writes_49 : decode cX9_writes 49 = .ok (.iload_n 1, 1) := by decide +kernel
theorem dX9_writes_50 : decode cX9_writes 50 = .ok (.laload, 1) := by decide +kernel
theorem dX9_writes_51 : decode cX9_writes 51 = .ok (.invokestatic 251, 3) := by decide +kernel
theorem dX9_writes_54 : decode cX9_writes 54 = .ok (.iload_n 2, 1) := by decide +kernel
theorem dX9_writes_55 : decode cX9_writes 55 = .ok (.if_icmp .eq 30, 3) := by decide +kernel
theorem dX9_writes_58 : decode cX9_writes 58 = .ok (.iload_n 3, 1) := by decide +kernel
theorem dX9_writes_59 : decode cX9_writes 59 = .ok (.iload 4, 2) := by decide +kernel
theorem dX9_writes_61 : decode cX9_writes 61 = .ok (.invokestatic 207, 3) := by decide +kernel
theorem dX9_writes_64 : decode cX9_writes 64 = .ok (.bipush 100, 2) := by decide +kernel
theorem dX9_writes_66 : decode cX9_writes 66 = .ok (.if_icmp .ne 21, 3) := by decide +kernel
theorem dX9_writes_69 : decode cX9_writes 69 = .ok (.aload_n 0, 1) := by decide +kernel
theorem dX9_writes_70 : decode cX9_writes 70 = .ok (.getfield 23, 3) := by decide +kernel
theorem dX9_writes_73 : decode cX9_writes 73 = .ok (.iload_n 1, 1) := by decide +kernel
theorem dX9_writes_74 : decode cX9_writes 74 = .ok (.laload, 1) := by decide +kernel
theorem dX9_writes_75 : decode cX9_writes 75 = .ok (.invokestatic 251, 3) := by decide +kernel
theorem dX9_writes_78 : decode cX9_writes 78 = .ok (.bipush 16, 2) := by decide +kernel
theorem dX9_writes_80 : decode cX9_writes 80 = .ok (.iadd, 1) := by decide +kernel
theorem dX9_writes_81 : decode cX9_writes 81 = .ok (.iload_n 2, 1) := by decide +kernel
theorem dX9_writes_82 : decode cX9_writes 82 = .ok (.if_icmp .ne 5, 3) := by decide +kernel
theorem dX9_writes_85 : decode cX9_writes 85 = .ok (.iconst 1, 1) := by decide +kernel
theorem dX9_writes_86 : decode cX9_writes 86 = .ok (.ireturn, 1) := by decide +kernel
theorem dX9_writes_87 : decode cX9_writes 87 = .ok (.iinc 4 1, 3) := by decide +kernel
theorem dX9_writes_90 : decode cX9_writes 90 = .ok (.goto (-62), 3) := by decide +kernel
theorem dX9_writes_93 : decode cX9_writes 93 = .ok (.iconst 0, 1) := by decide +kernel
theorem dX9_writes_94 : decode cX9_writes 94 = .ok (.ireturn, 1) := by decide +kernel
theorem dX9_live_0 : decode cX9_live 0 = .ok (.aload_n 0, 1) := by decide +kernel
theorem dX9_live_1 : decode cX9_live 1 = .ok (.iconst 0, 1) := by decide +kernel
theorem dX9_live_2 : decode cX9_live 2 = .ok (.putfield 63, 3) := by decide +kernel
theorem dX9_live_5 : decode cX9_live 5 = .ok (.aload_n 0, 1) := by decide +kernel
theorem dX9_live_6 : decode cX9_live 6 = .ok (.iload_n 1, 1) := by decide +kernel
theorem dX9_live_7 : decode cX9_live 7 = .ok (.invokevirtual 283, 3) := by decide +kernel
theorem dX9_live_10 : decode cX9_live 10 = .ok (.ifCond .eq 13, 3) := by decide +kernel
theorem dX9_live_13 : decode cX9_live 13 = .ok (.iload_n 2, 1) := by decide +kernel
theorem dX9_live_14 : decode cX9_live 14 = .ok (.ifCond .lt 9, 3) := by decide +kernel
theorem dX9_live_17 : decode cX9_live 17 = .ok (.iload_n 2, 1) := by decide +kernel
theorem dX9_live_18 : decode cX9_live 18 = .ok (.bipush 19, 2) := by decide +kernel
theorem dX9_live_20 : decode cX9_live 20 = .ok (.if_icmp .le 5, 3) := by decide +kernel
theorem dX9_live_23 : decode cX9_live 23 = .ok (.iconst 0, 1) := by decide +kernel
theorem dX9_live_24 : decode cX9_live 24 = .ok (.ireturn, 1) := by decide +kernel
theorem dX9_live_25 : decode cX9_live 25 = .ok (.iconst 0, 1) := by decide +kernel
theorem dX9_live_26 : decode cX9_live 26 = .ok (.istore_n 3, 1) := by decide +kernel
theorem dX9_live_27 : decode cX9_live 27 = .ok (.iload_n 3, 1) := by decide +kernel
theorem dX9_live_28 : decode cX9_live 28 = .ok (.bipush 64, 2) := by decide +kernel
theorem dX9_live_30 : decode cX9_live 30 = .ok (.if_icmp .ge 25, 3) := by decide +kernel
theorem dX9_live_33 : decode cX9_live 33 = .ok (.aload_n 0, 1) := by decide +kernel
theorem dX9_live_34 : decode cX9_live 34 = .ok (.getfield 60, 3) := by decide +kernel
theorem dX9_live_37 : decode cX9_live 37 = .ok (.iload_n 3, 1) := by decide +kernel
theorem dX9_live_38 : decode cX9_live 38 = .ok (.iload_n 3, 1) := by decide +kernel
theorem dX9_live_39 : decode cX9_live 39 = .ok (.iload_n 1, 1) := by decide +kernel
theorem dX9_live_40 : decode cX9_live 40 = .ok (.if_icmp .ne 7, 3) := by decide +kernel
theorem dX9_live_43 : decode cX9_live 43 = .ok (.iconst 1, 1) := by decide +kernel
theorem dX9_live_44 : decode cX9_live 44 = .ok (.goto 4, 3) := by decide +kernel
theorem dX9_live_47 : decode cX9_live 47 = .ok (.iconst 0, 1) := by decide +kernel
theorem dX9_live_48 : decode cX9_live 48 = .ok (.bastore, 1) := by decide +kernel
theorem dX9_live_49 : decode cX9_live 49 = .ok (.iinc 3 1, 3) := by decide +kernel
theorem dX9_live_52 : decode cX9_live 52 = .ok (.goto (-25), 3) := by decide +kernel
theorem dX9_live_55 : decode cX9_live 55 = .ok (.iconst 1, 1) := by decide +kernel
theorem dX9_live_56 : decode cX9_live 56 = .ok (.istore_n 3, 1) := by decide +kernel
theorem dX9_live_57 : decode cX9_live 57 = .ok (.iload_n 3, 1) := by decide +kernel
theorem dX9_live_58 : decode cX9_live 58 = .ok (.ifCond .eq 123, 3) := by decide +kernel
theorem dX9_live_61 : decode cX9_live 61 = .ok (.iconst 0, 1) := by decide +kernel
theorem dX9_live_62 : decode cX9_live 62 = .ok (.istore_n 3, 1) := by decide +kernel
theorem dX9_live_63 : decode cX9_live 63 = .ok (.iconst 0, 1) := by decide +kernel
theorem dX9_live_64 : decode cX9_live 64 = .ok (.istore 4, 2) := by decide +kernel
theorem dX9_live_66 : decode cX9_live 66 = .ok (.iload 4, 2) := by decide +kernel
theorem dX9_live_68 : decode cX9_live 68 = .ok (.aload_n 0, 1) := by decide +kernel
theorem dX9_live_69 : decode cX9_live 69 = .ok (.getfield 237, 3) := by decide +kernel
theorem dX9_live_72 : decode cX9_live 72 = .ok (.if_icmp .ge 106, 3) := by decide +kernel
theorem dX9_live_75 : decode cX9_live 75 = .ok (.aload_n 0, 1) := by decide +kernel
theorem dX9_live_76 : decode cX9_live 76 = .ok (.getfield 60, 3) := by decide +kernel
theorem dX9_live_79 : decode cX9_live 79 = .ok (.iload 4, 2) := by decide +kernel
theorem dX9_live_81 : decode cX9_live 81 = .ok (.baload, 1) := by decide +kernel
theorem dX9_live_82 : decode cX9_live 82 = .ok (.ifCond .ne 6, 3) := by decide +kernel
theorem dX9_live_85 : decode cX9_live 85 = .ok (.goto 87, 3) := by decide +kernel
theorem dX9_live_88 : decode cX9_live 88 = .ok (.aload_n 0, 1) := by decide +kernel
theorem dX9_live_89 : decode cX9_live 89 = .ok (.iload 4, 2) := by decide +kernel
theorem dX9_live_91 : decode cX9_live 91 = .ok (.iload_n 2, 1) := by decide +kernel
theorem dX9_live_92 : decode cX9_live 92 = .ok (.invokevirtual 298, 3) := by decide +kernel
theorem dX9_live_95 : decode cX9_live 95 = .ok (.ifCond .eq 5, 3) := by decide +kernel
theorem dX9_live_98 : decode cX9_live 98 = .ok (.iconst 1, 1) := by decide +kernel
theorem dX9_live_99 : decode cX9_live 99 = .ok (.ireturn, 1) := by decide +kernel
theorem dX9_live_100 : decode cX9_live 100 = .ok (.iconst 0, 1) := by decide +kernel
theorem dX9_live_101 : decode cX9_live 101 = .ok (.istore 5, 2) := by decide +kernel
theorem dX9_live_103 : decode cX9_live 103 = .ok (.iload 5, 2) := by decide +kernel
theorem dX9_live_105 : decode cX9_live 105 = .ok (.iconst 2, 1) := by decide +kernel
theorem dX9_live_106 : decode cX9_live 106 = .ok (.if_icmp .ge 66, 3) := by decide +kernel
theorem dX9_live_109 : decode cX9_live 109 = .ok (.aload_n 0, 1) := by decide +kernel
theorem dX9_live_110 : decode cX9_live 110 = .ok (.iload 4, 2) := by decide +kernel
theorem dX9_live_112 : decode cX9_live 112 = .ok (.iload_n 2, 1) := by decide +kernel
theorem dX9_live_113 : decode cX9_live 113 = .ok (.invokevirtual 302, 3) := by decide +kernel
theorem dX9_live_116 : decode cX9_live 116 = .ok (.ifCond .ne 56, 3) := by decide +kernel
theorem dX9_live_119 : decode cX9_live 119 = .ok (.aload_n 0, 1) := by decide +kernel
theorem dX9_live_120 : decode cX9_live 120 = .ok (.iload 4, 2) := by decide +kernel
theorem dX9_live_122 : decode cX9_live 122 = .ok (.iload 5, 2) := by decide +kernel
theorem dX9_live_124 : decode cX9_live 124 = .ok (.invokevirtual 292, 3) := by decide +kernel
theorem dX9_live_127 : decode cX9_live 127 = .ok (.istore 6, 2) := by decide +kernel
theorem dX9_live_129 : decode cX9_live 129 = .ok (.iload 6, 2) := by decide +kernel
theorem dX9_live_131 : decode cX9_live 131 = .ok (.ifCond .lt 35, 3) := by decide +kernel
theorem dX9_live_134 : decode cX9_live 134 = .ok (.aload_n 0, 1) := by decide +kernel
theorem dX9_live_135 : decode cX9_live 135 = .ok (.iload 6, 2) := by decide +kernel
theorem dX9_live_137 : decode cX9_live 137 = .ok (.invokevirtual 283, 3) := by decide +kernel
theorem dX9_live_140 : decode cX9_live 140 = .ok (.ifCond .eq 26, 3) := by decide +kernel
theorem dX9_live_143 : decode cX9_live 143 = .ok (.aload_n 0, 1) := by decide +kernel
theorem dX9_live_144 : decode cX9_live 144 = .ok (.getfield 60, 3) := by decide +kernel
theorem dX9_live_147 : decode cX9_live 147 = .ok (.iload 6, 2) := by decide +kernel
theorem dX9_live_149 : decode cX9_live 149 = .ok (.baload, 1) := by decide +kernel
theorem dX9_live_150 : decode cX9_live 150 = .ok (.ifCond .eq 6, 3) := by decide +kernel
theorem dX9_live_153 : decode cX9_live 153 = .ok (.goto 13, 3) := by decide +kernel
theorem dX9_live_156 : decode cX9_live 156 = .ok (.aload_n 0, 1) := by decide +kernel
theorem dX9_live_157 : decode cX9_live 157 = .ok (.getfield 60, 3) := by decide +kernel
theorem dX9_live_160 : decode cX9_live 160 = .ok (.iload 6, 2) := by decide +kernel
theorem dX9_live_162 : decode cX9_live 162 = .ok (.iconst 1, 1) := by decide +kernel
theorem dX9_live_163 : decode cX9_live 163 = .ok (.bastore, 1) := by decide +kernel
theorem dX9_live_164 : decode cX9_live 164 = .ok (.iconst 1, 1) := by decide +kernel
theorem dX9_live_165 : decode cX9_live 165 = .ok (.istore_n 3, 1) := by decide +kernel
theorem dX9_live_166 : decode cX9_live 166 = .ok (.iinc 5 1, 3) := by decide +kernel
theorem dX9_live_169 : decode cX9_live 169 = .ok (.goto (-66), 3) := by decide +kernel
theorem dX9_live_172 : decode cX9_live 172 = .ok (.iinc 4 1, 3) := by decide +kernel
theorem dX9_live_175 : decode cX9_live 175 = .ok (.goto (-109), 3) := by decide +kernel
theorem dX9_live_178 : decode cX9_live 178 = .ok (.goto (-121), 3) := by decide +kernel
theorem dX9_live_181 : decode cX9_live 181 = .ok (.iconst 0, 1) := by decide +kernel
theorem dX9_live_182 : decode cX9_live 182 = .ok (.ireturn, 1) := by decide +kernel
theorem dX9_ends_0 : decode cX9_ends 0 = .ok (.aload_n 0, 1) := by decide +kernel
theorem dX9_ends_1 : decode cX9_ends 1 = .ok (.iload_n 1, 1) := by decide +kernel
theorem dX9_ends_2 : decode cX9_ends 2 = .ok (.iload_n 2, 1) := by decide +kernel
theorem dX9_ends_3 : decode cX9_ends 3 = .ok (.invokevirtual 295, 3) := by decide +kernel
theorem dX9_ends_6 : decode cX9_ends 6 = .ok (.iconst 0, 1) := by decide +kernel
theorem dX9_ends_7 : decode cX9_ends 7 = .ok (.istore_n 3, 1) := by decide +kernel
theorem dX9_ends_8 : decode cX9_ends 8 = .ok (.iload_n 3, 1) := by decide +kernel
theorem dX9_ends_9 : decode cX9_ends 9 = .ok (.aload_n 0, 1) := by decide +kernel
theorem dX9_ends_10 : decode cX9_ends 10 = .ok (.getfield 237, 3) := by decide +kernel
theorem dX9_ends_13 : decode cX9_ends 13 = .ok (.if_icmp .ge 77, 3) := by decide +kernel
theorem dX9_ends_16 : decode cX9_ends 16 = .ok (.aload_n 0, 1) := by decide +kernel
theorem dX9_ends_17 : decode cX9_ends 17 = .ok (.getfield 60, 3) := by decide +kernel
theorem dX9_ends_20 : decode cX9_ends 20 = .ok (.iload_n 3, 1) := by decide +kernel
theorem dX9_ends_21 : decode cX9_ends 21 = .ok (.baload, 1) := by decide +kernel
theorem dX9_ends_22 : decode cX9_ends 22 = .ok (.ifCond .ne 6, 3) := by decide +kernel
theorem dX9_ends_25 : decode cX9_ends 25 = .ok (.goto 59, 3) := by decide +kernel
theorem dX9_ends_28 : decode cX9_ends 28 = .ok (.aload_n 0, 1) := by decide +kernel
theorem dX9_ends_29 : decode cX9_ends 29 = .ok (.iload_n 3, 1) := by decide +kernel
theorem dX9_ends_30 : decode cX9_ends 30 = .ok (.iconst 0, 1) := by decide +kernel
theorem dX9_ends_31 : decode cX9_ends 31 = .ok (.invokevirtual 292, 3) := by decide +kernel
theorem dX9_ends_34 : decode cX9_ends 34 = .ok (.bipush (-2), 2) := by decide +kernel
theorem dX9_ends_36 : decode cX9_ends 36 = .ok (.if_icmp .ne 5, 3) := by decide +kernel
theorem dX9_ends_39 : decode cX9_ends 39 = .ok (.iconst 1, 1) := by decide +kernel
theorem dX9_ends_40 : decode cX9_ends 40 = .ok (.ireturn, 1) := by decide +kernel
theorem dX9_ends_41 : decode cX9_ends 41 = .ok (.iconst 0, 1) := by decide +kernel
theorem dX9_ends_42 : decode cX9_ends 42 = .ok (.istore 4, 2) := by decide +kernel
theorem dX9_ends_44 : decode cX9_ends 44 = .ok (.iload 4, 2) := by decide +kernel
theorem dX9_ends_46 : decode cX9_ends 46 = .ok (.iconst 2, 1) := by decide +kernel
theorem dX9_ends_47 : decode cX9_ends 47 = .ok (.if_icmp .ge 37, 3) := by decide +kernel
theorem dX9_ends_50 : decode cX9_ends 50 = .ok (.aload_n 0, 1) := by decide +kernel
theorem dX9_ends_51 : decode cX9_ends 51 = .ok (.iload_n 3, 1) := by decide +kernel
theorem dX9_ends_52 : decode cX9_ends 52 = .ok (.iload 4, 2) := by decide +kernel
theorem dX9_ends_54 : decode cX9_ends 54 = .ok (.invokevirtual 292, 3) := by decide +kernel
theorem dX9_ends_57 : decode cX9_ends 57 = .ok (.bipush (-2), 2) := by decide +kernel
theorem dX9_ends_59 : decode cX9_ends 59 = .ok (.if_icmp .eq 19, 3) := by decide +kernel
theorem dX9_ends_62 : decode cX9_ends 62 = .ok (.aload_n 0, 1) := by decide +kernel
theorem dX9_ends_63 : decode cX9_ends 63 = .ok (.aload_n 0, 1) := by decide +kernel
theorem dX9_ends_64 : decode cX9_ends 64 = .ok (.iload_n 3, 1) := by decide +kernel
theorem dX9_ends_65 : decode cX9_ends 65 = .ok (.iload 4, 2) := by decide +kernel
theorem dX9_ends_67 : decode cX9_ends 67 = .ok (.invokevirtual 292, 3) := by decide +kernel
theorem dX9_ends_70 : decode cX9_ends 70 = .ok (.invokevirtual 283, 3) := by decide +kernel
theorem dX9_ends_73 : decode cX9_ends 73 = .ok (.ifCond .ne 5, 3) := by decide +kernel
theorem dX9_ends_76 : decode cX9_ends 76 = .ok (.iconst 1, 1) := by decide +kernel
theorem dX9_ends_77 : decode cX9_ends 77 = .ok (.ireturn, 1) := by decide +kernel
theorem dX9_ends_78 : decode cX9_ends 78 = .ok (.iinc 4 1, 3) := by decide +kernel
theorem dX9_ends_81 : decode cX9_ends 81 = .ok (.goto (-37), 3) := by decide +kernel
theorem dX9_ends_84 : decode cX9_ends 84 = .ok (.iinc 3 1, 3) := by decide +kernel
theorem dX9_ends_87 : decode cX9_ends 87 = .ok (.goto (-79), 3) := by decide +kernel
theorem dX9_ends_90 : decode cX9_ends 90 = .ok (.iconst 0, 1) := by decide +kernel
theorem dX9_ends_91 : decode cX9_ends 91 = .ok (.ireturn, 1) := by decide +kernel
theorem dX9_meet_0 : decode cX9_meet 0 = .ok (.aload_n 0, 1) := by decide +kernel
theorem dX9_meet_1 : decode cX9_meet 1 = .ok (.iload_n 1, 1) := by decide +kernel
theorem dX9_meet_2 : decode cX9_meet 2 = .ok (.invokevirtual 305, 3) := by decide +kernel
theorem dX9_meet_5 : decode cX9_meet 5 = .ok (.ifCond .ne 5, 3) := by decide +kernel
theorem dX9_meet_8 : decode cX9_meet 8 = .ok (.iconst (-1), 1) := by decide +kernel
theorem dX9_meet_9 : decode cX9_meet 9 = .ok (.ireturn, 1) := by decide +kernel
theorem dX9_meet_10 : decode cX9_meet 10 = .ok (.aload_n 0, 1) := by decide +kernel
theorem dX9_meet_11 : decode cX9_meet 11 = .ok (.iload_n 1, 1) := by decide +kernel
theorem dX9_meet_12 : decode cX9_meet 12 = .ok (.iconst 0, 1) := by decide +kernel
theorem dX9_meet_13 : decode cX9_meet 13 = .ok (.invokevirtual 292, 3) := by decide +kernel
theorem dX9_meet_16 : decode cX9_meet 16 = .ok (.istore_n 2, 1) := by decide +kernel
theorem dX9_meet_17 : decode cX9_meet 17 = .ok (.aload_n 0, 1) := by decide +kernel
theorem dX9_meet_18 : decode cX9_meet 18 = .ok (.iload_n 1, 1) := by decide +kernel
theorem dX9_meet_19 : decode cX9_meet 19 = .ok (.iconst 1, 1) := by decide +kernel
theorem dX9_meet_20 : decode cX9_meet 20 = .ok (.invokevirtual 292, 3) := by decide +kernel
theorem dX9_meet_23 : decode cX9_meet 23 = .ok (.istore_n 3, 1) := by decide +kernel
theorem dX9_meet_24 : decode cX9_meet 24 = .ok (.iload_n 2, 1) := by decide +kernel
theorem dX9_meet_25 : decode cX9_meet 25 = .ok (.bipush (-2), 2) := by decide +kernel
theorem dX9_meet_27 : decode cX9_meet 27 = .ok (.if_icmp .eq 23, 3) := by decide +kernel
theorem dX9_meet_30 : decode cX9_meet 30 = .ok (.iload_n 3, 1) := by decide +kernel
theorem dX9_meet_31 : decode cX9_meet 31 = .ok (.bipush (-2), 2) := by decide +kernel
theorem dX9_meet_33 : decode cX9_meet 33 = .ok (.if_icmp .eq 17, 3) := by decide +kernel
theorem dX9_meet_36 : decode cX9_meet 36 = .ok (.iload_n 2, 1) := by decide +kernel
theorem dX9_meet_37 : decode cX9_meet 37 = .ok (.iload_n 3, 1) := by decide +kernel
theorem dX9_meet_38 : decode cX9_meet 38 = .ok (.if_icmp .eq 12, 3) := by decide +kernel
theorem dX9_meet_41 : decode cX9_meet 41 = .ok (.aload_n 0, 1) := by decide +kernel
theorem dX9_meet_42 : decode cX9_meet 42 = .ok (.iload_n 1, 1) := by decide +kernel
theorem dX9_meet_43 : decode cX9_meet 43 = .ok (.iconst (-1), 1) := by decide +kernel
theorem dX9_meet_44 : decode cX9_meet 44 = .ok (.invokevirtual 308, 3) := by decide +kernel
theorem dX9_meet_47 : decode cX9_meet 47 = .ok (.ifCond .ne 5, 3) := by decide +kernel
theorem dX9_meet_50 : decode cX9_meet 50 = .ok (.iconst (-1), 1) := by decide +kernel
theorem dX9_meet_51 : decode cX9_meet 51 = .ok (.ireturn, 1) := by decide +kernel
theorem dX9_meet_52 : decode cX9_meet 52 = .ok (.iconst 0, 1) := by decide +kernel
theorem dX9_meet_53 : decode cX9_meet 53 = .ok (.istore 4, 2) := by decide +kernel
theorem dX9_meet_55 : decode cX9_meet 55 = .ok (.iload 4, 2) := by decide +kernel
theorem dX9_meet_57 : decode cX9_meet 57 = .ok (.aload_n 0, 1) := by decide +kernel
theorem dX9_meet_58 : decode cX9_meet 58 = .ok (.getfield 237, 3) := by decide +kernel
theorem dX9_meet_61 : decode cX9_meet 61 = .ok (.if_icmp .ge 38, 3) := by decide +kernel
theorem dX9_meet_64 : decode cX9_meet 64 = .ok (.iload 4, 2) := by decide +kernel
theorem dX9_meet_66 : decode cX9_meet 66 = .ok (.iload_n 1, 1) := by decide +kernel
theorem dX9_meet_67 : decode cX9_meet 67 = .ok (.if_icmp .eq 26, 3) := by decide +kernel
theorem dX9_meet_70 : decode cX9_meet 70 = .ok (.aload_n 0, 1) := by decide +kernel
theorem dX9_meet_71 : decode cX9_meet 71 = .ok (.iload_n 1, 1) := by decide +kernel
theorem dX9_meet_72 : decode cX9_meet 72 = .ok (.iload 4, 2) := by decide +kernel
theorem dX9_meet_74 : decode cX9_meet 74 = .ok (.invokevirtual 308, 3) := by decide +kernel
theorem dX9_meet_77 : decode cX9_meet 77 = .ok (.ifCond .ne 16, 3) := by decide +kernel
theorem dX9_meet_80 : decode cX9_meet 80 = .ok (.aload_n 0, 1) := by decide +kernel
theorem dX9_meet_81 : decode cX9_meet 81 = .ok (.iload_n 1, 1) := by decide +kernel
theorem dX9_meet_82 : decode cX9_meet 82 = .ok (.iload 4, 2) := by decide +kernel
theorem dX9_meet_84 : decode cX9_meet 84 = .ok (.invokevirtual 311, 3) := by decide +kernel
theorem dX9_meet_87 : decode cX9_meet 87 = .ok (.ifCond .eq 6, 3) := by decide +kernel
theorem dX9_meet_90 : decode cX9_meet 90 = .ok (.iload 4, 2) := by decide +kernel
theorem dX9_meet_92 : decode cX9_meet 92 = .ok (.ireturn, 1) := by decide +kernel
theorem dX9_meet_93 : decode cX9_meet 93 = .ok (.iinc 4 1, 3) := by decide +kernel
theorem dX9_meet_96 : decode cX9_meet 96 = .ok (.goto (-41), 3) := by decide +kernel
theorem dX9_meet_99 : decode cX9_meet 99 = .ok (.iconst (-1), 1) := by decide +kernel
theorem dX9_meet_100 : decode cX9_meet 100 = .ok (.ireturn, 1) := by decide +kernel
theorem dX9_isFirst_0 : decode cX9_isFirst 0 = .ok (.iconst 0, 1) := by decide +kernel
theorem dX9_isFirst_1 : decode cX9_isFirst 1 = .ok (.istore_n 3, 1) := by decide +kernel
theorem dX9_isFirst_2 : decode cX9_isFirst 2 = .ok (.iload_n 3, 1) := by decide +kernel
theorem dX9_isFirst_3 : decode cX9_isFirst 3 = .ok (.aload_n 0, 1) := by decide +kernel
theorem dX9_isFirst_4 : decode cX9_isFirst 4 = .ok (.getfield 237, 3) := by decide +kernel
theorem dX9_isFirst_7 : decode cX9_isFirst 7 = .ok (.if_icmp .ge 48, 3) := by decide +kernel
theorem dX9_isFirst_10 : decode cX9_isFirst 10 = .ok (.iload_n 3, 1) := by decide +kernel
theorem dX9_isFirst_11 : decode cX9_isFirst 11 = .ok (.iload_n 1, 1) := by decide +kernel
theorem dX9_isFirst_12 : decode cX9_isFirst 12 = .ok (.if_icmp .eq 37, 3) := by decide +kernel
theorem dX9_isFirst_15 : decode cX9_isFirst 15 = .ok (.iload_n 3, 1) := by decide +kernel
theorem dX9_isFirst_16 : decode cX9_isFirst 16 = .ok (.iload_n 2, 1) := by decide +kernel
theorem dX9_isFirst_17 : decode cX9_isFirst 17 = .ok (.if_icmp .eq 32, 3) := by decide +kernel
theorem dX9_isFirst_20 : decode cX9_isFirst 20 = .ok (.aload_n 0, 1) := by decide +kernel
theorem dX9_isFirst_21 : decode cX9_isFirst 21 = .ok (.iload_n 1, 1) := by decide +kernel
theorem dX9_isFirst_22 : decode cX9_isFirst 22 = .ok (.iload_n 3, 1) := by decide +kernel
theorem dX9_isFirst_23 : decode cX9_isFirst 23 = .ok (.invokevirtual 308, 3) := by decide +kernel
theorem dX9_isFirst_26 : decode cX9_isFirst 26 = .ok (.ifCond .eq 6, 3) := by decide +kernel
theorem dX9_isFirst_29 : decode cX9_isFirst 29 = .ok (.goto 20, 3) := by decide +kernel
theorem dX9_isFirst_32 : decode cX9_isFirst 32 = .ok (.aload_n 0, 1) := by decide +kernel
theorem dX9_isFirst_33 : decode cX9_isFirst 33 = .ok (.iload_n 1, 1) := by decide +kernel
theorem dX9_isFirst_34 : decode cX9_isFirst 34 = .ok (.iload_n 3, 1) := by decide +kernel
theorem dX9_isFirst_35 : decode cX9_isFirst 35 = .ok (.invokevirtual 295, 3) := by decide +kernel
theorem dX9_isFirst_38 : decode cX9_isFirst 38 = .ok (.aload_n 0, 1) := by decide +kernel
theorem dX9_isFirst_39 : decode cX9_isFirst 39 = .ok (.getfield 60, 3) := by decide +kernel
theorem dX9_isFirst_42 : decode cX9_isFirst 42 = .ok (.iload_n 2, 1) := by decide +kernel
theorem dX9_isFirst_43 : decode cX9_isFirst 43 = .ok (.baload, 1) := by decide +kernel
theorem dX9_isFirst_44 : decode cX9_isFirst 44 = .ok (.ifCond .ne 5, 3) := by decide +kernel
theorem dX9_isFirst_47 : decode cX9_isFirst 47 = .ok (.iconst 0, 1) := by decide +kernel
theorem dX9_isFirst_48 : decode cX9_isFirst 48 = .ok (.ireturn, 1) := by decide +kernel
theorem dX9_isFirst_49 : decode cX9_isFirst 49 = .ok (.iinc 3 1, 3) := by decide +kernel
theorem dX9_isFirst_52 : decode cX9_isFirst 52 = .ok (.goto (-50), 3) := by decide +kernel
theorem dX9_isFirst_55 : decode cX9_isFirst 55 = .ok (.iconst 1, 1) := by decide +kernel
theorem dX9_isFirst_56 : decode cX9_isFirst 56 = .ok (.ireturn, 1) := by decide +kernel
theorem dX9_total_0 : decode cX9_total 0 = .ok (.aload_n 0, 1) := by decide +kernel
theorem dX9_total_1 : decode cX9_total 1 = .ok (.iconst 0, 1) := by decide +kernel
theorem dX9_total_2 : decode cX9_total 2 = .ok (.putfield 63, 3) := by decide +kernel
theorem dX9_total_5 : decode cX9_total 5 = .ok (.iconst 0, 1) := by decide +kernel
theorem dX9_total_6 : decode cX9_total 6 = .ok (.istore_n 2, 1) := by decide +kernel
theorem dX9_total_7 : decode cX9_total 7 = .ok (.iload_n 1, 1) := by decide +kernel
theorem dX9_total_8 : decode cX9_total 8 = .ok (.tableswitch 127 0 3 #[32, 37, 78, 88], 32) := by decide +kernel
theorem dX9_total_40 : decode cX9_total 40 = .ok (.aload_n 0, 1) := by decide +kernel
theorem dX9_total_41 : decode cX9_total 41 = .ok (.getfield 237, 3) := by decide +kernel
theorem dX9_total_44 : decode cX9_total 44 = .ok (.ireturn, 1) := by decide +kernel
theorem dX9_total_45 : decode cX9_total 45 = .ok (.aload_n 0, 1) := by decide +kernel
theorem dX9_total_46 : decode cX9_total 46 = .ok (.iconst 0, 1) := by decide +kernel
theorem dX9_total_47 : decode cX9_total 47 = .ok (.iconst (-1), 1) := by decide +kernel
theorem dX9_total_48 : decode cX9_total 48 = .ok (.invokevirtual 295, 3) := by decide +kernel
theorem dX9_total_51 : decode cX9_total 51 = .ok (.iconst 0, 1) := by decide +kernel
theorem dX9_total_52 : decode cX9_total 52 = .ok (.istore_n 3, 1) := by decide +kernel
theorem dX9_total_53 : decode cX9_total 53 = .ok (.iload_n 3, 1) := by decide +kernel
theorem dX9_total_54 : decode cX9_total 54 = .ok (.aload_n 0, 1) := by decide +kernel
theorem dX9_total_55 : decode cX9_total 55 = .ok (.getfield 237, 3) := by decide +kernel
theorem dX9_total_58 : decode cX9_total 58 = .ok (.if_icmp .ge 26, 3) := by decide +kernel
theorem dX9_total_61 : decode cX9_total 61 = .ok (.iload_n 2, 1) := by decide +kernel
theorem dX9_total_62 : decode cX9_total 62 = .ok (.aload_n 0, 1) := by decide +kernel
theorem dX9_total_63 : decode cX9_total 63 = .ok (.getfield 60, 3) := by decide +kernel
theorem dX9_total_66 : decode cX9_total 66 = .ok (.iload_n 3, 1) := by decide +kernel
theorem dX9_total_67 : decode cX9_total 67 = .ok (.baload, 1) := by decide +kernel
theorem dX9_total_68 : decode cX9_total 68 = .ok (.ifCond .eq 7, 3) := by decide +kernel
theorem dX9_total_71 : decode cX9_total 71 = .ok (.iconst 1, 1) := by decide +kernel
theorem dX9_total_72 : decode cX9_total 72 = .ok (.goto 4, 3) := by decide +kernel
theorem dX9_total_75 : decode cX9_total 75 = .ok (.iconst 0, 1) := by decide +kernel
theorem dX9_total_76 : decode cX9_total 76 = .ok (.iadd, 1) := by decide +kernel
theorem dX9_total_77 : decode cX9_total 77 = .ok (.istore_n 2, 1) := by decide +kernel
theorem dX9_total_78 : decode cX9_total 78 = .ok (.iinc 3 1, 3) := by decide +kernel
theorem dX9_total_81 : decode cX9_total 81 = .ok (.goto (-28), 3) := by decide +kernel
theorem dX9_total_84 : decode cX9_total 84 = .ok (.iload_n 2, 1) := by decide +kernel
theorem dX9_total_85 : decode cX9_total 85 = .ok (.ireturn, 1) := by decide +kernel
theorem dX9_total_86 : decode cX9_total 86 = .ok (.aload_n 0, 1) := by decide +kernel
theorem dX9_total_87 : decode cX9_total 87 = .ok (.getfield 29, 3) := by decide +kernel
theorem dX9_total_90 : decode cX9_total 90 = .ok (.aload_n 0, 1) := by decide +kernel
theorem dX9_total_91 : decode cX9_total 91 = .ok (.getfield 141, 3) := by decide +kernel
theorem dX9_total_94 : decode cX9_total 94 = .ok (.iaload, 1) := by decide +kernel
theorem dX9_total_95 : decode cX9_total 95 = .ok (.ireturn, 1) := by decide +kernel
theorem dX9_total_96 : decode cX9_total 96 = .ok (.iconst 0, 1) := by decide +kernel
theorem dX9_total_97 : decode cX9_total 97 = .ok (.istore_n 3, 1) := by decide +kernel
theorem dX9_total_98 : decode cX9_total 98 = .ok (.iload_n 3, 1) := by decide +kernel
theorem dX9_total_99 : decode cX9_total 99 = .ok (.aload_n 0, 1) := by decide +kernel
theorem dX9_total_100 : decode cX9_total 100 = .ok (.getfield 237, 3) := by decide +kernel
theorem dX9_total_103 : decode cX9_total 103 = .ok (.if_icmp .ge 30, 3) := by decide +kernel
theorem dX9_total_106 : decode cX9_total 106 = .ok (.iload_n 2, 1) := by decide +kernel
theorem dX9_total_107 : decode cX9_total 107 = .ok (.aload_n 0, 1) := by decide +kernel
theorem dX9_total_108 : decode cX9_total 108 = .ok (.getfield 23, 3) := by decide +kernel
theorem dX9_total_111 : decode cX9_total 111 = .ok (.iload_n 3, 1) := by decide +kernel
theorem dX9_total_112 : decode cX9_total 112 = .ok (.laload, 1) := by decide +kernel
theorem dX9_total_113 : decode cX9_total 113 = .ok (.invokestatic 276, 3) := by decide +kernel
theorem dX9_total_116 : decode cX9_total 116 = .ok (.iconst (-1), 1) := by decide +kernel
theorem dX9_total_117 : decode cX9_total 117 = .ok (.if_icmp .ne 7, 3) := by decide +kernel
theorem dX9_total_120 : decode cX9_total 120 = .ok (.iconst 1, 1) := by decide +kernel
theorem dX9_total_121 : decode cX9_total 121 = .ok (.goto 4, 3) := by decide +kernel
theorem dX9_total_124 : decode cX9_total 124 = .ok (.iconst 0, 1) := by decide +kernel
theorem dX9_total_125 : decode cX9_total 125 = .ok (.iadd, 1) := by decide +kernel
theorem dX9_total_126 : decode cX9_total 126 = .ok (.istore_n 2, 1) := by decide +kernel
theorem dX9_total_127 : decode cX9_total 127 = .ok (.iinc 3 1, 3) := by decide +kernel
theorem dX9_total_130 : decode cX9_total 130 = .ok (.goto (-32), 3) := by decide +kernel
theorem dX9_total_133 : decode cX9_total 133 = .ok (.iload_n 2, 1) := by decide +kernel
theorem dX9_total_134 : decode cX9_total 134 = .ok (.ireturn, 1) := by decide +kernel
theorem dX9_total_135 : decode cX9_total 135 = .ok (.iconst (-1), 1) := by decide +kernel
theorem dX9_total_136 : decode cX9_total 136 = .ok (.ireturn, 1) := by decide +kernel
theorem dJ5_init_d00df_0 : decode cJ5_init_d00df 0 = .ok (.aload_n 0, 1) := by decide +kernel
theorem dJ5_init_d00df_1 : decode cJ5_init_d00df 1 = .ok (.invokespecial 3, 3) := by decide +kernel
theorem dJ5_init_d00df_4 : decode cJ5_init_d00df 4 = .ok (.getstatic 18, 3) := by decide +kernel
theorem dJ5_init_d00df_7 : decode cJ5_init_d00df 7 = .ok (.ifCond .eq 18, 3) := by decide +kernel
theorem dJ5_init_d00df_10 : decode cJ5_init_d00df 10 = .ok (.aload_n 0, 1) := by decide +kernel
theorem dJ5_init_d00df_11 : decode cJ5_init_d00df 11 = .ok (.iload_n 1, 1) := by decide +kernel
theorem dJ5_init_d00df_12 : decode cJ5_init_d00df 12 = .ok (.newarray .byte, 2) := by decide +kernel
theorem dJ5_init_d00df_14 : decode cJ5_init_d00df 14 = .ok (.putfield 15, 3) := by decide +kernel
theorem dJ5_init_d00df_17 : decode cJ5_init_d00df 17 = .ok (.aload_n 0, 1) := by decide +kernel
theorem dJ5_init_d00df_18 : decode cJ5_init_d00df 18 = .ok (.iconst 0, 1) := by decide +kernel
theorem dJ5_init_d00df_19 : decode cJ5_init_d00df 19 = .ok (.putfield 22, 3) := by decide +kernel
theorem dJ5_init_d00df_22 : decode cJ5_init_d00df 22 = .ok (.goto 16, 3) := by decide +kernel
theorem dJ5_init_d00df_25 : decode cJ5_init_d00df 25 = .ok (.aload_n 0, 1) := by decide +kernel
theorem dJ5_init_d00df_26 : decode cJ5_init_d00df 26 = .ok (.iload_n 1, 1) := by decide +kernel
theorem dJ5_init_d00df_27 : decode cJ5_init_d00df 27 = .ok (.invokestatic 26, 3) := by decide +kernel
theorem dJ5_init_d00df_30 : decode cJ5_init_d00df 30 = .ok (.putfield 15, 3) := by decide +kernel
theorem dJ5_init_d00df_33 : decode cJ5_init_d00df 33 = .ok (.aload_n 0, 1) := by decide +kernel
theorem dJ5_init_d00df_34 : decode cJ5_init_d00df 34 = .ok (.iconst 1, 1) := by decide +kernel
theorem dJ5_init_d00df_35 : decode cJ5_init_d00df 35 = .ok (.putfield 22, 3) := by decide +kernel
theorem dJ5_init_d00df_38 : decode cJ5_init_d00df 38 = .ok (.return_, 1) := by decide +kernel
theorem dJ5_length_8abf5_0 : decode cJ5_length_8abf5 0 = .ok (.aload_n 0, 1) := by decide +kernel
theorem dJ5_length_8abf5_1 : decode cJ5_length_8abf5 1 = .ok (.getfield 79, 3) := by decide +kernel
theorem dJ5_length_8abf5_4 : decode cJ5_length_8abf5 4 = .ok (.ireturn, 1) := by decide +kernel
theorem dJ5_ensureCapacityInternal_d00df_0 : decode cJ5_ensureCapacityInternal_d00df 0 = .ok (.aload_n 0, 1) := by decide +kernel
theorem dJ5_ensureCapacityInternal_d00df_1 : decode cJ5_ensureCapacityInternal_d00df 1 = .ok (.getfield 15, 3) := by decide +kernel
theorem dJ5_ensureCapacityInternal_d00df_4 : decode cJ5_ensureCapacityInternal_d00df 4 = .ok (.arraylength, 1) := by decide +kernel
theorem dJ5_ensureCapacityInternal_d00df_5 : decode cJ5_ensureCapacityInternal_d00df 5 = .ok (.aload_n 0, 1) := by decide +kernel
theorem dJ5_ensureCapacityInternal_d00df_6 : decode cJ5_ensureCapacityInternal_d00df 6 = .ok (.getfield 22, 3) := by decide +kernel
theorem dJ5_ensureCapacityInternal_d00df_9 : decode cJ5_ensureCapacityInternal_d00df 9 = .ok (.ishr, 1) := by decide +kernel
theorem dJ5_ensureCapacityInternal_d00df_10 : decode cJ5_ensureCapacityInternal_d00df 10 = .ok (.istore_n 2, 1) := by decide +kernel
theorem dJ5_ensureCapacityInternal_d00df_11 : decode cJ5_ensureCapacityInternal_d00df 11 = .ok (.iload_n 1, 1) := by decide +kernel
theorem dJ5_ensureCapacityInternal_d00df_12 : decode cJ5_ensureCapacityInternal_d00df 12 = .ok (.iload_n 2, 1) := by decide +kernel
theorem dJ5_ensureCapacityInternal_d00df_13 : decode cJ5_ensureCapacityInternal_d00df 13 = .ok (.isub, 1) := by decide +kernel
theorem dJ5_ensureCapacityInternal_d00df_14 : decode cJ5_ensureCapacityInternal_d00df 14 = .ok (.ifCond .le 24, 3) := by decide +kernel
theorem dJ5_ensureCapacityInternal_d00df_17 : decode cJ5_ensureCapacityInternal_d00df 17 = .ok (.aload_n 0, 1) := by decide +kernel
theorem dJ5_ensureCapacityInternal_d00df_18 : decode cJ5_ensureCapacityInternal_d00df 18 = .ok (.aload_n 0, 1) := by decide +kernel
theorem dJ5_ensureCapacityInternal_d00df_19 : decode cJ5_ensureCapacityInternal_d00df 19 = .ok (.getfield 15, 3) := by decide +kernel
theorem dJ5_ensureCapacityInternal_d00df_22 : decode cJ5_ensureCapacityInternal_d00df 22 = .ok (.aload_n 0, 1) := by decide +kernel
theorem dJ5_ensureCapacityInternal_d00df_23 : decode cJ5_ensureCapacityInternal_d00df 23 = .ok (.iload_n 1, 1) := by decide +kernel
theorem dJ5_ensureCapacityInternal_d00df_24 : decode cJ5_ensureCapacityInternal_d00df 24 = .ok (.invokevirtual 104, 3) := by decide +kernel
theorem dJ5_ensureCapacityInternal_d00df_27 : decode cJ5_ensureCapacityInternal_d00df 27 = .ok (.aload_n 0, 1) := by decide +kernel
theorem dJ5_ensureCapacityInternal_d00df_28 : decode cJ5_ensureCapacityInternal_d00df 28 = .ok (.getfield 22, 3) := by decide +kernel
theorem dJ5_ensureCapacityInternal_d00df_31 : decode cJ5_ensureCapacityInternal_d00df 31 = .ok (.ishl, 1) := by decide +kernel
theorem dJ5_ensureCapacityInternal_d00df_32 : decode cJ5_ensureCapacityInternal_d00df 32 = .ok (.invokestatic 108, 3) := by decide +kernel
theorem dJ5_ensureCapacityInternal_d00df_35 : decode cJ5_ensureCapacityInternal_d00df 35 = .ok (.putfield 15, 3) := by decide +kernel
theorem dJ5_ensureCapacityInternal_d00df_38 : decode cJ5_ensureCapacityInternal_d00df 38 = .ok (.return_, 1) := by decide +kernel
theorem dJ5_newCapacity_0f7a4_0 : decode cJ5_newCapacity_0f7a4 0 = .ok (.aload_n 0, 1) := by decide +kernel
theorem dJ5_newCapacity_0f7a4_1 : decode cJ5_newCapacity_0f7a4 1 = .ok (.getfield 15, 3) := by decide +kernel
theorem dJ5_newCapacity_0f7a4_4 : decode cJ5_newCapacity_0f7a4 4 = .ok (.arraylength, 1) := by decide +kernel
theorem dJ5_newCapacity_0f7a4_5 : decode cJ5_newCapacity_0f7a4 5 = .ok (.istore_n 2, 1) := by decide +kernel
theorem dJ5_newCapacity_0f7a4_6 : decode cJ5_newCapacity_0f7a4 6 = .ok (.iload_n 1, 1) := by decide +kernel
theorem dJ5_newCapacity_0f7a4_7 : decode cJ5_newCapacity_0f7a4 7 = .ok (.aload_n 0, 1) := by decide +kernel
theorem dJ5_newCapacity_0f7a4_8 : decode cJ5_newCapacity_0f7a4 8 = .ok (.getfield 22, 3) := by decide +kernel
theorem dJ5_newCapacity_0f7a4_11 : decode cJ5_newCapacity_0f7a4 11 = .ok (.ishl, 1) := by decide +kernel
theorem dJ5_newCapacity_0f7a4_12 : decode cJ5_newCapacity_0f7a4 12 = .ok (.istore_n 3, 1) := by decide +kernel
theorem dJ5_newCapacity_0f7a4_13 : decode cJ5_newCapacity_0f7a4 13 = .ok (.iload_n 3, 1) := by decide +kernel
theorem dJ5_newCapacity_0f7a4_14 : decode cJ5_newCapacity_0f7a4 14 = .ok (.iload_n 2, 1) := by decide +kernel
theorem dJ5_newCapacity_0f7a4_15 : decode cJ5_newCapacity_0f7a4 15 = .ok (.isub, 1) := by decide +kernel
theorem dJ5_newCapacity_0f7a4_16 : decode cJ5_newCapacity_0f7a4 16 = .ok (.istore 4, 2) := by decide +kernel
theorem dJ5_newCapacity_0f7a4_18 : decode cJ5_newCapacity_0f7a4 18 = .ok (.iload_n 2, 1) := by decide +kernel
theorem dJ5_newCapacity_0f7a4_19 : decode cJ5_newCapacity_0f7a4 19 = .ok (.iload 4, 2) := by decide +kernel
theorem dJ5_newCapacity_0f7a4_21 : decode cJ5_newCapacity_0f7a4 21 = .ok (.iload_n 2, 1) := by decide +kernel
theorem dJ5_newCapacity_0f7a4_22 : decode cJ5_newCapacity_0f7a4 22 = .ok (.iconst 2, 1) := by decide +kernel
theorem dJ5_newCapacity_0f7a4_23 : decode cJ5_newCapacity_0f7a4 23 = .ok (.aload_n 0, 1) := by decide +kernel
theorem dJ5_newCapacity_0f7a4_24 : decode cJ5_newCapacity_0f7a4 24 = .ok (.getfield 22, 3) := by decide +kernel
theorem dJ5_newCapacity_0f7a4_27 : decode cJ5_newCapacity_0f7a4 27 = .ok (.ishl, 1) := by decide +kernel
theorem dJ5_newCapacity_0f7a4_28 : decode cJ5_newCapacity_0f7a4 28 = .ok (.iadd, 1) := by decide +kernel
theorem dJ5_newCapacity_0f7a4_29 : decode cJ5_newCapacity_0f7a4 29 = .ok (.invokestatic 114, 3) := by decide +kernel
theorem dJ5_newCapacity_0f7a4_32 : decode cJ5_newCapacity_0f7a4 32 = .ok (.istore 5, 2) := by decide +kernel
theorem dJ5_newCapacity_0f7a4_34 : decode cJ5_newCapacity_0f7a4 34 = .ok (.iload 5, 2) := by decide +kernel
theorem dJ5_newCapacity_0f7a4_36 : decode cJ5_newCapacity_0f7a4 36 = .ok (.ldc 39, 2) := by decide +kernel
theorem dJ5_newCapacity_0f7a4_38 : decode cJ5_newCapacity_0f7a4 38 = .ok (.if_icmp .ne 13, 3) := by decide +kernel
theorem dJ5_newCapacity_0f7a4_41 : decode cJ5_newCapacity_0f7a4 41 = .ok (.new 120, 3) := by decide +kernel
theorem dJ5_newCapacity_0f7a4_44 : decode cJ5_newCapacity_0f7a4 44 = .ok (.dup, 1) := by decide +kernel
theorem dJ5_newCapacity_0f7a4_45 : decode cJ5_newCapacity_0f7a4 45 = .ok (.ldc 122, 2) := by decide +kernel
theorem dJ5_newCapacity_0f7a4_47 : decode cJ5_newCapacity_0f7a4 47 = .ok (.invokespecial 124, 3) := by decide +kernel
theorem dJ5_newCapacity_0f7a4_50 : decode cJ5_newCapacity_0f7a4 50 = .ok (.athrow, 1) := by decide +kernel
theorem dJ5_newCapacity_0f7a4_51 : decode cJ5_newCapacity_0f7a4 51 = .ok (.iload 5, 2) := by decide +kernel
theorem dJ5_newCapacity_0f7a4_53 : decode cJ5_newCapacity_0f7a4 53 = .ok (.aload_n 0, 1) := by decide +kernel
theorem dJ5_newCapacity_0f7a4_54 : decode cJ5_newCapacity_0f7a4 54 = .ok (.getfield 22, 3) := by decide +kernel
theorem dJ5_newCapacity_0f7a4_57 : decode cJ5_newCapacity_0f7a4 57 = .ok (.ishr, 1) := by decide +kernel
theorem dJ5_newCapacity_0f7a4_58 : decode cJ5_newCapacity_0f7a4 58 = .ok (.ireturn, 1) := by decide +kernel
theorem dJ5_inflate_da8c8_0 : decode cJ5_inflate_da8c8 0 = .ok (.aload_n 0, 1) := by decide +kernel
theorem dJ5_inflate_da8c8_1 : decode cJ5_inflate_da8c8 1 = .ok (.invokevirtual 83, 3) := by decide +kernel
theorem dJ5_inflate_da8c8_4 : decode cJ5_inflate_da8c8 4 = .ok (.ifCond .ne 4, 3) := by decide +kernel
theorem dJ5_inflate_da8c8_7 : decode cJ5_inflate_da8c8 7 = .ok (.return_, 1) := by decide +kernel
theorem dJ5_inflate_da8c8_8 : decode cJ5_inflate_da8c8 8 = .ok (.aload_n 0, 1) := by decide +kernel
theorem dJ5_inflate_da8c8_9 : decode cJ5_inflate_da8c8 9 = .ok (.getfield 15, 3) := by decide +kernel
theorem dJ5_inflate_da8c8_12 : decode cJ5_inflate_da8c8 12 = .ok (.arraylength, 1) := by decide +kernel
theorem dJ5_inflate_da8c8_13 : decode cJ5_inflate_da8c8 13 = .ok (.invokestatic 26, 3) := by decide +kernel
theorem dJ5_inflate_da8c8_16 : decode cJ5_inflate_da8c8 16 = .ok (.astore_n 1, 1) := by decide +kernel
theorem dJ5_inflate_da8c8_17 : decode cJ5_inflate_da8c8 17 = .ok (.aload_n 0, 1) := by decide +kernel
theorem dJ5_inflate_da8c8_18 : decode cJ5_inflate_da8c8 18 = .ok (.getfield 15, 3) := by decide +kernel
theorem dJ5_inflate_da8c8_21 : decode cJ5_inflate_da8c8 21 = .ok (.iconst 0, 1) := by decide +kernel
theorem dJ5_inflate_da8c8_22 : decode cJ5_inflate_da8c8 22 = .ok (.aload_n 1, 1) := by decide +kernel
theorem dJ5_inflate_da8c8_23 : decode cJ5_inflate_da8c8 23 = .ok (.iconst 0, 1) := by decide +kernel
theorem dJ5_inflate_da8c8_24 : decode cJ5_inflate_da8c8 24 = .ok (.aload_n 0, 1) := by decide +kernel
theorem dJ5_inflate_da8c8_25 : decode cJ5_inflate_da8c8 25 = .ok (.getfield 79, 3) := by decide +kernel
theorem dJ5_inflate_da8c8_28 : decode cJ5_inflate_da8c8 28 = .ok (.invokestatic 125, 3) := by decide +kernel
theorem dJ5_inflate_da8c8_31 : decode cJ5_inflate_da8c8 31 = .ok (.aload_n 0, 1) := by decide +kernel
theorem dJ5_inflate_da8c8_32 : decode cJ5_inflate_da8c8 32 = .ok (.aload_n 1, 1) := by decide +kernel
theorem dJ5_inflate_da8c8_33 : decode cJ5_inflate_da8c8 33 = .ok (.putfield 15, 3) := by decide +kernel
theorem dJ5_inflate_da8c8_36 : decode cJ5_inflate_da8c8 36 = .ok (.aload_n 0, 1) := by decide +kernel
theorem dJ5_inflate_da8c8_37 : decode cJ5_inflate_da8c8 37 = .ok (.iconst 1, 1) := by decide +kernel
theorem dJ5_inflate_da8c8_38 : decode cJ5_inflate_da8c8 38 = .ok (.putfield 22, 3) := by decide +kernel
theorem dJ5_inflate_da8c8_41 : decode cJ5_inflate_da8c8 41 = .ok (.return_, 1) := by decide +kernel
theorem dJ5_setLength_d00df_0 : decode cJ5_setLength_d00df 0 = .ok (.iload_n 1, 1) := by decide +kernel
theorem dJ5_setLength_d00df_1 : decode cJ5_setLength_d00df 1 = .ok (.ifCond .ge 12, 3) := by decide +kernel
theorem dJ5_setLength_d00df_4 : decode cJ5_setLength_d00df 4 = .ok (.new 129, 3) := by decide +kernel
theorem dJ5_setLength_d00df_7 : decode cJ5_setLength_d00df 7 = .ok (.dup, 1) := by decide +kernel
theorem dJ5_setLength_d00df_8 : decode cJ5_setLength_d00df 8 = .ok (.iload_n 1, 1) := by decide +kernel
theorem dJ5_setLength_d00df_9 : decode cJ5_setLength_d00df 9 = .ok (.invokespecial 131, 3) := by decide +kernel
theorem dJ5_setLength_d00df_12 : decode cJ5_setLength_d00df 12 = .ok (.athrow, 1) := by decide +kernel
theorem dJ5_setLength_d00df_13 : decode cJ5_setLength_d00df 13 = .ok (.aload_n 0, 1) := by decide +kernel
theorem dJ5_setLength_d00df_14 : decode cJ5_setLength_d00df 14 = .ok (.iload_n 1, 1) := by decide +kernel
theorem dJ5_setLength_d00df_15 : decode cJ5_setLength_d00df 15 = .ok (.invokevirtual 100, 3) := by decide +kernel
theorem dJ5_setLength_d00df_18 : decode cJ5_setLength_d00df 18 = .ok (.aload_n 0, 1) := by decide +kernel
theorem dJ5_setLength_d00df_19 : decode cJ5_setLength_d00df 19 = .ok (.getfield 79, 3) := by decide +kernel
theorem dJ5_setLength_d00df_22 : decode cJ5_setLength_d00df 22 = .ok (.iload_n 1, 1) := by decide +kernel
theorem dJ5_setLength_d00df_23 : decode cJ5_setLength_d00df 23 = .ok (.if_icmp .ge 40, 3) := by decide +kernel
theorem dJ5_setLength_d00df_26 : decode cJ5_setLength_d00df 26 = .ok (.aload_n 0, 1) := by decide +kernel
theorem dJ5_setLength_d00df_27 : decode cJ5_setLength_d00df 27 = .ok (.invokevirtual 83, 3) := by decide +kernel
theorem dJ5_setLength_d00df_30 : decode cJ5_setLength_d00df 30 = .ok (.ifCond .eq 18, 3) := by decide +kernel
theorem dJ5_setLength_d00df_33 : decode cJ5_setLength_d00df 33 = .ok (.aload_n 0, 1) := by decide +kernel
theorem dJ5_setLength_d00df_34 : decode cJ5_setLength_d00df 34 = .ok (.getfield 15, 3) := by decide +kernel
theorem dJ5_setLength_d00df_37 : decode cJ5_setLength_d00df 37 = .ok (.aload_n 0, 1) := by decide +kernel
theorem dJ5_setLength_d00df_38 : decode cJ5_setLength_d00df 38 = .ok (.getfield 79, 3) := by decide +kernel
theorem dJ5_setLength_d00df_41 : decode cJ5_setLength_d00df 41 = .ok (.iload_n 1, 1) := by decide +kernel
theorem dJ5_setLength_d00df_42 : decode cJ5_setLength_d00df 42 = .ok (.invokestatic 133, 3) := by decide +kernel
theorem dJ5_setLength_d00df_45 : decode cJ5_setLength_d00df 45 = .ok (.goto 31, 3) := by decide +kernel
theorem dJ5_setLength_d00df_48 : decode cJ5_setLength_d00df 48 = .ok (.aload_n 0, 1) := by decide +kernel
theorem dJ5_setLength_d00df_49 : decode cJ5_setLength_d00df 49 = .ok (.getfield 15, 3) := by decide +kernel
theorem dJ5_setLength_d00df_52 : decode cJ5_setLength_d00df 52 = .ok (.aload_n 0, 1) := by decide +kernel
theorem dJ5_setLength_d00df_53 : decode cJ5_setLength_d00df 53 = .ok (.getfield 79, 3) := by decide +kernel
theorem dJ5_setLength_d00df_56 : decode cJ5_setLength_d00df 56 = .ok (.iload_n 1, 1) := by decide +kernel
theorem dJ5_setLength_d00df_57 : decode cJ5_setLength_d00df 57 = .ok (.invokestatic 137, 3) := by decide +kernel
theorem dJ5_setLength_d00df_60 : decode cJ5_setLength_d00df 60 = .ok (.goto 16, 3) := by decide +kernel
theorem dJ5_setLength_d00df_63 : decode cJ5_setLength_d00df 63 = .ok (.aload_n 0, 1) := by decide +kernel
theorem dJ5_setLength_d00df_64 : decode cJ5_setLength_d00df 64 = .ok (.getfield 79, 3) := by decide +kernel
theorem dJ5_setLength_d00df_67 : decode cJ5_setLength_d00df 67 = .ok (.iload_n 1, 1) := by decide +kernel
theorem dJ5_setLength_d00df_68 : decode cJ5_setLength_d00df 68 = .ok (.if_icmp .le 8, 3) := by decide +kernel
theorem dJ5_setLength_d00df_71 : decode cJ5_setLength_d00df 71 = .ok (.aload_n 0, 1) := by decide +kernel
theorem dJ5_setLength_d00df_72 : decode cJ5_setLength_d00df 72 = .ok (.iconst 1, 1) := by decide +kernel
theorem dJ5_setLength_d00df_73 : decode cJ5_setLength_d00df 73 = .ok (.putfield 73, 3) := by decide +kernel
theorem dJ5_setLength_d00df_76 : decode cJ5_setLength_d00df 76 = .ok (.aload_n 0, 1) := by decide +kernel
theorem dJ5_setLength_d00df_77 : decode cJ5_setLength_d00df 77 = .ok (.iload_n 1, 1) := by decide +kernel
theorem dJ5_setLength_d00df_78 : decode cJ5_setLength_d00df 78 = .ok (.putfield 79, 3) := by decide +kernel
theorem dJ5_setLength_d00df_81 : decode cJ5_setLength_d00df 81 = .ok (.return_, 1) := by decide +kernel
theorem dJ5_charAt_5068e_0 : decode cJ5_charAt_5068e 0 = .ok (.aload_n 0, 1) := by decide +kernel
theorem dJ5_charAt_5068e_1 : decode cJ5_charAt_5068e 1 = .ok (.getfield 22, 3) := by decide +kernel
theorem dJ5_charAt_5068e_4 : decode cJ5_charAt_5068e 4 = .ok (.istore_n 2, 1) := by decide +kernel
theorem dJ5_charAt_5068e_5 : decode cJ5_charAt_5068e 5 = .ok (.aload_n 0, 1) := by decide +kernel
theorem dJ5_charAt_5068e_6 : decode cJ5_charAt_5068e 6 = .ok (.getfield 15, 3) := by decide +kernel
theorem dJ5_charAt_5068e_9 : decode cJ5_charAt_5068e 9 = .ok (.astore_n 3, 1) := by decide +kernel
theorem dJ5_charAt_5068e_10 : decode cJ5_charAt_5068e 10 = .ok (.aload_n 0, 1) := by decide +kernel
theorem dJ5_charAt_5068e_11 : decode cJ5_charAt_5068e 11 = .ok (.getfield 79, 3) := by decide +kernel
theorem dJ5_charAt_5068e_14 : decode cJ5_charAt_5068e 14 = .ok (.aload_n 3, 1) := by decide +kernel
theorem dJ5_charAt_5068e_15 : decode cJ5_charAt_5068e 15 = .ok (.arraylength, 1) := by decide +kernel
theorem dJ5_charAt_5068e_16 : decode cJ5_charAt_5068e 16 = .ok (.iload_n 2, 1) := by decide +kernel
theorem dJ5_charAt_5068e_17 : decode cJ5_charAt_5068e 17 = .ok (.ishr, 1) := by decide +kernel
theorem dJ5_charAt_5068e_18 : decode cJ5_charAt_5068e 18 = .ok (.invokestatic 138, 3) := by decide +kernel
theorem dJ5_charAt_5068e_21 : decode cJ5_charAt_5068e 21 = .ok (.istore 4, 2) := by decide +kernel
theorem dJ5_charAt_5068e_23 : decode cJ5_charAt_5068e 23 = .ok (.iload_n 1, 1) := by decide +kernel
theorem dJ5_charAt_5068e_24 : decode cJ5_charAt_5068e 24 = .ok (.iload 4, 2) := by decide +kernel
theorem dJ5_charAt_5068e_26 : decode cJ5_charAt_5068e 26 = .ok (.invokestatic 144, 3) := by decide +kernel
theorem dJ5_charAt_5068e_29 : decode cJ5_charAt_5068e 29 = .ok (.iload_n 2, 1) := by decide +kernel
theorem dJ5_charAt_5068e_30 : decode cJ5_charAt_5068e 30 = .ok (.ifCond .ne 12, 3) := by decide +kernel
theorem dJ5_charAt_5068e_33 : decode cJ5_charAt_5068e 33 = .ok (.aload_n 3, 1) := by decide +kernel
theorem dJ5_charAt_5068e_34 : decode cJ5_charAt_5068e 34 = .ok (.iload_n 1, 1) := by decide +kernel
theorem dJ5_charAt_5068e_35 : decode cJ5_charAt_5068e 35 = .ok (.baload, 1) := by decide +kernel
theorem dJ5_charAt_5068e_36 : decode cJ5_charAt_5068e 36 = .ok (.sipush 255, 3) := by decide +kernel
theorem dJ5_charAt_5068e_39 : decode cJ5_charAt_5068e 39 = .ok (.iand, 1) := by decide +kernel
theorem dJ5_charAt_5068e_40 : decode cJ5_charAt_5068e 40 = .ok (.i2c, 1) := by decide +kernel
theorem dJ5_charAt_5068e_41 : decode cJ5_charAt_5068e 41 = .ok (.ireturn, 1) := by decide +kernel
theorem dJ5_charAt_5068e_42 : decode cJ5_charAt_5068e 42 = .ok (.aload_n 3, 1) := by decide +kernel
theorem dJ5_charAt_5068e_43 : decode cJ5_charAt_5068e 43 = .ok (.iload_n 1, 1) := by decide +kernel
theorem dJ5_charAt_5068e_44 : decode cJ5_charAt_5068e 44 = .ok (.invokestatic 148, 3) := by decide +kernel
theorem dJ5_charAt_5068e_47 : decode cJ5_charAt_5068e 47 = .ok (.ireturn, 1) := by decide +kernel
theorem dJ5_append_cf1ce_0 : decode cJ5_append_cf1ce 0 = .ok (.aload_n 1, 1) := by decide +kernel
theorem dJ5_append_cf1ce_1 : decode cJ5_append_cf1ce 1 = .ok (.ifnonnull 8, 3) := by decide +kernel
theorem dJ5_append_cf1ce_4 : decode cJ5_append_cf1ce 4 = .ok (.aload_n 0, 1) := by decide +kernel
theorem dJ5_append_cf1ce_5 : decode cJ5_append_cf1ce 5 = .ok (.invokevirtual 204, 3) := by decide +kernel
theorem dJ5_append_cf1ce_8 : decode cJ5_append_cf1ce 8 = .ok (.areturn, 1) := by decide +kernel
theorem dJ5_append_cf1ce_9 : decode cJ5_append_cf1ce 9 = .ok (.aload_n 1, 1) := by decide +kernel
theorem dJ5_append_cf1ce_10 : decode cJ5_append_cf1ce 10 = .ok (.invokevirtual 32, 3) := by decide +kernel
theorem dJ5_append_cf1ce_13 : decode cJ5_append_cf1ce 13 = .ok (.istore_n 2, 1) := by decide +kernel
theorem dJ5_append_cf1ce_14 : decode cJ5_append_cf1ce 14 = .ok (.aload_n 0, 1) := by decide +kernel
theorem dJ5_append_cf1ce_15 : decode cJ5_append_cf1ce 15 = .ok (.aload_n 0, 1) := by decide +kernel
theorem dJ5_append_cf1ce_16 : decode cJ5_append_cf1ce 16 = .ok (.getfield 79, 3) := by decide +kernel
theorem dJ5_append_cf1ce_19 : decode cJ5_append_cf1ce 19 = .ok (.iload_n 2, 1) := by decide +kernel
theorem dJ5_append_cf1ce_20 : decode cJ5_append_cf1ce 20 = .ok (.iadd, 1) := by decide +kernel
theorem dJ5_append_cf1ce_21 : decode cJ5_append_cf1ce 21 = .ok (.invokevirtual 100, 3) := by decide +kernel
theorem dJ5_append_cf1ce_24 : decode cJ5_append_cf1ce 24 = .ok (.aload_n 0, 1) := by decide +kernel
theorem dJ5_append_cf1ce_25 : decode cJ5_append_cf1ce 25 = .ok (.aload_n 0, 1) := by decide +kernel
theorem dJ5_append_cf1ce_26 : decode cJ5_append_cf1ce 26 = .ok (.getfield 79, 3) := by decide +kernel
theorem dJ5_append_cf1ce_29 : decode cJ5_append_cf1ce 29 = .ok (.aload_n 1, 1) := by decide +kernel
theorem dJ5_append_cf1ce_30 : decode cJ5_append_cf1ce 30 = .ok (.invokevirtual 208, 3) := by decide +kernel
theorem dJ5_append_cf1ce_33 : decode cJ5_append_cf1ce 33 = .ok (.aload_n 0, 1) := by decide +kernel
theorem dJ5_append_cf1ce_34 : decode cJ5_append_cf1ce 34 = .ok (.dup, 1) := by decide +kernel
theorem dJ5_append_cf1ce_35 : decode cJ5_append_cf1ce 35 = .ok (.getfield 79, 3) := by decide +kernel
theorem dJ5_append_cf1ce_38 : decode cJ5_append_cf1ce 38 = .ok (.iload_n 2, 1) := by decide +kernel
theorem dJ5_append_cf1ce_39 : decode cJ5_append_cf1ce 39 = .ok (.iadd, 1) := by decide +kernel
theorem dJ5_append_cf1ce_40 : decode cJ5_append_cf1ce 40 = .ok (.putfield 79, 3) := by decide +kernel
theorem dJ5_append_cf1ce_43 : decode cJ5_append_cf1ce 43 = .ok (.aload_n 0, 1) := by decide +kernel
theorem dJ5_append_cf1ce_44 : decode cJ5_append_cf1ce 44 = .ok (.areturn, 1) := by decide +kernel
theorem dJ5_appendNull_278bc_0 : decode cJ5_appendNull_278bc 0 = .ok (.aload_n 0, 1) := by decide +kernel
theorem dJ5_appendNull_278bc_1 : decode cJ5_appendNull_278bc 1 = .ok (.aload_n 0, 1) := by decide +kernel
theorem dJ5_appendNull_278bc_2 : decode cJ5_appendNull_278bc 2 = .ok (.getfield 79, 3) := by decide +kernel
theorem dJ5_appendNull_278bc_5 : decode cJ5_appendNull_278bc 5 = .ok (.iconst 4, 1) := by decide +kernel
theorem dJ5_appendNull_278bc_6 : decode cJ5_appendNull_278bc 6 = .ok (.iadd, 1) := by decide +kernel
theorem dJ5_appendNull_278bc_7 : decode cJ5_appendNull_278bc 7 = .ok (.invokevirtual 100, 3) := by decide +kernel
theorem dJ5_appendNull_278bc_10 : decode cJ5_appendNull_278bc 10 = .ok (.aload_n 0, 1) := by decide +kernel
theorem dJ5_appendNull_278bc_11 : decode cJ5_appendNull_278bc 11 = .ok (.getfield 79, 3) := by decide +kernel
theorem dJ5_appendNull_278bc_14 : decode cJ5_appendNull_278bc 14 = .ok (.istore_n 1, 1) := by decide +kernel
theorem dJ5_appendNull_278bc_15 : decode cJ5_appendNull_278bc 15 = .ok (.aload_n 0, 1) := by decide +kernel
theorem dJ5_appendNull_278bc_16 : decode cJ5_appendNull_278bc 16 = .ok (.getfield 15, 3) := by decide +kernel
theorem dJ5_appendNull_278bc_19 : decode cJ5_appendNull_278bc 19 = .ok (.astore_n 2, 1) := by decide +kernel
theorem dJ5_appendNull_278bc_20 : decode cJ5_appendNull_278bc 20 = .ok (.aload_n 0, 1) := by decide +kernel
theorem dJ5_appendNull_278bc_21 : decode cJ5_appendNull_278bc 21 = .ok (.invokevirtual 83, 3) := by decide +kernel
theorem dJ5_appendNull_278bc_24 : decode cJ5_appendNull_278bc 24 = .ok (.ifCond .eq 38, 3) := by decide +kernel
theorem dJ5_appendNull_278bc_27 : decode cJ5_appendNull_278bc 27 = .ok (.aload_n 2, 1) := by decide +kernel
theorem dJ5_appendNull_278bc_28 : decode cJ5_appendNull_278bc 28 = .ok (.iload_n 1, 1) := by decide +kernel
theorem dJ5_appendNull_278bc_29 : decode cJ5_appendNull_278bc 29 = .ok (.iinc 1 1, 3) := by decide +kernel
theorem dJ5_appendNull_278bc_32 : decode cJ5_appendNull_278bc 32 = .ok (.bipush 110, 2) := by decide +kernel
theorem dJ5_appendNull_278bc_34 : decode cJ5_appendNull_278bc 34 = .ok (.bastore, 1) := by decide +kernel
theorem dJ5_appendNull_278bc_35 : decode cJ5_appendNull_278bc 35 = .ok (.aload_n 2, 1) := by decide +kernel
theorem dJ5_appendNull_278bc_36 : decode cJ5_appendNull_278bc 36 = .ok (.iload_n 1, 1) := by decide +kernel
theorem dJ5_appendNull_278bc_37 : decode cJ5_appendNull_278bc 37 = .ok (.iinc 1 1, 3) := by decide +kernel
theorem dJ5_appendNull_278bc_40 : decode cJ5_appendNull_278bc 40 = .ok (.bipush 117, 2) := by decide +kernel
theorem dJ5_appendNull_278bc_42 : decode cJ5_appendNull_278bc 42 = .ok (.bastore, 1) := by decide +kernel
theorem dJ5_appendNull_278bc_43 : decode cJ5_appendNull_278bc 43 = .ok (.aload_n 2, 1) := by decide +kernel
theorem dJ5_appendNull_278bc_44 : decode cJ5_appendNull_278bc 44 = .ok (.iload_n 1, 1) := by decide +kernel
theorem dJ5_appendNull_278bc_45 : decode cJ5_appendNull_278bc 45 = .ok (.iinc 1 1, 3) := by decide +kernel
theorem dJ5_appendNull_278bc_48 : decode cJ5_appendNull_278bc 48 = .ok (.bipush 108, 2) := by decide +kernel
theorem dJ5_appendNull_278bc_50 : decode cJ5_appendNull_278bc 50 = .ok (.bastore, 1) := by decide +kernel
theorem dJ5_appendNull_278bc_51 : decode cJ5_appendNull_278bc 51 = .ok (.aload_n 2, 1) := by decide +kernel
theorem dJ5_appendNull_278bc_52 : decode cJ5_appendNull_278bc 52 = .ok (.iload_n 1, 1) := by decide +kernel
theorem dJ5_appendNull_278bc_53 : decode cJ5_appendNull_278bc 53 = .ok (.iinc 1 1, 3) := by decide +kernel
theorem dJ5_appendNull_278bc_56 : decode cJ5_appendNull_278bc 56 = .ok (.bipush 108, 2) := by decide +kernel
theorem dJ5_appendNull_278bc_58 : decode cJ5_appendNull_278bc 58 = .ok (.bastore, 1) := by decide +kernel
theorem dJ5_appendNull_278bc_59 : decode cJ5_appendNull_278bc 59 = .ok (.goto 17, 3) := by decide +kernel
theorem dJ5_appendNull_278bc_62 : decode cJ5_appendNull_278bc 62 = .ok (.aload_n 2, 1) := by decide +kernel
theorem dJ5_appendNull_278bc_63 : decode cJ5_appendNull_278bc 63 = .ok (.iload_n 1, 1) := by decide +kernel
theorem dJ5_appendNull_278bc_64 : decode cJ5_appendNull_278bc 64 = .ok (.bipush 110, 2) := by decide +kernel
theorem dJ5_appendNull_278bc_66 : decode cJ5_appendNull_278bc 66 = .ok (.bipush 117, 2) := by decide +kernel
theorem dJ5_appendNull_278bc_68 : decode cJ5_appendNull_278bc 68 = .ok (.bipush 108, 2) := by decide +kernel
theorem dJ5_appendNull_278bc_70 : decode cJ5_appendNull_278bc 70 = .ok (.bipush 108, 2) := by decide +kernel
theorem dJ5_appendNull_278bc_72 : decode cJ5_appendNull_278bc 72 = .ok (.invokestatic 226, 3) := by decide +kernel
theorem dJ5_appendNull_278bc_75 : decode cJ5_appendNull_278bc 75 = .ok (.istore_n 1, 1) := by decide +kernel
theorem dJ5_appendNull_278bc_76 : decode cJ5_appendNull_278bc 76 = .ok (.aload_n 0, 1) := by decide +kernel
theorem dJ5_appendNull_278bc_77 : decode cJ5_appendNull_278bc 77 = .ok (.iload_n 1, 1) := by decide +kernel
theorem dJ5_appendNull_278bc_78 : decode cJ5_appendNull_278bc 78 = .ok (.putfield 79, 3) := by decide +kernel
theorem dJ5_appendNull_278bc_81 : decode cJ5_appendNull_278bc 81 = .ok (.aload_n 0, 1) := by decide +kernel
theorem dJ5_appendNull_278bc_82 : decode cJ5_appendNull_278bc 82 = .ok (.areturn, 1) := by decide +kernel
theorem dJ5_append_3fe6f_0 : decode cJ5_append_3fe6f 0 = .ok (.aload_n 0, 1) := by decide +kernel
theorem dJ5_append_3fe6f_1 : decode cJ5_append_3fe6f 1 = .ok (.aload_n 0, 1) := by decide +kernel
theorem dJ5_append_3fe6f_2 : decode cJ5_append_3fe6f 2 = .ok (.getfield 79, 3) := by decide +kernel
theorem dJ5_append_3fe6f_5 : decode cJ5_append_3fe6f 5 = .ok (.iconst 1, 1) := by decide +kernel
theorem dJ5_append_3fe6f_6 : decode cJ5_append_3fe6f 6 = .ok (.iadd, 1) := by decide +kernel
theorem dJ5_append_3fe6f_7 : decode cJ5_append_3fe6f 7 = .ok (.invokevirtual 100, 3) := by decide +kernel
theorem dJ5_append_3fe6f_10 : decode cJ5_append_3fe6f 10 = .ok (.aload_n 0, 1) := by decide +kernel
theorem dJ5_append_3fe6f_11 : decode cJ5_append_3fe6f 11 = .ok (.invokevirtual 83, 3) := by decide +kernel
theorem dJ5_append_3fe6f_14 : decode cJ5_append_3fe6f 14 = .ok (.ifCond .eq 31, 3) := by decide +kernel
theorem dJ5_append_3fe6f_17 : decode cJ5_append_3fe6f 17 = .ok (.iload_n 1, 1) := by decide +kernel
theorem dJ5_append_3fe6f_18 : decode cJ5_append_3fe6f 18 = .ok (.invokestatic 191, 3) := by decide +kernel
theorem dJ5_append_3fe6f_21 : decode cJ5_append_3fe6f 21 = .ok (.ifCond .eq 24, 3) := by decide +kernel
theorem dJ5_append_3fe6f_24 : decode cJ5_append_3fe6f 24 = .ok (.aload_n 0, 1) := by decide +kernel
theorem dJ5_append_3fe6f_25 : decode cJ5_append_3fe6f 25 = .ok (.getfield 15, 3) := by decide +kernel
theorem dJ5_append_3fe6f_28 : decode cJ5_append_3fe6f 28 = .ok (.aload_n 0, 1) := by decide +kernel
theorem dJ5_append_3fe6f_29 : decode cJ5_append_3fe6f 29 = .ok (.dup, 1) := by decide +kernel
theorem dJ5_append_3fe6f_30 : decode cJ5_append_3fe6f 30 = .ok (.getfield 79, 3) := by decide +kernel
theorem dJ5_append_3fe6f_33 : decode cJ5_append_3fe6f 33 = .ok (.dup_x1, 1) := by decide +kernel
theorem dJ5_append_3fe6f_34 : decode cJ5_append_3fe6f 34 = .ok (.iconst 1, 1) := by decide +kernel
theorem dJ5_append_3fe6f_35 : decode cJ5_append_3fe6f 35 = .ok (.iadd, 1) := by decide +kernel
theorem dJ5_append_3fe6f_36 : decode cJ5_append_3fe6f 36 = .ok (.putfield 79, 3) := by decide +kernel
theorem dJ5_append_3fe6f_39 : decode cJ5_append_3fe6f 39 = .ok (.iload_n 1, 1) := by decide +kernel
theorem dJ5_append_3fe6f_40 : decode cJ5_append_3fe6f 40 = .ok (.i2b, 1) := by decide +kernel
theorem dJ5_append_3fe6f_41 : decode cJ5_append_3fe6f 41 = .ok (.bastore, 1) := by decide +kernel
theorem dJ5_append_3fe6f_42 : decode cJ5_append_3fe6f 42 = .ok (.goto 33, 3) := by decide +kernel
theorem dJ5_append_3fe6f_45 : decode cJ5_append_3fe6f 45 = .ok (.aload_n 0, 1) := by decide +kernel
theorem dJ5_append_3fe6f_46 : decode cJ5_append_3fe6f 46 = .ok (.invokevirtual 83, 3) := by decide +kernel
theorem dJ5_append_3fe6f_49 : decode cJ5_append_3fe6f 49 = .ok (.ifCond .eq 7, 3) := by decide +kernel
theorem dJ5_append_3fe6f_52 : decode cJ5_append_3fe6f 52 = .ok (.aload_n 0, 1) := by decide +kernel
theorem dJ5_append_3fe6f_53 : decode cJ5_append_3fe6f 53 = .ok (.invokevirtual 195, 3) := by decide +kernel
theorem dJ5_append_3fe6f_56 : decode cJ5_append_3fe6f 56 = .ok (.aload_n 0, 1) := by decide +kernel
theorem dJ5_append_3fe6f_57 : decode cJ5_append_3fe6f 57 = .ok (.getfield 15, 3) := by decide +kernel
theorem dJ5_append_3fe6f_60 : decode cJ5_append_3fe6f 60 = .ok (.aload_n 0, 1) := by decide +kernel
theorem dJ5_append_3fe6f_61 : decode cJ5_append_3fe6f 61 = .ok (.dup, 1) := by decide +kernel
theorem dJ5_append_3fe6f_62 : decode cJ5_append_3fe6f 62 = .ok (.getfield 79, 3) := by decide +kernel
theorem dJ5_append_3fe6f_65 : decode cJ5_append_3fe6f 65 = .ok (.dup_x1, 1) := by decide +kernel
theorem dJ5_append_3fe6f_66 : decode cJ5_append_3fe6f 66 = .ok (.iconst 1, 1) := by decide +kernel
theorem dJ5_append_3fe6f_67 : decode cJ5_append_3fe6f 67 = .ok (.iadd, 1) := by decide +kernel
theorem dJ5_append_3fe6f_68 : decode cJ5_append_3fe6f 68 = .ok (.putfield 79, 3) := by decide +kernel
theorem dJ5_append_3fe6f_71 : decode cJ5_append_3fe6f 71 = .ok (.iload_n 1, 1) := by decide +kernel
theorem dJ5_append_3fe6f_72 : decode cJ5_append_3fe6f 72 = .ok (.invokestatic 197, 3) := by decide +kernel
theorem dJ5_append_3fe6f_75 : decode cJ5_append_3fe6f 75 = .ok (.aload_n 0, 1) := by decide +kernel
theorem dJ5_append_3fe6f_76 : decode cJ5_append_3fe6f 76 = .ok (.areturn, 1) := by decide +kernel
theorem dJ5_append_c97b9_0 : decode cJ5_append_c97b9 0 = .ok (.aload_n 0, 1) := by decide +kernel
theorem dJ5_append_c97b9_1 : decode cJ5_append_c97b9 1 = .ok (.getfield 79, 3) := by decide +kernel
theorem dJ5_append_c97b9_4 : decode cJ5_append_c97b9 4 = .ok (.istore_n 2, 1) := by decide +kernel
theorem dJ5_append_c97b9_5 : decode cJ5_append_c97b9 5 = .ok (.iload_n 2, 1) := by decide +kernel
theorem dJ5_append_c97b9_6 : decode cJ5_append_c97b9 6 = .ok (.iload_n 1, 1) := by decide +kernel
theorem dJ5_append_c97b9_7 : decode cJ5_append_c97b9 7 = .ok (.invokestatic 245, 3) := by decide +kernel
theorem dJ5_append_c97b9_10 : decode cJ5_append_c97b9 10 = .ok (.iadd, 1) := by decide +kernel
theorem dJ5_append_c97b9_11 : decode cJ5_append_c97b9 11 = .ok (.istore_n 3, 1) := by decide +kernel
theorem dJ5_append_c97b9_12 : decode cJ5_append_c97b9 12 = .ok (.aload_n 0, 1) := by decide +kernel
theorem dJ5_append_c97b9_13 : decode cJ5_append_c97b9 13 = .ok (.iload_n 3, 1) := by decide +kernel
theorem dJ5_append_c97b9_14 : decode cJ5_append_c97b9 14 = .ok (.invokevirtual 100, 3) := by decide +kernel
theorem dJ5_append_c97b9_17 : decode cJ5_append_c97b9 17 = .ok (.aload_n 0, 1) := by decide +kernel
theorem dJ5_append_c97b9_18 : decode cJ5_append_c97b9 18 = .ok (.invokevirtual 83, 3) := by decide +kernel
theorem dJ5_append_c97b9_21 : decode cJ5_append_c97b9 21 = .ok (.ifCond .eq 16, 3) := by decide +kernel
theorem dJ5_append_c97b9_24 : decode cJ5_append_c97b9 24 = .ok (.iload_n 1, 1) := by decide +kernel
theorem dJ5_append_c97b9_25 : decode cJ5_append_c97b9 25 = .ok (.iload_n 3, 1) := by decide +kernel
theorem dJ5_append_c97b9_26 : decode cJ5_append_c97b9 26 = .ok (.aload_n 0, 1) := by decide +kernel
theorem dJ5_append_c97b9_27 : decode cJ5_append_c97b9 27 = .ok (.getfield 15, 3) := by decide +kernel
theorem dJ5_append_c97b9_30 : decode cJ5_append_c97b9 30 = .ok (.invokestatic 248, 3) := by decide +kernel
theorem dJ5_append_c97b9_33 : decode cJ5_append_c97b9 33 = .ok (.pop, 1) := by decide +kernel
theorem dJ5_append_c97b9_34 : decode cJ5_append_c97b9 34 = .ok (.goto 14, 3) := by decide +kernel
theorem dJ5_append_c97b9_37 : decode cJ5_append_c97b9 37 = .ok (.iload_n 1, 1) := by decide +kernel
theorem dJ5_append_c97b9_38 : decode cJ5_append_c97b9 38 = .ok (.iload_n 2, 1) := by decide +kernel
theorem dJ5_append_c97b9_39 : decode cJ5_append_c97b9 39 = .ok (.iload_n 3, 1) := by decide +kernel
theorem dJ5_append_c97b9_40 : decode cJ5_append_c97b9 40 = .ok (.aload_n 0, 1) := by decide +kernel
theorem dJ5_append_c97b9_41 : decode cJ5_append_c97b9 41 = .ok (.getfield 15, 3) := by decide +kernel
theorem dJ5_append_c97b9_44 : decode cJ5_append_c97b9 44 = .ok (.invokestatic 251, 3) := by decide +kernel
theorem dJ5_append_c97b9_47 : decode cJ5_append_c97b9 47 = .ok (.pop, 1) := by decide +kernel
theorem dJ5_append_c97b9_48 : decode cJ5_append_c97b9 48 = .ok (.aload_n 0, 1) := by decide +kernel
theorem dJ5_append_c97b9_49 : decode cJ5_append_c97b9 49 = .ok (.iload_n 3, 1) := by decide +kernel
theorem dJ5_append_c97b9_50 : decode cJ5_append_c97b9 50 = .ok (.putfield 79, 3) := by decide +kernel
theorem dJ5_append_c97b9_53 : decode cJ5_append_c97b9 53 = .ok (.aload_n 0, 1) := by decide +kernel
theorem dJ5_append_c97b9_54 : decode cJ5_append_c97b9 54 = .ok (.areturn, 1) := by decide +kernel
theorem dJ5_getValue_6d5f1_0 : decode cJ5_getValue_6d5f1 0 = .ok (.aload_n 0, 1) := by decide +kernel
theorem dJ5_getValue_6d5f1_1 : decode cJ5_getValue_6d5f1 1 = .ok (.getfield 15, 3) := by decide +kernel
theorem dJ5_getValue_6d5f1_4 : decode cJ5_getValue_6d5f1 4 = .ok (.areturn, 1) := by decide +kernel
theorem dJ5_isLatin1_aae02_0 : decode cJ5_isLatin1_aae02 0 = .ok (.getstatic 18, 3) := by decide +kernel
theorem dJ5_isLatin1_aae02_3 : decode cJ5_isLatin1_aae02 3 = .ok (.ifCond .eq 14, 3) := by decide +kernel
theorem dJ5_isLatin1_aae02_6 : decode cJ5_isLatin1_aae02 6 = .ok (.aload_n 0, 1) := by decide +kernel
theorem dJ5_isLatin1_aae02_7 : decode cJ5_isLatin1_aae02 7 = .ok (.getfield 22, 3) := by decide +kernel
theorem dJ5_isLatin1_aae02_10 : decode cJ5_isLatin1_aae02 10 = .ok (.ifCond .ne 7, 3) := by decide +kernel
theorem dJ5_isLatin1_aae02_13 : decode cJ5_isLatin1_aae02 13 = .ok (.iconst 1, 1) := by decide +kernel
theorem dJ5_isLatin1_aae02_14 : decode cJ5_isLatin1_aae02 14 = .ok (.goto 4, 3) := by decide +kernel
theorem dJ5_isLatin1_aae02_17 : decode cJ5_isLatin1_aae02 17 = .ok (.iconst 0, 1) := by decide +kernel
theorem dJ5_isLatin1_aae02_18 : decode cJ5_isLatin1_aae02 18 = .ok (.ireturn, 1) := by decide +kernel
theorem dJ5_inflateIfNeededFor_a7421_0 : decode cJ5_inflateIfNeededFor_a7421 0 = .ok (.getstatic 18, 3) := by decide +kernel
theorem dJ5_inflateIfNeededFor_a7421_3 : decode cJ5_inflateIfNeededFor_a7421 3 = .ok (.ifCond .eq 18, 3) := by decide +kernel
theorem dJ5_inflateIfNeededFor_a7421_6 : decode cJ5_inflateIfNeededFor_a7421 6 = .ok (.aload_n 0, 1) := by decide +kernel
theorem dJ5_inflateIfNeededFor_a7421_7 : decode cJ5_inflateIfNeededFor_a7421 7 = .ok (.getfield 22, 3) := by decide +kernel
theorem dJ5_inflateIfNeededFor_a7421_10 : decode cJ5_inflateIfNeededFor_a7421 10 = .ok (.aload_n 1, 1) := by decide +kernel
theorem dJ5_inflateIfNeededFor_a7421_11 : decode cJ5_inflateIfNeededFor_a7421 11 = .ok (.invokevirtual 40, 3) := by decide +kernel
theorem dJ5_inflateIfNeededFor_a7421_14 : decode cJ5_inflateIfNeededFor_a7421 14 = .ok (.if_icmp .eq 7, 3) := by decide +kernel
theorem dJ5_inflateIfNeededFor_a7421_17 : decode cJ5_inflateIfNeededFor_a7421 17 = .ok (.aload_n 0, 1) := by decide +kernel
theorem dJ5_inflateIfNeededFor_a7421_18 : decode cJ5_inflateIfNeededFor_a7421 18 = .ok (.invokevirtual 195, 3) := by decide +kernel
theorem dJ5_inflateIfNeededFor_a7421_21 : decode cJ5_inflateIfNeededFor_a7421 21 = .ok (.return_, 1) := by decide +kernel
theorem dJ5_putStringAt_47b60_0 : decode cJ5_putStringAt_47b60 0 = .ok (.aload_n 0, 1) := by decide +kernel
theorem dJ5_putStringAt_47b60_1 : decode cJ5_putStringAt_47b60 1 = .ok (.aload_n 2, 1) := by decide +kernel
theorem dJ5_putStringAt_47b60_2 : decode cJ5_putStringAt_47b60 2 = .ok (.invokevirtual 397, 3) := by decide +kernel
theorem dJ5_putStringAt_47b60_5 : decode cJ5_putStringAt_47b60 5 = .ok (.aload_n 2, 1) := by decide +kernel
theorem dJ5_putStringAt_47b60_6 : decode cJ5_putStringAt_47b60 6 = .ok (.aload_n 0, 1) := by decide +kernel
theorem dJ5_putStringAt_47b60_7 : decode cJ5_putStringAt_47b60 7 = .ok (.getfield 15, 3) := by decide +kernel
theorem dJ5_putStringAt_47b60_10 : decode cJ5_putStringAt_47b60 10 = .ok (.iload_n 1, 1) := by decide +kernel
theorem dJ5_putStringAt_47b60_11 : decode cJ5_putStringAt_47b60 11 = .ok (.aload_n 0, 1) := by decide +kernel
theorem dJ5_putStringAt_47b60_12 : decode cJ5_putStringAt_47b60 12 = .ok (.getfield 22, 3) := by decide +kernel
theorem dJ5_putStringAt_47b60_15 : decode cJ5_putStringAt_47b60 15 = .ok (.invokevirtual 399, 3) := by decide +kernel
theorem dJ5_putStringAt_47b60_18 : decode cJ5_putStringAt_47b60 18 = .ok (.return_, 1) := by decide +kernel
theorem dJ11_isValidCodePoint_9a6ad_0 : decode cJ11_isValidCodePoint_9a6ad 0 = .ok (.iload_n 0, 1) := by decide +kernel
theorem dJ11_isValidCodePoint_9a6ad_1 : decode cJ11_isValidCodePoint_9a6ad 1 = .ok (.bipush 16, 2) := by decide +kernel
theorem dJ11_isValidCodePoint_9a6ad_3 : decode cJ11_isValidCodePoint_9a6ad 3 = .ok (.iushr, 1) := by decide +kernel
theorem dJ11_isValidCodePoint_9a6ad_4 : decode cJ11_isValidCodePoint_9a6ad 4 = .ok (.istore_n 1, 1) := by decide +kernel
theorem dJ11_isValidCodePoint_9a6ad_5 : decode cJ11_isValidCodePoint_9a6ad 5 = .ok (.iload_n 1, 1) := by decide +kernel
theorem dJ11_isValidCodePoint_9a6ad_6 : decode cJ11_isValidCodePoint_9a6ad 6 = .ok (.bipush 17, 2) := by decide +kernel
theorem dJ11_isValidCodePoint_9a6ad_8 : decode cJ11_isValidCodePoint_9a6ad 8 = .ok (.if_icmp .ge 7, 3) := by decide +kernel
theorem dJ11_isValidCodePoint_9a6ad_11 : decode cJ11_isValidCodePoint_9a6ad 11 = .ok (.iconst 1, 1) := by decide +kernel
theorem dJ11_isValidCodePoint_9a6ad_12 : decode cJ11_isValidCodePoint_9a6ad 12 = .ok (.goto 4, 3) := by decide +kernel
theorem dJ11_isValidCodePoint_9a6ad_15 : decode cJ11_isValidCodePoint_9a6ad 15 = .ok (.iconst 0, 1) := by decide +kernel
theorem dJ11_isValidCodePoint_9a6ad_16 : decode cJ11_isValidCodePoint_9a6ad 16 = .ok (.ireturn, 1) := by decide +kernel
theorem dJ11_highSurrogate_5068e_0 : decode cJ11_highSurrogate_5068e 0 = .ok (.iload_n 0, 1) := by decide +kernel
theorem dJ11_highSurrogate_5068e_1 : decode cJ11_highSurrogate_5068e 1 = .ok (.bipush 10, 2) := by decide +kernel
theorem dJ11_highSurrogate_5068e_3 : decode cJ11_highSurrogate_5068e 3 = .ok (.iushr, 1) := by decide +kernel
theorem dJ11_highSurrogate_5068e_4 : decode cJ11_highSurrogate_5068e 4 = .ok (.ldc 110, 2) := by decide +kernel
theorem dJ11_highSurrogate_5068e_6 : decode cJ11_highSurrogate_5068e 6 = .ok (.iadd, 1) := by decide +kernel
theorem dJ11_highSurrogate_5068e_7 : decode cJ11_highSurrogate_5068e 7 = .ok (.i2c, 1) := by decide +kernel
theorem dJ11_highSurrogate_5068e_8 : decode cJ11_highSurrogate_5068e 8 = .ok (.ireturn, 1) := by decide +kernel
theorem dJ11_lowSurrogate_5068e_0 : decode cJ11_lowSurrogate_5068e 0 = .ok (.iload_n 0, 1) := by decide +kernel
theorem dJ11_lowSurrogate_5068e_1 : decode cJ11_lowSurrogate_5068e 1 = .ok (.sipush 1023, 3) := by decide +kernel
theorem dJ11_lowSurrogate_5068e_4 : decode cJ11_lowSurrogate_5068e 4 = .ok (.iand, 1) := by decide +kernel
theorem dJ11_lowSurrogate_5068e_5 : decode cJ11_lowSurrogate_5068e 5 = .ok (.ldc 76, 2) := by decide +kernel
theorem dJ11_lowSurrogate_5068e_7 : decode cJ11_lowSurrogate_5068e 7 = .ok (.iadd, 1) := by decide +kernel
theorem dJ11_lowSurrogate_5068e_8 : decode cJ11_lowSurrogate_5068e 8 = .ok (.i2c, 1) := by decide +kernel
theorem dJ11_lowSurrogate_5068e_9 : decode cJ11_lowSurrogate_5068e 9 = .ok (.ireturn, 1) := by decide +kernel
theorem dJ6_getChars_ba4f3_0 : decode cJ6_getChars_ba4f3 0 = .ok (.iload_n 1, 1) := by decide +kernel
theorem dJ6_getChars_ba4f3_1 : decode cJ6_getChars_ba4f3 1 = .ok (.istore 5, 2) := by decide +kernel
theorem dJ6_getChars_ba4f3_3 : decode cJ6_getChars_ba4f3 3 = .ok (.iload_n 0, 1) := by decide +kernel
theorem dJ6_getChars_ba4f3_4 : decode cJ6_getChars_ba4f3 4 = .ok (.ifCond .ge 7, 3) := by decide +kernel
theorem dJ6_getChars_ba4f3_7 : decode cJ6_getChars_ba4f3 7 = .ok (.iconst 1, 1) := by decide +kernel
theorem dJ6_getChars_ba4f3_8 : decode cJ6_getChars_ba4f3 8 = .ok (.goto 4, 3) := by decide +kernel
theorem dJ6_getChars_ba4f3_11 : decode cJ6_getChars_ba4f3 11 = .ok (.iconst 0, 1) := by decide +kernel
theorem dJ6_getChars_ba4f3_12 : decode cJ6_getChars_ba4f3 12 = .ok (.istore 6, 2) := by decide +kernel
theorem dJ6_getChars_ba4f3_14 : decode cJ6_getChars_ba4f3 14 = .ok (.iload 6, 2) := by decide +kernel
theorem dJ6_getChars_ba4f3_16 : decode cJ6_getChars_ba4f3 16 = .ok (.ifCond .ne 6, 3) := by decide +kernel
theorem dJ6_getChars_ba4f3_19 : decode cJ6_getChars_ba4f3 19 = .ok (.iload_n 0, 1) := by decide +kernel
theorem dJ6_getChars_ba4f3_20 : decode cJ6_getChars_ba4f3 20 = .ok (.ineg, 1) := by decide +kernel
theorem dJ6_getChars_ba4f3_21 : decode cJ6_getChars_ba4f3 21 = .ok (.istore_n 0, 1) := by decide +kernel
theorem dJ6_getChars_ba4f3_22 : decode cJ6_getChars_ba4f3 22 = .ok (.iload_n 0, 1) := by decide +kernel
theorem dJ6_getChars_ba4f3_23 : decode cJ6_getChars_ba4f3 23 = .ok (.bipush (-100), 2) := by decide +kernel
theorem dJ6_getChars_ba4f3_25 : decode cJ6_getChars_ba4f3 25 = .ok (.if_icmp .gt 47, 3) := by decide +kernel
theorem dJ6_getChars_ba4f3_28 : decode cJ6_getChars_ba4f3 28 = .ok (.iload_n 0, 1) := by decide +kernel
theorem dJ6_getChars_ba4f3_29 : decode cJ6_getChars_ba4f3 29 = .ok (.bipush 100, 2) := by decide +kernel
theorem dJ6_getChars_ba4f3_31 : decode cJ6_getChars_ba4f3 31 = .ok (.idiv, 1) := by decide +kernel
theorem dJ6_getChars_ba4f3_32 : decode cJ6_getChars_ba4f3 32 = .ok (.istore_n 3, 1) := by decide +kernel
theorem dJ6_getChars_ba4f3_33 : decode cJ6_getChars_ba4f3 33 = .ok (.iload_n 3, 1) := by decide +kernel
theorem dJ6_getChars_ba4f3_34 : decode cJ6_getChars_ba4f3 34 = .ok (.bipush 100, 2) := by decide +kernel
theorem dJ6_getChars_ba4f3_36 : decode cJ6_getChars_ba4f3 36 = .ok (.imul, 1) := by decide +kernel
theorem dJ6_getChars_ba4f3_37 : decode cJ6_getChars_ba4f3 37 = .ok (.iload_n 0, 1) := by decide +kernel
theorem dJ6_getChars_ba4f3_38 : decode cJ6_getChars_ba4f3 38 = .ok (.isub, 1) := by decide +kernel
theorem dJ6_getChars_ba4f3_39 : decode cJ6_getChars_ba4f3 39 = .ok (.istore 4, 2) := by decide +kernel
theorem dJ6_getChars_ba4f3_41 : decode cJ6_getChars_ba4f3 41 = .ok (.iload_n 3, 1) := by decide +kernel
theorem dJ6_getChars_ba4f3_42 : decode cJ6_getChars_ba4f3 42 = .ok (.istore_n 0, 1) := by decide +kernel
theorem dJ6_getChars_ba4f3_43 : decode cJ6_getChars_ba4f3 43 = .ok (.aload_n 2, 1) := by decide +kernel
theorem dJ6_getChars_ba4f3_44 : decode cJ6_getChars_ba4f3 44 = .ok (.iinc 5 (-1), 3) := by decide +kernel
theorem dJ6_getChars_ba4f3_47 : decode cJ6_getChars_ba4f3 47 = .ok (.iload 5, 2) := by decide +kernel
theorem dJ6_getChars_ba4f3_49 : decode cJ6_getChars_ba4f3 49 = .ok (.getstatic 83, 3) := by decide +kernel
theorem dJ6_getChars_ba4f3_52 : decode cJ6_getChars_ba4f3 52 = .ok (.iload 4, 2) := by decide +kernel
theorem dJ6_getChars_ba4f3_54 : decode cJ6_getChars_ba4f3 54 = .ok (.baload, 1) := by decide +kernel
theorem dJ6_getChars_ba4f3_55 : decode cJ6_getChars_ba4f3 55 = .ok (.bastore, 1) := by decide +kernel
theorem dJ6_getChars_ba4f3_56 : decode cJ6_getChars_ba4f3 56 = .ok (.aload_n 2, 1) := by decide +kernel
theorem dJ6_getChars_ba4f3_57 : decode cJ6_getChars_ba4f3 57 = .ok (.iinc 5 (-1), 3) := by decide +kernel
theorem dJ6_getChars_ba4f3_60 : decode cJ6_getChars_ba4f3 60 = .ok (.iload 5, 2) := by decide +kernel
theorem dJ6_getChars_ba4f3_62 : decode cJ6_getChars_ba4f3 62 = .ok (.getstatic 87, 3) := by decide +kernel
theorem dJ6_getChars_ba4f3_65 : decode cJ6_getChars_ba4f3 65 = .ok (.iload 4, 2) := by decide +kernel
theorem dJ6_getChars_ba4f3_67 : decode cJ6_getChars_ba4f3 67 = .ok (.baload, 1) := by decide +kernel
theorem dJ6_getChars_ba4f3_68 : decode cJ6_getChars_ba4f3 68 = .ok (.bastore, 1) := by decide +kernel
theorem dJ6_getChars_ba4f3_69 : decode cJ6_getChars_ba4f3 69 = .ok (.goto (-47), 3) := by decide +kernel
theorem dJ6_getChars_ba4f3_72 : decode cJ6_getChars_ba4f3 72 = .ok (.aload_n 2, 1) := by decide +kernel
theorem dJ6_getChars_ba4f3_73 : decode cJ6_getChars_ba4f3 73 = .ok (.iinc 5 (-1), 3) := by decide +kernel
theorem dJ6_getChars_ba4f3_76 : decode cJ6_getChars_ba4f3 76 = .ok (.iload 5, 2) := by decide +kernel
theorem dJ6_getChars_ba4f3_78 : decode cJ6_getChars_ba4f3 78 = .ok (.getstatic 83, 3) := by decide +kernel
theorem dJ6_getChars_ba4f3_81 : decode cJ6_getChars_ba4f3 81 = .ok (.iload_n 0, 1) := by decide +kernel
theorem dJ6_getChars_ba4f3_82 : decode cJ6_getChars_ba4f3 82 = .ok (.ineg, 1) := by decide +kernel
theorem dJ6_getChars_ba4f3_83 : decode cJ6_getChars_ba4f3 83 = .ok (.baload, 1) := by decide +kernel
theorem dJ6_getChars_ba4f3_84 : decode cJ6_getChars_ba4f3 84 = .ok (.bastore, 1) := by decide +kernel
theorem dJ6_getChars_ba4f3_85 : decode cJ6_getChars_ba4f3 85 = .ok (.iload_n 0, 1) := by decide +kernel
theorem dJ6_getChars_ba4f3_86 : decode cJ6_getChars_ba4f3 86 = .ok (.bipush (-9), 2) := by decide +kernel
theorem dJ6_getChars_ba4f3_88 : decode cJ6_getChars_ba4f3 88 = .ok (.if_icmp .ge 16, 3) := by decide +kernel
theorem dJ6_getChars_ba4f3_91 : decode cJ6_getChars_ba4f3 91 = .ok (.aload_n 2, 1) := by decide +kernel
theorem dJ6_getChars_ba4f3_92 : decode cJ6_getChars_ba4f3 92 = .ok (.iinc 5 (-1), 3) := by decide +kernel
theorem dJ6_getChars_ba4f3_95 : decode cJ6_getChars_ba4f3 95 = .ok (.iload 5, 2) := by decide +kernel
theorem dJ6_getChars_ba4f3_97 : decode cJ6_getChars_ba4f3 97 = .ok (.getstatic 87, 3) := by decide +kernel
theorem dJ6_getChars_ba4f3_100 : decode cJ6_getChars_ba4f3 100 = .ok (.iload_n 0, 1) := by decide +kernel
theorem dJ6_getChars_ba4f3_101 : decode cJ6_getChars_ba4f3 101 = .ok (.ineg, 1) := by decide +kernel
theorem dJ6_getChars_ba4f3_102 : decode cJ6_getChars_ba4f3 102 = .ok (.baload, 1) := by decide +kernel
theorem dJ6_getChars_ba4f3_103 : decode cJ6_getChars_ba4f3 103 = .ok (.bastore, 1) := by decide +kernel
theorem dJ6_getChars_ba4f3_104 : decode cJ6_getChars_ba4f3 104 = .ok (.iload 6, 2) := by decide +kernel
theorem dJ6_getChars_ba4f3_106 : decode cJ6_getChars_ba4f3 106 = .ok (.ifCond .eq 12, 3) := by decide +kernel
theorem dJ6_getChars_ba4f3_109 : decode cJ6_getChars_ba4f3 109 = .ok (.aload_n 2, 1) := by decide +kernel
theorem dJ6_getChars_ba4f3_110 : decode cJ6_getChars_ba4f3 110 = .ok (.iinc 5 (-1), 3) := by decide +kernel
theorem dJ6_getChars_ba4f3_113 : decode cJ6_getChars_ba4f3 113 = .ok (.iload 5, 2) := by decide +kernel
theorem dJ6_getChars_ba4f3_115 : decode cJ6_getChars_ba4f3 115 = .ok (.bipush 45, 2) := by decide +kernel
theorem dJ6_getChars_ba4f3_117 : decode cJ6_getChars_ba4f3 117 = .ok (.bastore, 1) := by decide +kernel
theorem dJ6_getChars_ba4f3_118 : decode cJ6_getChars_ba4f3 118 = .ok (.iload 5, 2) := by decide +kernel
theorem dJ6_getChars_ba4f3_120 : decode cJ6_getChars_ba4f3 120 = .ok (.ireturn, 1) := by decide +kernel
theorem dJ6_stringSize_0f7a4_0 : decode cJ6_stringSize_0f7a4 0 = .ok (.iconst 1, 1) := by decide +kernel
theorem dJ6_stringSize_0f7a4_1 : decode cJ6_stringSize_0f7a4 1 = .ok (.istore_n 1, 1) := by decide +kernel
theorem dJ6_stringSize_0f7a4_2 : decode cJ6_stringSize_0f7a4 2 = .ok (.iload_n 0, 1) := by decide +kernel
theorem dJ6_stringSize_0f7a4_3 : decode cJ6_stringSize_0f7a4 3 = .ok (.ifCond .lt 8, 3) := by decide +kernel
theorem dJ6_stringSize_0f7a4_6 : decode cJ6_stringSize_0f7a4 6 = .ok (.iconst 0, 1) := by decide +kernel
theorem dJ6_stringSize_0f7a4_7 : decode cJ6_stringSize_0f7a4 7 = .ok (.istore_n 1, 1) := by decide +kernel
theorem dJ6_stringSize_0f7a4_8 : decode cJ6_stringSize_0f7a4 8 = .ok (.iload_n 0, 1) := by decide +kernel
theorem dJ6_stringSize_0f7a4_9 : decode cJ6_stringSize_0f7a4 9 = .ok (.ineg, 1) := by decide +kernel
theorem dJ6_stringSize_0f7a4_10 : decode cJ6_stringSize_0f7a4 10 = .ok (.istore_n 0, 1) := by decide +kernel
theorem dJ6_stringSize_0f7a4_11 : decode cJ6_stringSize_0f7a4 11 = .ok (.bipush (-10), 2) := by decide +kernel
theorem dJ6_stringSize_0f7a4_13 : decode cJ6_stringSize_0f7a4 13 = .ok (.istore_n 2, 1) := by decide +kernel
theorem dJ6_stringSize_0f7a4_14 : decode cJ6_stringSize_0f7a4 14 = .ok (.iconst 1, 1) := by decide +kernel
theorem dJ6_stringSize_0f7a4_15 : decode cJ6_stringSize_0f7a4 15 = .ok (.istore_n 3, 1) := by decide +kernel
theorem dJ6_stringSize_0f7a4_16 : decode cJ6_stringSize_0f7a4 16 = .ok (.iload_n 3, 1) := by decide +kernel
theorem dJ6_stringSize_0f7a4_17 : decode cJ6_stringSize_0f7a4 17 = .ok (.bipush 10, 2) := by decide +kernel
theorem dJ6_stringSize_0f7a4_19 : decode cJ6_stringSize_0f7a4 19 = .ok (.if_icmp .ge 23, 3) := by decide +kernel
theorem dJ6_stringSize_0f7a4_22 : decode cJ6_stringSize_0f7a4 22 = .ok (.iload_n 0, 1) := by decide +kernel
theorem dJ6_stringSize_0f7a4_23 : decode cJ6_stringSize_0f7a4 23 = .ok (.iload_n 2, 1) := by decide +kernel
theorem dJ6_stringSize_0f7a4_24 : decode cJ6_stringSize_0f7a4 24 = .ok (.if_icmp .le 7, 3) := by decide +kernel
theorem dJ6_stringSize_0f7a4_27 : decode cJ6_stringSize_0f7a4 27 = .ok (.iload_n 3, 1) := by decide +kernel
theorem dJ6_stringSize_0f7a4_28 : decode cJ6_stringSize_0f7a4 28 = .ok (.iload_n 1, 1) := by decide +kernel
theorem dJ6_stringSize_0f7a4_29 : decode cJ6_stringSize_0f7a4 29 = .ok (.iadd, 1) := by decide +kernel
theorem dJ6_stringSize_0f7a4_30 : decode cJ6_stringSize_0f7a4 30 = .ok (.ireturn, 1) := by decide +kernel
theorem dJ6_stringSize_0f7a4_31 : decode cJ6_stringSize_0f7a4 31 = .ok (.bipush 10, 2) := by decide +kernel
theorem dJ6_stringSize_0f7a4_33 : decode cJ6_stringSize_0f7a4 33 = .ok (.iload_n 2, 1) := by decide +kernel
theorem dJ6_stringSize_0f7a4_34 : decode cJ6_stringSize_0f7a4 34 = .ok (.imul, 1) := by decide +kernel
theorem dJ6_stringSize_0f7a4_35 : decode cJ6_stringSize_0f7a4 35 = .ok (.istore_n 2, 1) := by decide +kernel
theorem dJ6_stringSize_0f7a4_36 : decode cJ6_stringSize_0f7a4 36 = .ok (.iinc 3 1, 3) := by decide +kernel
theorem dJ6_stringSize_0f7a4_39 : decode cJ6_stringSize_0f7a4 39 = .ok (.goto (-23), 3) := by decide +kernel
theorem dJ6_stringSize_0f7a4_42 : decode cJ6_stringSize_0f7a4 42 = .ok (.bipush 10, 2) := by decide +kernel
theorem dJ6_stringSize_0f7a4_44 : decode cJ6_stringSize_0f7a4 44 = .ok (.iload_n 1, 1) := by decide +kernel
theorem dJ6_stringSize_0f7a4_45 : decode cJ6_stringSize_0f7a4 45 = .ok (.iadd, 1) := by decide +kernel
theorem dJ6_stringSize_0f7a4_46 : decode cJ6_stringSize_0f7a4 46 = .ok (.ireturn, 1) := by decide +kernel
theorem dJ13_bitCount_95d88_0 : decode cJ13_bitCount_95d88 0 = .ok (.lload_n 0, 1) := by decide +kernel
theorem dJ13_bitCount_95d88_1 : decode cJ13_bitCount_95d88 1 = .ok (.lload_n 0, 1) := by decide +kernel
theorem dJ13_bitCount_95d88_2 : decode cJ13_bitCount_95d88 2 = .ok (.iconst 1, 1) := by decide +kernel
theorem dJ13_bitCount_95d88_3 : decode cJ13_bitCount_95d88 3 = .ok (.lushr, 1) := by decide +kernel
theorem dJ13_bitCount_95d88_4 : decode cJ13_bitCount_95d88 4 = .ok (.ldc2_w 314, 3) := by decide +kernel
theorem dJ13_bitCount_95d88_7 : decode cJ13_bitCount_95d88 7 = .ok (.land, 1) := by decide +kernel
theorem dJ13_bitCount_95d88_8 : decode cJ13_bitCount_95d88 8 = .ok (.lsub, 1) := by decide +kernel
theorem dJ13_bitCount_95d88_9 : decode cJ13_bitCount_95d88 9 = .ok (.lstore_n 0, 1) := by decide +kernel
theorem dJ13_bitCount_95d88_10 : decode cJ13_bitCount_95d88 10 = .ok (.lload_n 0, 1) := by decide +kernel
theorem dJ13_bitCount_95d88_11 : decode cJ13_bitCount_95d88 11 = .ok (.ldc2_w 316, 3) := by decide +kernel
theorem dJ13_bitCount_95d88_14 : decode cJ13_bitCount_95d88 14 = .ok (.land, 1) := by decide +kernel
theorem dJ13_bitCount_95d88_15 : decode cJ13_bitCount_95d88 15 = .ok (.lload_n 0, 1) := by decide +kernel
theorem dJ13_bitCount_95d88_16 : decode cJ13_bitCount_95d88 16 = .ok (.iconst 2, 1) := by decide +kernel
theorem dJ13_bitCount_95d88_17 : decode cJ13_bitCount_95d88 17 = .ok (.lushr, 1) := by decide +kernel
theorem dJ13_bitCount_95d88_18 : decode cJ13_bitCount_95d88 18 = .ok (.ldc2_w 316, 3) := by decide +kernel
theorem dJ13_bitCount_95d88_21 : decode cJ13_bitCount_95d88 21 = .ok (.land, 1) := by decide +kernel
theorem dJ13_bitCount_95d88_22 : decode cJ13_bitCount_95d88 22 = .ok (.ladd, 1) := by decide +kernel
theorem dJ13_bitCount_95d88_23 : decode cJ13_bitCount_95d88 23 = .ok (.lstore_n 0, 1) := by decide +kernel
theorem dJ13_bitCount_95d88_24 : decode cJ13_bitCount_95d88 24 = .ok (.lload_n 0, 1) := by decide +kernel
theorem dJ13_bitCount_95d88_25 : decode cJ13_bitCount_95d88 25 = .ok (.lload_n 0, 1) := by decide +kernel
theorem dJ13_bitCount_95d88_26 : decode cJ13_bitCount_95d88 26 = .ok (.iconst 4, 1) := by decide +kernel
theorem dJ13_bitCount_95d88_27 : decode cJ13_bitCount_95d88 27 = .ok (.lushr, 1) := by decide +kernel
theorem dJ13_bitCount_95d88_28 : decode cJ13_bitCount_95d88 28 = .ok (.ladd, 1) := by decide +kernel
theorem dJ13_bitCount_95d88_29 : decode cJ13_bitCount_95d88 29 = .ok (.ldc2_w 318, 3) := by decide +kernel
theorem dJ13_bitCount_95d88_32 : decode cJ13_bitCount_95d88 32 = .ok (.land, 1) := by decide +kernel
theorem dJ13_bitCount_95d88_33 : decode cJ13_bitCount_95d88 33 = .ok (.lstore_n 0, 1) := by decide +kernel
theorem dJ13_bitCount_95d88_34 : decode cJ13_bitCount_95d88 34 = .ok (.lload_n 0, 1) := by decide +kernel
theorem dJ13_bitCount_95d88_35 : decode cJ13_bitCount_95d88 35 = .ok (.lload_n 0, 1) := by decide +kernel
theorem dJ13_bitCount_95d88_36 : decode cJ13_bitCount_95d88 36 = .ok (.bipush 8, 2) := by decide +kernel
theorem dJ13_bitCount_95d88_38 : decode cJ13_bitCount_95d88 38 = .ok (.lushr, 1) := by decide +kernel
theorem dJ13_bitCount_95d88_39 : decode cJ13_bitCount_95d88 39 = .ok (.ladd, 1) := by decide +kernel
theorem dJ13_bitCount_95d88_40 : decode cJ13_bitCount_95d88 40 = .ok (.lstore_n 0, 1) := by decide +kernel
theorem dJ13_bitCount_95d88_41 : decode cJ13_bitCount_95d88 41 = .ok (.lload_n 0, 1) := by decide +kernel
theorem dJ13_bitCount_95d88_42 : decode cJ13_bitCount_95d88 42 = .ok (.lload_n 0, 1) := by decide +kernel
theorem dJ13_bitCount_95d88_43 : decode cJ13_bitCount_95d88 43 = .ok (.bipush 16, 2) := by decide +kernel
theorem dJ13_bitCount_95d88_45 : decode cJ13_bitCount_95d88 45 = .ok (.lushr, 1) := by decide +kernel
theorem dJ13_bitCount_95d88_46 : decode cJ13_bitCount_95d88 46 = .ok (.ladd, 1) := by decide +kernel
theorem dJ13_bitCount_95d88_47 : decode cJ13_bitCount_95d88 47 = .ok (.lstore_n 0, 1) := by decide +kernel
theorem dJ13_bitCount_95d88_48 : decode cJ13_bitCount_95d88 48 = .ok (.lload_n 0, 1) := by decide +kernel
theorem dJ13_bitCount_95d88_49 : decode cJ13_bitCount_95d88 49 = .ok (.lload_n 0, 1) := by decide +kernel
theorem dJ13_bitCount_95d88_50 : decode cJ13_bitCount_95d88 50 = .ok (.bipush 32, 2) := by decide +kernel
theorem dJ13_bitCount_95d88_52 : decode cJ13_bitCount_95d88 52 = .ok (.lushr, 1) := by decide +kernel
theorem dJ13_bitCount_95d88_53 : decode cJ13_bitCount_95d88 53 = .ok (.ladd, 1) := by decide +kernel
theorem dJ13_bitCount_95d88_54 : decode cJ13_bitCount_95d88 54 = .ok (.lstore_n 0, 1) := by decide +kernel
theorem dJ13_bitCount_95d88_55 : decode cJ13_bitCount_95d88 55 = .ok (.lload_n 0, 1) := by decide +kernel
theorem dJ13_bitCount_95d88_56 : decode cJ13_bitCount_95d88 56 = .ok (.l2i, 1) := by decide +kernel
theorem dJ13_bitCount_95d88_57 : decode cJ13_bitCount_95d88 57 = .ok (.bipush 127, 2) := by decide +kernel
theorem dJ13_bitCount_95d88_59 : decode cJ13_bitCount_95d88 59 = .ok (.iand, 1) := by decide +kernel
theorem dJ13_bitCount_95d88_60 : decode cJ13_bitCount_95d88 60 = .ok (.ireturn, 1) := by decide +kernel
theorem dJ9_max_7cf53_0 : decode cJ9_max_7cf53 0 = .ok (.iload_n 0, 1) := by decide +kernel
theorem dJ9_max_7cf53_1 : decode cJ9_max_7cf53 1 = .ok (.iload_n 1, 1) := by decide +kernel
theorem dJ9_max_7cf53_2 : decode cJ9_max_7cf53 2 = .ok (.if_icmp .lt 7, 3) := by decide +kernel
theorem dJ9_max_7cf53_5 : decode cJ9_max_7cf53 5 = .ok (.iload_n 0, 1) := by decide +kernel
theorem dJ9_max_7cf53_6 : decode cJ9_max_7cf53 6 = .ok (.goto 4, 3) := by decide +kernel
theorem dJ9_max_7cf53_9 : decode cJ9_max_7cf53 9 = .ok (.iload_n 1, 1) := by decide +kernel
theorem dJ9_max_7cf53_10 : decode cJ9_max_7cf53 10 = .ok (.ireturn, 1) := by decide +kernel
theorem dJ9_min_7cf53_0 : decode cJ9_min_7cf53 0 = .ok (.iload_n 0, 1) := by decide +kernel
theorem dJ9_min_7cf53_1 : decode cJ9_min_7cf53 1 = .ok (.iload_n 1, 1) := by decide +kernel
theorem dJ9_min_7cf53_2 : decode cJ9_min_7cf53 2 = .ok (.if_icmp .gt 7, 3) := by decide +kernel
theorem dJ9_min_7cf53_5 : decode cJ9_min_7cf53 5 = .ok (.iload_n 0, 1) := by decide +kernel
theorem dJ9_min_7cf53_6 : decode cJ9_min_7cf53 6 = .ok (.goto 4, 3) := by decide +kernel
theorem dJ9_min_7cf53_9 : decode cJ9_min_7cf53 9 = .ok (.iload_n 1, 1) := by decide +kernel
theorem dJ9_min_7cf53_10 : decode cJ9_min_7cf53 10 = .ok (.ireturn, 1) := by decide +kernel
theorem dJ0_init_81219_0 : decode cJ0_init_81219 0 = .ok (.aload_n 0, 1) := by decide +kernel
theorem dJ0_init_81219_1 : decode cJ0_init_81219 1 = .ok (.aload_n 1, 1) := by decide +kernel
theorem dJ0_init_81219_2 : decode cJ0_init_81219 2 = .ok (.aconst_null, 1) := by decide +kernel
theorem dJ0_init_81219_3 : decode cJ0_init_81219 3 = .ok (.invokespecial 489, 3) := by decide +kernel
theorem dJ0_init_81219_6 : decode cJ0_init_81219 6 = .ok (.return_, 1) := by decide +kernel
theorem dJ0_length_8abf5_0 : decode cJ0_length_8abf5 0 = .ok (.aload_n 0, 1) := by decide +kernel
theorem dJ0_length_8abf5_1 : decode cJ0_length_8abf5 1 = .ok (.getfield 9, 3) := by decide +kernel
theorem dJ0_length_8abf5_4 : decode cJ0_length_8abf5 4 = .ok (.arraylength, 1) := by decide +kernel
theorem dJ0_length_8abf5_5 : decode cJ0_length_8abf5 5 = .ok (.aload_n 0, 1) := by decide +kernel
theorem dJ0_length_8abf5_6 : decode cJ0_length_8abf5 6 = .ok (.invokevirtual 335, 3) := by decide +kernel
theorem dJ0_length_8abf5_9 : decode cJ0_length_8abf5 9 = .ok (.ishr, 1) := by decide +kernel
theorem dJ0_length_8abf5_10 : decode cJ0_length_8abf5 10 = .ok (.ireturn, 1) := by decide +kernel
theorem dJ0_isEmpty_aae02_0 : decode cJ0_isEmpty_aae02 0 = .ok (.aload_n 0, 1) := by decide +kernel
theorem dJ0_isEmpty_aae02_1 : decode cJ0_isEmpty_aae02 1 = .ok (.getfield 9, 3) := by decide +kernel
theorem dJ0_isEmpty_aae02_4 : decode cJ0_isEmpty_aae02 4 = .ok (.arraylength, 1) := by decide +kernel
theorem dJ0_isEmpty_aae02_5 : decode cJ0_isEmpty_aae02 5 = .ok (.ifCond .ne 7, 3) := by decide +kernel
theorem dJ0_isEmpty_aae02_8 : decode cJ0_isEmpty_aae02 8 = .ok (.iconst 1, 1) := by decide +kernel
theorem dJ0_isEmpty_aae02_9 : decode cJ0_isEmpty_aae02 9 = .ok (.goto 4, 3) := by decide +kernel
theorem dJ0_isEmpty_aae02_12 : decode cJ0_isEmpty_aae02 12 = .ok (.iconst 0, 1) := by decide +kernel
theorem dJ0_isEmpty_aae02_13 : decode cJ0_isEmpty_aae02 13 = .ok (.ireturn, 1) := by decide +kernel
theorem dJ0_charAt_5068e_0 : decode cJ0_charAt_5068e 0 = .ok (.aload_n 0, 1) := by decide +kernel
theorem dJ0_charAt_5068e_1 : decode cJ0_charAt_5068e 1 = .ok (.invokevirtual 492, 3) := by decide +kernel
theorem dJ0_charAt_5068e_4 : decode cJ0_charAt_5068e 4 = .ok (.ifCond .eq 12, 3) := by decide +kernel
theorem dJ0_charAt_5068e_7 : decode cJ0_charAt_5068e 7 = .ok (.aload_n 0, 1) := by decide +kernel
theorem dJ0_charAt_5068e_8 : decode cJ0_charAt_5068e 8 = .ok (.getfield 9, 3) := by decide +kernel
theorem dJ0_charAt_5068e_11 : decode cJ0_charAt_5068e 11 = .ok (.iload_n 1, 1) := by decide +kernel
theorem dJ0_charAt_5068e_12 : decode cJ0_charAt_5068e 12 = .ok (.invokestatic 495, 3) := by decide +kernel
theorem dJ0_charAt_5068e_15 : decode cJ0_charAt_5068e 15 = .ok (.ireturn, 1) := by decide +kernel
theorem dJ0_charAt_5068e_16 : decode cJ0_charAt_5068e 16 = .ok (.aload_n 0, 1) := by decide +kernel
theorem dJ0_charAt_5068e_17 : decode cJ0_charAt_5068e 17 = .ok (.getfield 9, 3) := by decide +kernel
theorem dJ0_charAt_5068e_20 : decode cJ0_charAt_5068e 20 = .ok (.iload_n 1, 1) := by decide +kernel
theorem dJ0_charAt_5068e_21 : decode cJ0_charAt_5068e 21 = .ok (.invokestatic 498, 3) := by decide +kernel
theorem dJ0_charAt_5068e_24 : decode cJ0_charAt_5068e 24 = .ok (.ireturn, 1) := by decide +kernel
theorem dJ0_indexOf_0f7a4_0 : decode cJ0_indexOf_0f7a4 0 = .ok (.aload_n 0, 1) := by decide +kernel
theorem dJ0_indexOf_0f7a4_1 : decode cJ0_indexOf_0f7a4 1 = .ok (.iload_n 1, 1) := by decide +kernel
theorem dJ0_indexOf_0f7a4_2 : decode cJ0_indexOf_0f7a4 2 = .ok (.iconst 0, 1) := by decide +kernel
theorem dJ0_indexOf_0f7a4_3 : decode cJ0_indexOf_0f7a4 3 = .ok (.invokevirtual 633, 3) := by decide +kernel
theorem dJ0_indexOf_0f7a4_6 : decode cJ0_indexOf_0f7a4 6 = .ok (.ireturn, 1) := by decide +kernel
theorem dJ0_indexOf_7cf53_0 : decode cJ0_indexOf_7cf53 0 = .ok (.aload_n 0, 1) := by decide +kernel
theorem dJ0_indexOf_7cf53_1 : decode cJ0_indexOf_7cf53 1 = .ok (.invokevirtual 492, 3) := by decide +kernel
theorem dJ0_indexOf_7cf53_4 : decode cJ0_indexOf_7cf53 4 = .ok (.ifCond .eq 19, 3) := by decide +kernel
theorem dJ0_indexOf_7cf53_7 : decode cJ0_indexOf_7cf53 7 = .ok (.aload_n 0, 1) := by decide +kernel
theorem dJ0_indexOf_7cf53_8 : decode cJ0_indexOf_7cf53 8 = .ok (.getfield 9, 3) := by decide +kernel
theorem dJ0_indexOf_7cf53_11 : decode cJ0_indexOf_7cf53 11 = .ok (.iload_n 1, 1) := by decide +kernel
theorem dJ0_indexOf_7cf53_12 : decode cJ0_indexOf_7cf53 12 = .ok (.iload_n 2, 1) := by decide +kernel
theorem dJ0_indexOf_7cf53_13 : decode cJ0_indexOf_7cf53 13 = .ok (.aload_n 0, 1) := by decide +kernel
theorem dJ0_indexOf_7cf53_14 : decode cJ0_indexOf_7cf53 14 = .ok (.invokevirtual 505, 3) := by decide +kernel
theorem dJ0_indexOf_7cf53_17 : decode cJ0_indexOf_7cf53 17 = .ok (.invokestatic 637, 3) := by decide +kernel
theorem dJ0_indexOf_7cf53_20 : decode cJ0_indexOf_7cf53 20 = .ok (.goto 16, 3) := by decide +kernel
theorem dJ0_indexOf_7cf53_23 : decode cJ0_indexOf_7cf53 23 = .ok (.aload_n 0, 1) := by decide +kernel
theorem dJ0_indexOf_7cf53_24 : decode cJ0_indexOf_7cf53 24 = .ok (.getfield 9, 3) := by decide +kernel
theorem dJ0_indexOf_7cf53_27 : decode cJ0_indexOf_7cf53 27 = .ok (.iload_n 1, 1) := by decide +kernel
theorem dJ0_indexOf_7cf53_28 : decode cJ0_indexOf_7cf53 28 = .ok (.iload_n 2, 1) := by decide +kernel
theorem dJ0_indexOf_7cf53_29 : decode cJ0_indexOf_7cf53 29 = .ok (.aload_n 0, 1) := by decide +kernel
theorem dJ0_indexOf_7cf53_30 : decode cJ0_indexOf_7cf53 30 = .ok (.invokevirtual 505, 3) := by decide +kernel
theorem dJ0_indexOf_7cf53_33 : decode cJ0_indexOf_7cf53 33 = .ok (.invokestatic 640, 3) := by decide +kernel
theorem dJ0_indexOf_7cf53_36 : decode cJ0_indexOf_7cf53 36 = .ok (.ireturn, 1) := by decide +kernel
theorem dJ0_getBytes_840e7_0 : decode cJ0_getBytes_840e7 0 = .ok (.aload_n 0, 1) := by decide +kernel
theorem dJ0_getBytes_840e7_1 : decode cJ0_getBytes_840e7 1 = .ok (.invokevirtual 335, 3) := by decide +kernel
theorem dJ0_getBytes_840e7_4 : decode cJ0_getBytes_840e7 4 = .ok (.iload_n 3, 1) := by decide +kernel
theorem dJ0_getBytes_840e7_5 : decode cJ0_getBytes_840e7 5 = .ok (.if_icmp .ne 23, 3) := by decide +kernel
theorem dJ0_getBytes_840e7_8 : decode cJ0_getBytes_840e7 8 = .ok (.aload_n 0, 1) := by decide +kernel
theorem dJ0_getBytes_840e7_9 : decode cJ0_getBytes_840e7 9 = .ok (.getfield 9, 3) := by decide +kernel
theorem dJ0_getBytes_840e7_12 : decode cJ0_getBytes_840e7 12 = .ok (.iconst 0, 1) := by decide +kernel
theorem dJ0_getBytes_840e7_13 : decode cJ0_getBytes_840e7 13 = .ok (.aload_n 1, 1) := by decide +kernel
theorem dJ0_getBytes_840e7_14 : decode cJ0_getBytes_840e7 14 = .ok (.iload_n 2, 1) := by decide +kernel
theorem dJ0_getBytes_840e7_15 : decode cJ0_getBytes_840e7 15 = .ok (.iload_n 3, 1) := by decide +kernel
theorem dJ0_getBytes_840e7_16 : decode cJ0_getBytes_840e7 16 = .ok (.ishl, 1) := by decide +kernel
theorem dJ0_getBytes_840e7_17 : decode cJ0_getBytes_840e7 17 = .ok (.aload_n 0, 1) := by decide +kernel
theorem dJ0_getBytes_840e7_18 : decode cJ0_getBytes_840e7 18 = .ok (.getfield 9, 3) := by decide +kernel
theorem dJ0_getBytes_840e7_21 : decode cJ0_getBytes_840e7 21 = .ok (.arraylength, 1) := by decide +kernel
theorem dJ0_getBytes_840e7_22 : decode cJ0_getBytes_840e7 22 = .ok (.invokestatic 212, 3) := by decide +kernel
theorem dJ0_getBytes_840e7_25 : decode cJ0_getBytes_840e7 25 = .ok (.goto 18, 3) := by decide +kernel
theorem dJ0_getBytes_840e7_28 : decode cJ0_getBytes_840e7 28 = .ok (.aload_n 0, 1) := by decide +kernel
theorem dJ0_getBytes_840e7_29 : decode cJ0_getBytes_840e7 29 = .ok (.getfield 9, 3) := by decide +kernel
theorem dJ0_getBytes_840e7_32 : decode cJ0_getBytes_840e7 32 = .ok (.iconst 0, 1) := by decide +kernel
theorem dJ0_getBytes_840e7_33 : decode cJ0_getBytes_840e7 33 = .ok (.aload_n 1, 1) := by decide +kernel
theorem dJ0_getBytes_840e7_34 : decode cJ0_getBytes_840e7 34 = .ok (.iload_n 2, 1) := by decide +kernel
theorem dJ0_getBytes_840e7_35 : decode cJ0_getBytes_840e7 35 = .ok (.aload_n 0, 1) := by decide +kernel
theorem dJ0_getBytes_840e7_36 : decode cJ0_getBytes_840e7 36 = .ok (.getfield 9, 3) := by decide +kernel
theorem dJ0_getBytes_840e7_39 : decode cJ0_getBytes_840e7 39 = .ok (.arraylength, 1) := by decide +kernel
theorem dJ0_getBytes_840e7_40 : decode cJ0_getBytes_840e7 40 = .ok (.invokestatic 106, 3) := by decide +kernel
theorem dJ0_getBytes_840e7_43 : decode cJ0_getBytes_840e7 43 = .ok (.return_, 1) := by decide +kernel
theorem dJ0_init_db425_0 : decode cJ0_init_db425 0 = .ok (.aload_n 0, 1) := by decide +kernel
theorem dJ0_init_db425_1 : decode cJ0_init_db425 1 = .ok (.invokespecial 1, 3) := by decide +kernel
theorem dJ0_init_db425_4 : decode cJ0_init_db425 4 = .ok (.aload_n 1, 1) := by decide +kernel
theorem dJ0_init_db425_5 : decode cJ0_init_db425 5 = .ok (.invokevirtual 552, 3) := by decide +kernel
theorem dJ0_init_db425_8 : decode cJ0_init_db425 8 = .ok (.astore_n 3, 1) := by decide +kernel
theorem dJ0_init_db425_9 : decode cJ0_init_db425 9 = .ok (.aload_n 1, 1) := by decide +kernel
theorem dJ0_init_db425_10 : decode cJ0_init_db425 10 = .ok (.invokevirtual 549, 3) := by decide +kernel
theorem dJ0_init_db425_13 : decode cJ0_init_db425 13 = .ok (.istore 4, 2) := by decide +kernel
theorem dJ0_init_db425_15 : decode cJ0_init_db425 15 = .ok (.aload_n 1, 1) := by decide +kernel
theorem dJ0_init_db425_16 : decode cJ0_init_db425 16 = .ok (.invokevirtual 1047, 3) := by decide +kernel
theorem dJ0_init_db425_19 : decode cJ0_init_db425 19 = .ok (.ifCond .eq 22, 3) := by decide +kernel
theorem dJ0_init_db425_22 : decode cJ0_init_db425 22 = .ok (.aload_n 0, 1) := by decide +kernel
theorem dJ0_init_db425_23 : decode cJ0_init_db425 23 = .ok (.iconst 0, 1) := by decide +kernel
theorem dJ0_init_db425_24 : decode cJ0_init_db425 24 = .ok (.putfield 15, 3) := by decide +kernel
theorem dJ0_init_db425_27 : decode cJ0_init_db425 27 = .ok (.aload_n 0, 1) := by decide +kernel
theorem dJ0_init_db425_28 : decode cJ0_init_db425 28 = .ok (.aload_n 3, 1) := by decide +kernel
theorem dJ0_init_db425_29 : decode cJ0_init_db425 29 = .ok (.iconst 0, 1) := by decide +kernel
theorem dJ0_init_db425_30 : decode cJ0_init_db425 30 = .ok (.iload 4, 2) := by decide +kernel
