theorem dX9_tokenize_266 : decode cX9_tokenize 266 = .ok (.getfield 13, 3) := by decide +kernel
theorem dX9_tokenize_269 : decode cX9_tokenize 269 = .ok (.aload_n 0, 1) := by decide +kernel
theorem dX9_tokenize_270 : decode cX9_tokenize 270 = .ok (.getfield 96, 3) := by decide +kernel
theorem dX9_tokenize_273 : decode cX9_tokenize 273 = .ok (.iconst 1, 1) := by decide +kernel
theorem dX9_tokenize_274 : decode cX9_tokenize 274 = .ok (.isub, 1) := by decide +kernel
theorem dX9_tokenize_275 : decode cX9_tokenize 275 = .ok (.iaload, 1) := by decide +kernel
theorem dX9_tokenize_276 : decode cX9_tokenize 276 = .ok (.iconst 4, 1) := by decide +kernel
theorem dX9_tokenize_277 : decode cX9_tokenize 277 = .ok (.if_icmp .eq 7, 3) := by decide +kernel
theorem dX9_tokenize_280 : decode cX9_tokenize 280 = .ok (.iconst 1, 1) := by decide +kernel
theorem dX9_tokenize_281 : decode cX9_tokenize 281 = .ok (.goto 4, 3) := by decide +kernel
theorem dX9_tokenize_284 : decode cX9_tokenize 284 = .ok (.iconst 0, 1) := by decide +kernel
theorem dX9_tokenize_285 : decode cX9_tokenize 285 = .ok (.istore_n 2, 1) := by decide +kernel
theorem dX9_tokenize_286 : decode cX9_tokenize 286 = .ok (.goto (-277), 3) := by decide +kernel
theorem dX9_tokenize_289 : decode cX9_tokenize 289 = .ok (.aload_n 0, 1) := by decide +kernel
theorem dX9_tokenize_290 : decode cX9_tokenize 290 = .ok (.iconst 0, 1) := by decide +kernel
theorem dX9_tokenize_291 : decode cX9_tokenize 291 = .ok (.aload_n 0, 1) := by decide +kernel
theorem dX9_tokenize_292 : decode cX9_tokenize 292 = .ok (.getfield 67, 3) := by decide +kernel
theorem dX9_tokenize_295 : decode cX9_tokenize 295 = .ok (.lconst 0, 1) := by decide +kernel
theorem dX9_tokenize_296 : decode cX9_tokenize 296 = .ok (.invokevirtual 112, 3) := by decide +kernel
theorem dX9_tokenize_299 : decode cX9_tokenize 299 = .ok (.return_, 1) := by decide +kernel
theorem dX9_refuse_0 : decode cX9_refuse 0 = .ok (.aload_n 0, 1) := by decide +kernel
theorem dX9_refuse_1 : decode cX9_refuse 1 = .ok (.iconst 1, 1) := by decide +kernel
theorem dX9_refuse_2 : decode cX9_refuse 2 = .ok (.putfield 122, 3) := by decide +kernel
theorem dX9_refuse_5 : decode cX9_refuse 5 = .ok (.aload_n 0, 1) := by decide +kernel
theorem dX9_refuse_6 : decode cX9_refuse 6 = .ok (.aload_n 0, 1) := by decide +kernel
theorem dX9_refuse_7 : decode cX9_refuse 7 = .ok (.getfield 16, 3) := by decide +kernel
theorem dX9_refuse_10 : decode cX9_refuse 10 = .ok (.aload_n 0, 1) := by decide +kernel
theorem dX9_refuse_11 : decode cX9_refuse 11 = .ok (.getfield 125, 3) := by decide +kernel
theorem dX9_refuse_14 : decode cX9_refuse 14 = .ok (.iaload, 1) := by decide +kernel
theorem dX9_refuse_15 : decode cX9_refuse 15 = .ok (.putfield 128, 3) := by decide +kernel
theorem dX9_refuse_18 : decode cX9_refuse 18 = .ok (.iconst 0, 1) := by decide +kernel
theorem dX9_refuse_19 : decode cX9_refuse 19 = .ok (.ireturn, 1) := by decide +kernel
theorem dX9_note_0 : decode cX9_note 0 = .ok (.aload_n 0, 1) := by decide +kernel
theorem dX9_note_1 : decode cX9_note 1 = .ok (.getfield 122, 3) := by decide +kernel
theorem dX9_note_4 : decode cX9_note 4 = .ok (.iconst 1, 1) := by decide +kernel
theorem dX9_note_5 : decode cX9_note 5 = .ok (.if_icmp .eq 34, 3) := by decide +kernel
theorem dX9_note_8 : decode cX9_note 8 = .ok (.aload_n 0, 1) := by decide +kernel
theorem dX9_note_9 : decode cX9_note 9 = .ok (.getfield 122, 3) := by decide +kernel
theorem dX9_note_12 : decode cX9_note 12 = .ok (.ifCond .le 28, 3) := by decide +kernel
theorem dX9_note_15 : decode cX9_note 15 = .ok (.aload_n 0, 1) := by decide +kernel
theorem dX9_note_16 : decode cX9_note 16 = .ok (.getfield 128, 3) := by decide +kernel
theorem dX9_note_19 : decode cX9_note 19 = .ok (.iload_n 2, 1) := by decide +kernel
theorem dX9_note_20 : decode cX9_note 20 = .ok (.if_icmp .lt 19, 3) := by decide +kernel
theorem dX9_note_23 : decode cX9_note 23 = .ok (.aload_n 0, 1) := by decide +kernel
theorem dX9_note_24 : decode cX9_note 24 = .ok (.getfield 128, 3) := by decide +kernel
theorem dX9_note_27 : decode cX9_note 27 = .ok (.iload_n 2, 1) := by decide +kernel
theorem dX9_note_28 : decode cX9_note 28 = .ok (.if_icmp .ne 12, 3) := by decide +kernel
theorem dX9_note_31 : decode cX9_note 31 = .ok (.aload_n 0, 1) := by decide +kernel
theorem dX9_note_32 : decode cX9_note 32 = .ok (.getfield 122, 3) := by decide +kernel
theorem dX9_note_35 : decode cX9_note 35 = .ok (.iload_n 1, 1) := by decide +kernel
theorem dX9_note_36 : decode cX9_note 36 = .ok (.if_icmp .gt 4, 3) := by decide +kernel
theorem dX9_note_39 : decode cX9_note 39 = .ok (.return_, 1) := by decide +kernel
theorem dX9_note_40 : decode cX9_note 40 = .ok (.aload_n 0, 1) := by decide +kernel
theorem dX9_note_41 : decode cX9_note 41 = .ok (.iload_n 1, 1) := by decide +kernel
theorem dX9_note_42 : decode cX9_note 42 = .ok (.putfield 122, 3) := by decide +kernel
theorem dX9_note_45 : decode cX9_note 45 = .ok (.aload_n 0, 1) := by decide +kernel
theorem dX9_note_46 : decode cX9_note 46 = .ok (.iload_n 2, 1) := by decide +kernel
theorem dX9_note_47 : decode cX9_note 47 = .ok (.putfield 128, 3) := by decide +kernel
theorem dX9_note_50 : decode cX9_note 50 = .ok (.return_, 1) := by decide +kernel
theorem dX9_is_0 : decode cX9_is 0 = .ok (.aload_n 0, 1) := by decide +kernel
theorem dX9_is_1 : decode cX9_is 1 = .ok (.getfield 13, 3) := by decide +kernel
theorem dX9_is_4 : decode cX9_is 4 = .ok (.aload_n 0, 1) := by decide +kernel
theorem dX9_is_5 : decode cX9_is 5 = .ok (.getfield 125, 3) := by decide +kernel
theorem dX9_is_8 : decode cX9_is 8 = .ok (.iaload, 1) := by decide +kernel
theorem dX9_is_9 : decode cX9_is 9 = .ok (.iconst 3, 1) := by decide +kernel
theorem dX9_is_10 : decode cX9_is 10 = .ok (.if_icmp .ne 22, 3) := by decide +kernel
theorem dX9_is_13 : decode cX9_is 13 = .ok (.aload_n 0, 1) := by decide +kernel
theorem dX9_is_14 : decode cX9_is 14 = .ok (.getfield 19, 3) := by decide +kernel
theorem dX9_is_17 : decode cX9_is 17 = .ok (.aload_n 0, 1) := by decide +kernel
theorem dX9_is_18 : decode cX9_is 18 = .ok (.getfield 125, 3) := by decide +kernel
theorem dX9_is_21 : decode cX9_is 21 = .ok (.laload, 1) := by decide +kernel
theorem dX9_is_22 : decode cX9_is 22 = .ok (.iload_n 1, 1) := by decide +kernel
theorem dX9_is_23 : decode cX9_is 23 = .ok (.i2l, 1) := by decide +kernel
theorem dX9_is_24 : decode cX9_is 24 = .ok (.lcmp, 1) := by decide +kernel
theorem dX9_is_25 : decode cX9_is 25 = .ok (.ifCond .ne 7, 3) := by decide +kernel
theorem dX9_is_28 : decode cX9_is 28 = .ok (.iconst 1, 1) := by decide +kernel
theorem dX9_is_29 : decode cX9_is 29 = .ok (.goto 4, 3) := by decide +kernel
theorem dX9_is_32 : decode cX9_is 32 = .ok (.iconst 0, 1) := by decide +kernel
theorem dX9_is_33 : decode cX9_is 33 = .ok (.ireturn, 1) := by decide +kernel
theorem dX9_isNext_0 : decode cX9_isNext 0 = .ok (.aload_n 0, 1) := by decide +kernel
theorem dX9_isNext_1 : decode cX9_isNext 1 = .ok (.getfield 13, 3) := by decide +kernel
theorem dX9_isNext_4 : decode cX9_isNext 4 = .ok (.aload_n 0, 1) := by decide +kernel
theorem dX9_isNext_5 : decode cX9_isNext 5 = .ok (.getfield 125, 3) := by decide +kernel
theorem dX9_isNext_8 : decode cX9_isNext 8 = .ok (.iconst 1, 1) := by decide +kernel
theorem dX9_isNext_9 : decode cX9_isNext 9 = .ok (.iadd, 1) := by decide +kernel
theorem dX9_isNext_10 : decode cX9_isNext 10 = .ok (.iaload, 1) := by decide +kernel
theorem dX9_isNext_11 : decode cX9_isNext 11 = .ok (.iconst 3, 1) := by decide +kernel
theorem dX9_isNext_12 : decode cX9_isNext 12 = .ok (.if_icmp .ne 24, 3) := by decide +kernel
theorem dX9_isNext_15 : decode cX9_isNext 15 = .ok (.aload_n 0, 1) := by decide +kernel
theorem dX9_isNext_16 : decode cX9_isNext 16 = .ok (.getfield 19, 3) := by decide +kernel
theorem dX9_isNext_19 : decode cX9_isNext 19 = .ok (.aload_n 0, 1) := by decide +kernel
theorem dX9_isNext_20 : decode cX9_isNext 20 = .ok (.getfield 125, 3) := by decide +kernel
theorem dX9_isNext_23 : decode cX9_isNext 23 = .ok (.iconst 1, 1) := by decide +kernel
theorem dX9_isNext_24 : decode cX9_isNext 24 = .ok (.iadd, 1) := by decide +kernel
theorem dX9_isNext_25 : decode cX9_isNext 25 = .ok (.laload, 1) := by decide +kernel
theorem dX9_isNext_26 : decode cX9_isNext 26 = .ok (.iload_n 1, 1) := by decide +kernel
theorem dX9_isNext_27 : decode cX9_isNext 27 = .ok (.i2l, 1) := by decide +kernel
theorem dX9_isNext_28 : decode cX9_isNext 28 = .ok (.lcmp, 1) := by decide +kernel
theorem dX9_isNext_29 : decode cX9_isNext 29 = .ok (.ifCond .ne 7, 3) := by decide +kernel
theorem dX9_isNext_32 : decode cX9_isNext 32 = .ok (.iconst 1, 1) := by decide +kernel
theorem dX9_isNext_33 : decode cX9_isNext 33 = .ok (.goto 4, 3) := by decide +kernel
theorem dX9_isNext_36 : decode cX9_isNext 36 = .ok (.iconst 0, 1) := by decide +kernel
theorem dX9_isNext_37 : decode cX9_isNext 37 = .ok (.ireturn, 1) := by decide +kernel
theorem dX9_takes_0 : decode cX9_takes 0 = .ok (.aload_n 0, 1) := by decide +kernel
theorem dX9_takes_1 : decode cX9_takes 1 = .ok (.iload_n 1, 1) := by decide +kernel
theorem dX9_takes_2 : decode cX9_takes 2 = .ok (.invokevirtual 131, 3) := by decide +kernel
theorem dX9_takes_5 : decode cX9_takes 5 = .ok (.istore_n 2, 1) := by decide +kernel
theorem dX9_takes_6 : decode cX9_takes 6 = .ok (.iload_n 2, 1) := by decide +kernel
theorem dX9_takes_7 : decode cX9_takes 7 = .ok (.ifCond .eq 13, 3) := by decide +kernel
theorem dX9_takes_10 : decode cX9_takes 10 = .ok (.aload_n 0, 1) := by decide +kernel
theorem dX9_takes_11 : decode cX9_takes 11 = .ok (.dup, 1) := by decide +kernel
theorem dX9_takes_12 : decode cX9_takes 12 = .ok (.getfield 125, 3) := by decide +kernel
theorem dX9_takes_15 : decode cX9_takes 15 = .ok (.iconst 1, 1) := by decide +kernel
theorem dX9_takes_16 : decode cX9_takes 16 = .ok (.iadd, 1) := by decide +kernel
theorem dX9_takes_17 : decode cX9_takes 17 = .ok (.putfield 125, 3) := by decide +kernel
theorem dX9_takes_20 : decode cX9_takes 20 = .ok (.iload_n 2, 1) := by decide +kernel
theorem dX9_takes_21 : decode cX9_takes 21 = .ok (.ireturn, 1) := by decide +kernel
theorem dX9_want_0 : decode cX9_want 0 = .ok (.aload_n 0, 1) := by decide +kernel
theorem dX9_want_1 : decode cX9_want 1 = .ok (.iload_n 1, 1) := by decide +kernel
theorem dX9_want_2 : decode cX9_want 2 = .ok (.invokevirtual 134, 3) := by decide +kernel
theorem dX9_want_5 : decode cX9_want 5 = .ok (.ifCond .ne 10, 3) := by decide +kernel
theorem dX9_want_8 : decode cX9_want 8 = .ok (.aload_n 0, 1) := by decide +kernel
theorem dX9_want_9 : decode cX9_want 9 = .ok (.invokevirtual 137, 3) := by decide +kernel
theorem dX9_want_12 : decode cX9_want 12 = .ok (.ifCond .eq 7, 3) := by decide +kernel
theorem dX9_want_15 : decode cX9_want 15 = .ok (.iconst 1, 1) := by decide +kernel
theorem dX9_want_16 : decode cX9_want 16 = .ok (.goto 4, 3) := by decide +kernel
theorem dX9_want_19 : decode cX9_want 19 = .ok (.iconst 0, 1) := by decide +kernel
theorem dX9_want_20 : decode cX9_want 20 = .ok (.ireturn, 1) := by decide +kernel
theorem dX9_find_0 : decode cX9_find 0 = .ok (.sipush 400, 3) := by decide +kernel
theorem dX9_find_3 : decode cX9_find 3 = .ok (.iload_n 1, 1) := by decide +kernel
theorem dX9_find_4 : decode cX9_find 4 = .ok (.imul, 1) := by decide +kernel
theorem dX9_find_5 : decode cX9_find 5 = .ok (.istore 4, 2) := by decide +kernel
theorem dX9_find_7 : decode cX9_find 7 = .ok (.iload 4, 2) := by decide +kernel
theorem dX9_find_9 : decode cX9_find 9 = .ok (.sipush 400, 3) := by decide +kernel
theorem dX9_find_12 : decode cX9_find 12 = .ok (.iload_n 1, 1) := by decide +kernel
theorem dX9_find_13 : decode cX9_find 13 = .ok (.imul, 1) := by decide +kernel
theorem dX9_find_14 : decode cX9_find 14 = .ok (.aload_n 0, 1) := by decide +kernel
theorem dX9_find_15 : decode cX9_find 15 = .ok (.getfield 29, 3) := by decide +kernel
theorem dX9_find_18 : decode cX9_find 18 = .ok (.iload_n 1, 1) := by decide +kernel
theorem dX9_find_19 : decode cX9_find 19 = .ok (.iaload, 1) := by decide +kernel
theorem dX9_find_20 : decode cX9_find 20 = .ok (.iadd, 1) := by decide +kernel
theorem dX9_find_21 : decode cX9_find 21 = .ok (.if_icmp .ge 24, 3) := by decide +kernel
theorem dX9_find_24 : decode cX9_find 24 = .ok (.aload_n 0, 1) := by decide +kernel
theorem dX9_find_25 : decode cX9_find 25 = .ok (.getfield 32, 3) := by decide +kernel
theorem dX9_find_28 : decode cX9_find 28 = .ok (.iload 4, 2) := by decide +kernel
theorem dX9_find_30 : decode cX9_find 30 = .ok (.laload, 1) := by decide +kernel
theorem dX9_find_31 : decode cX9_find 31 = .ok (.lload_n 2, 1) := by decide +kernel
theorem dX9_find_32 : decode cX9_find 32 = .ok (.lcmp, 1) := by decide +kernel
theorem dX9_find_33 : decode cX9_find 33 = .ok (.ifCond .ne 6, 3) := by decide +kernel
theorem dX9_find_36 : decode cX9_find 36 = .ok (.iload 4, 2) := by decide +kernel
theorem dX9_find_38 : decode cX9_find 38 = .ok (.ireturn, 1) := by decide +kernel
theorem dX9_find_39 : decode cX9_find 39 = .ok (.iinc 4 1, 3) := by decide +kernel
theorem dX9_find_42 : decode cX9_find 42 = .ok (.goto (-35), 3) := by decide +kernel
theorem dX9_find_45 : decode cX9_find 45 = .ok (.iconst (-1), 1) := by decide +kernel
theorem dX9_find_46 : decode cX9_find 46 = .ok (.ireturn, 1) := by decide +kernel
theorem dX9_tell_0 : decode cX9_tell 0 = .ok (.aload_n 0, 1) := by decide +kernel
theorem dX9_tell_1 : decode cX9_tell 1 = .ok (.iconst 1, 1) := by decide +kernel
theorem dX9_tell_2 : decode cX9_tell 2 = .ok (.aload_n 0, 1) := by decide +kernel
theorem dX9_tell_3 : decode cX9_tell 3 = .ok (.getfield 141, 3) := by decide +kernel
theorem dX9_tell_6 : decode cX9_tell 6 = .ok (.isub, 1) := by decide +kernel
theorem dX9_tell_7 : decode cX9_tell 7 = .ok (.lload_n 1, 1) := by decide +kernel
theorem dX9_tell_8 : decode cX9_tell 8 = .ok (.invokevirtual 144, 3) := by decide +kernel
theorem dX9_tell_11 : decode cX9_tell 11 = .ok (.iconst (-1), 1) := by decide +kernel
theorem dX9_tell_12 : decode cX9_tell 12 = .ok (.if_icmp .eq 9, 3) := by decide +kernel
theorem dX9_tell_15 : decode cX9_tell 15 = .ok (.aload_n 0, 1) := by decide +kernel
theorem dX9_tell_16 : decode cX9_tell 16 = .ok (.iconst 2, 1) := by decide +kernel
theorem dX9_tell_17 : decode cX9_tell 17 = .ok (.iload_n 3, 1) := by decide +kernel
theorem dX9_tell_18 : decode cX9_tell 18 = .ok (.invokevirtual 148, 3) := by decide +kernel
theorem dX9_tell_21 : decode cX9_tell 21 = .ok (.sipush 400, 3) := by decide +kernel
theorem dX9_tell_24 : decode cX9_tell 24 = .ok (.iconst 1, 1) := by decide +kernel
theorem dX9_tell_25 : decode cX9_tell 25 = .ok (.aload_n 0, 1) := by decide +kernel
theorem dX9_tell_26 : decode cX9_tell 26 = .ok (.getfield 141, 3) := by decide +kernel
theorem dX9_tell_29 : decode cX9_tell 29 = .ok (.isub, 1) := by decide +kernel
theorem dX9_tell_30 : decode cX9_tell 30 = .ok (.imul, 1) := by decide +kernel
theorem dX9_tell_31 : decode cX9_tell 31 = .ok (.aload_n 0, 1) := by decide +kernel
theorem dX9_tell_32 : decode cX9_tell 32 = .ok (.getfield 29, 3) := by decide +kernel
theorem dX9_tell_35 : decode cX9_tell 35 = .ok (.iconst 1, 1) := by decide +kernel
theorem dX9_tell_36 : decode cX9_tell 36 = .ok (.aload_n 0, 1) := by decide +kernel
theorem dX9_tell_37 : decode cX9_tell 37 = .ok (.getfield 141, 3) := by decide +kernel
theorem dX9_tell_40 : decode cX9_tell 40 = .ok (.isub, 1) := by decide +kernel
theorem dX9_tell_41 : decode cX9_tell 41 = .ok (.iaload, 1) := by decide +kernel
theorem dX9_tell_42 : decode cX9_tell 42 = .ok (.iadd, 1) := by decide +kernel
theorem dX9_tell_43 : decode cX9_tell 43 = .ok (.istore 6, 2) := by decide +kernel
theorem dX9_tell_45 : decode cX9_tell 45 = .ok (.aload_n 0, 1) := by decide +kernel
theorem dX9_tell_46 : decode cX9_tell 46 = .ok (.iconst 1, 1) := by decide +kernel
theorem dX9_tell_47 : decode cX9_tell 47 = .ok (.aload_n 0, 1) := by decide +kernel
theorem dX9_tell_48 : decode cX9_tell 48 = .ok (.getfield 141, 3) := by decide +kernel
theorem dX9_tell_51 : decode cX9_tell 51 = .ok (.isub, 1) := by decide +kernel
theorem dX9_tell_52 : decode cX9_tell 52 = .ok (.lload_n 1, 1) := by decide +kernel
theorem dX9_tell_53 : decode cX9_tell 53 = .ok (.invokevirtual 144, 3) := by decide +kernel
theorem dX9_tell_56 : decode cX9_tell 56 = .ok (.iconst (-1), 1) := by decide +kernel
theorem dX9_tell_57 : decode cX9_tell 57 = .ok (.if_icmp .eq 4, 3) := by decide +kernel
theorem dX9_tell_60 : decode cX9_tell 60 = .ok (.return_, 1) := by decide +kernel
theorem dX9_tell_61 : decode cX9_tell 61 = .ok (.aload_n 0, 1) := by decide +kernel
theorem dX9_tell_62 : decode cX9_tell 62 = .ok (.getfield 32, 3) := by decide +kernel
theorem dX9_tell_65 : decode cX9_tell 65 = .ok (.iload 6, 2) := by decide +kernel
theorem dX9_tell_67 : decode cX9_tell 67 = .ok (.lload_n 1, 1) := by decide +kernel
theorem dX9_tell_68 : decode cX9_tell 68 = .ok (.lastore, 1) := by decide +kernel
theorem dX9_tell_69 : decode cX9_tell 69 = .ok (.aload_n 0, 1) := by decide +kernel
theorem dX9_tell_70 : decode cX9_tell 70 = .ok (.getfield 35, 3) := by decide +kernel
theorem dX9_tell_73 : decode cX9_tell 73 = .ok (.iload 6, 2) := by decide +kernel
theorem dX9_tell_75 : decode cX9_tell 75 = .ok (.lload 4, 2) := by decide +kernel
theorem dX9_tell_77 : decode cX9_tell 77 = .ok (.lastore, 1) := by decide +kernel
theorem dX9_tell_78 : decode cX9_tell 78 = .ok (.aload_n 0, 1) := by decide +kernel
theorem dX9_tell_79 : decode cX9_tell 79 = .ok (.getfield 29, 3) := by decide +kernel
theorem dX9_tell_82 : decode cX9_tell 82 = .ok (.iconst 1, 1) := by decide +kernel
theorem dX9_tell_83 : decode cX9_tell 83 = .ok (.aload_n 0, 1) := by decide +kernel
theorem dX9_tell_84 : decode cX9_tell 84 = .ok (.getfield 141, 3) := by decide +kernel
theorem dX9_tell_87 : decode cX9_tell 87 = .ok (.isub, 1) := by decide +kernel
theorem dX9_tell_88 : decode cX9_tell 88 = .ok (.dup2, 1) := by decide +kernel
theorem dX9_tell_89 : decode cX9_tell 89 = .ok (.iaload, 1) := by decide +kernel
theorem dX9_tell_90 : decode cX9_tell 90 = .ok (.iconst 1, 1) := by decide +kernel
theorem dX9_tell_91 : decode cX9_tell 91 = .ok (.iadd, 1) := by decide +kernel
theorem dX9_tell_92 : decode cX9_tell 92 = .ok (.iastore, 1) := by decide +kernel
theorem dX9_tell_93 : decode cX9_tell 93 = .ok (.return_, 1) := by decide +kernel
theorem dX9_readRegister_0 : decode cX9_readRegister 0 = .ok (.aload_n 0, 1) := by decide +kernel
theorem dX9_readRegister_1 : decode cX9_readRegister 1 = .ok (.getfield 19, 3) := by decide +kernel
theorem dX9_readRegister_4 : decode cX9_readRegister 4 = .ok (.aload_n 0, 1) := by decide +kernel
theorem dX9_readRegister_5 : decode cX9_readRegister 5 = .ok (.getfield 125, 3) := by decide +kernel
theorem dX9_readRegister_8 : decode cX9_readRegister 8 = .ok (.laload, 1) := by decide +kernel
theorem dX9_readRegister_9 : decode cX9_readRegister 9 = .ok (.lstore_n 2, 1) := by decide +kernel
theorem dX9_readRegister_10 : decode cX9_readRegister 10 = .ok (.lload_n 2, 1) := by decide +kernel
theorem dX9_readRegister_11 : decode cX9_readRegister 11 = .ok (.ldc2_w 70, 3) := by decide +kernel
theorem dX9_readRegister_14 : decode cX9_readRegister 14 = .ok (.land, 1) := by decide +kernel
theorem dX9_readRegister_15 : decode cX9_readRegister 15 = .ok (.l2i, 1) := by decide +kernel
theorem dX9_readRegister_16 : decode cX9_readRegister 16 = .ok (.bipush 48, 2) := by decide +kernel
theorem dX9_readRegister_18 : decode cX9_readRegister 18 = .ok (.isub, 1) := by decide +kernel
theorem dX9_readRegister_19 : decode cX9_readRegister 19 = .ok (.istore 4, 2) := by decide +kernel
theorem dX9_readRegister_21 : decode cX9_readRegister 21 = .ok (.lload_n 2, 1) := by decide +kernel
theorem dX9_readRegister_22 : decode cX9_readRegister 22 = .ok (.bipush 8, 2) := by decide +kernel
theorem dX9_readRegister_24 : decode cX9_readRegister 24 = .ok (.lshr, 1) := by decide +kernel
theorem dX9_readRegister_25 : decode cX9_readRegister 25 = .ok (.ldc2_w 70, 3) := by decide +kernel
theorem dX9_readRegister_28 : decode cX9_readRegister 28 = .ok (.land, 1) := by decide +kernel
theorem dX9_readRegister_29 : decode cX9_readRegister 29 = .ok (.l2i, 1) := by decide +kernel
theorem dX9_readRegister_30 : decode cX9_readRegister 30 = .ok (.istore 5, 2) := by decide +kernel
theorem dX9_readRegister_32 : decode cX9_readRegister 32 = .ok (.lload_n 2, 1) := by decide +kernel
theorem dX9_readRegister_33 : decode cX9_readRegister 33 = .ok (.bipush 8, 2) := by decide +kernel
theorem dX9_readRegister_35 : decode cX9_readRegister 35 = .ok (.lshr, 1) := by decide +kernel
theorem dX9_readRegister_36 : decode cX9_readRegister 36 = .ok (.iload_n 1, 1) := by decide +kernel
theorem dX9_readRegister_37 : decode cX9_readRegister 37 = .ok (.i2l, 1) := by decide +kernel
theorem dX9_readRegister_38 : decode cX9_readRegister 38 = .ok (.lcmp, 1) := by decide +kernel
theorem dX9_readRegister_39 : decode cX9_readRegister 39 = .ok (.ifCond .ne 19, 3) := by decide +kernel
theorem dX9_readRegister_42 : decode cX9_readRegister 42 = .ok (.iload 4, 2) := by decide +kernel
theorem dX9_readRegister_44 : decode cX9_readRegister 44 = .ok (.ifCond .lt 14, 3) := by decide +kernel
theorem dX9_readRegister_47 : decode cX9_readRegister 47 = .ok (.iload 4, 2) := by decide +kernel
theorem dX9_readRegister_49 : decode cX9_readRegister 49 = .ok (.bipush 9, 2) := by decide +kernel
theorem dX9_readRegister_51 : decode cX9_readRegister 51 = .ok (.if_icmp .gt 7, 3) := by decide +kernel
theorem dX9_readRegister_54 : decode cX9_readRegister 54 = .ok (.iconst 1, 1) := by decide +kernel
theorem dX9_readRegister_55 : decode cX9_readRegister 55 = .ok (.goto 4, 3) := by decide +kernel
theorem dX9_readRegister_58 : decode cX9_readRegister 58 = .ok (.iconst 0, 1) := by decide +kernel
theorem dX9_readRegister_59 : decode cX9_readRegister 59 = .ok (.istore 6, 2) := by decide +kernel
theorem dX9_readRegister_61 : decode cX9_readRegister 61 = .ok (.iload_n 1, 1) := by decide +kernel
theorem dX9_readRegister_62 : decode cX9_readRegister 62 = .ok (.bipush 114, 2) := by decide +kernel
theorem dX9_readRegister_64 : decode cX9_readRegister 64 = .ok (.if_icmp .ne 35, 3) := by decide +kernel
theorem dX9_readRegister_67 : decode cX9_readRegister 67 = .ok (.lload_n 2, 1) := by decide +kernel
theorem dX9_readRegister_68 : decode cX9_readRegister 68 = .ok (.bipush 16, 2) := by decide +kernel
theorem dX9_readRegister_70 : decode cX9_readRegister 70 = .ok (.lshr, 1) := by decide +kernel
theorem dX9_readRegister_71 : decode cX9_readRegister 71 = .ok (.iload_n 1, 1) := by decide +kernel
theorem dX9_readRegister_72 : decode cX9_readRegister 72 = .ok (.i2l, 1) := by decide +kernel
theorem dX9_readRegister_73 : decode cX9_readRegister 73 = .ok (.lcmp, 1) := by decide +kernel
theorem dX9_readRegister_74 : decode cX9_readRegister 74 = .ok (.ifCond .ne 25, 3) := by decide +kernel
theorem dX9_readRegister_77 : decode cX9_readRegister 77 = .ok (.iload 5, 2) := by decide +kernel
theorem dX9_readRegister_79 : decode cX9_readRegister 79 = .ok (.bipush 49, 2) := by decide +kernel
theorem dX9_readRegister_81 : decode cX9_readRegister 81 = .ok (.if_icmp .ne 18, 3) := by decide +kernel
theorem dX9_readRegister_84 : decode cX9_readRegister 84 = .ok (.iload 4, 2) := by decide +kernel
theorem dX9_readRegister_86 : decode cX9_readRegister 86 = .ok (.ifCond .lt 13, 3) := by decide +kernel
theorem dX9_readRegister_89 : decode cX9_readRegister 89 = .ok (.iload 4, 2) := by decide +kernel
theorem dX9_readRegister_91 : decode cX9_readRegister 91 = .ok (.iconst 5, 1) := by decide +kernel
theorem dX9_readRegister_92 : decode cX9_readRegister 92 = .ok (.if_icmp .gt 7, 3) := by decide +kernel
theorem dX9_readRegister_95 : decode cX9_readRegister 95 = .ok (.iconst 1, 1) := by decide +kernel
theorem dX9_readRegister_96 : decode cX9_readRegister 96 = .ok (.goto 4, 3) := by decide +kernel
theorem dX9_readRegister_99 : decode cX9_readRegister 99 = .ok (.iconst 0, 1) := by decide +kernel
theorem dX9_readRegister_100 : decode cX9_readRegister 100 = .ok (.istore 7, 2) := by decide +kernel
theorem dX9_readRegister_102 : decode cX9_readRegister 102 = .ok (.aload_n 0, 1) := by decide +kernel
theorem dX9_readRegister_103 : decode cX9_readRegister 103 = .ok (.getfield 13, 3) := by decide +kernel
theorem dX9_readRegister_106 : decode cX9_readRegister 106 = .ok (.aload_n 0, 1) := by decide +kernel
theorem dX9_readRegister_107 : decode cX9_readRegister 107 = .ok (.getfield 125, 3) := by decide +kernel
theorem dX9_readRegister_110 : decode cX9_readRegister 110 = .ok (.iaload, 1) := by decide +kernel
theorem dX9_readRegister_111 : decode cX9_readRegister 111 = .ok (.iconst 1, 1) := by decide +kernel
theorem dX9_readRegister_112 : decode cX9_readRegister 112 = .ok (.if_icmp .ne 29, 3) := by decide +kernel
theorem dX9_readRegister_115 : decode cX9_readRegister 115 = .ok (.iload 6, 2) := by decide +kernel
theorem dX9_readRegister_117 : decode cX9_readRegister 117 = .ok (.ifCond .eq 15, 3) := by decide +kernel
theorem dX9_readRegister_120 : decode cX9_readRegister 120 = .ok (.iload_n 1, 1) := by decide +kernel
theorem dX9_readRegister_121 : decode cX9_readRegister 121 = .ok (.bipush 114, 2) := by decide +kernel
theorem dX9_readRegister_123 : decode cX9_readRegister 123 = .ok (.if_icmp .eq 14, 3) := by decide +kernel
theorem dX9_readRegister_126 : decode cX9_readRegister 126 = .ok (.iload 4, 2) := by decide +kernel
theorem dX9_readRegister_128 : decode cX9_readRegister 128 = .ok (.iconst 4, 1) := by decide +kernel
theorem dX9_readRegister_129 : decode cX9_readRegister 129 = .ok (.if_icmp .lt 8, 3) := by decide +kernel
theorem dX9_readRegister_132 : decode cX9_readRegister 132 = .ok (.iload 7, 2) := by decide +kernel
theorem dX9_readRegister_134 : decode cX9_readRegister 134 = .ok (.ifCond .eq 7, 3) := by decide +kernel
theorem dX9_readRegister_137 : decode cX9_readRegister 137 = .ok (.iconst 1, 1) := by decide +kernel
theorem dX9_readRegister_138 : decode cX9_readRegister 138 = .ok (.goto 4, 3) := by decide +kernel
theorem dX9_readRegister_141 : decode cX9_readRegister 141 = .ok (.iconst 0, 1) := by decide +kernel
theorem dX9_readRegister_142 : decode cX9_readRegister 142 = .ok (.istore 8, 2) := by decide +kernel
theorem dX9_readRegister_144 : decode cX9_readRegister 144 = .ok (.iload 8, 2) := by decide +kernel
theorem dX9_readRegister_146 : decode cX9_readRegister 146 = .ok (.ifCond .ne 8, 3) := by decide +kernel
theorem dX9_readRegister_149 : decode cX9_readRegister 149 = .ok (.aload_n 0, 1) := by decide +kernel
theorem dX9_readRegister_150 : decode cX9_readRegister 150 = .ok (.invokevirtual 137, 3) := by decide +kernel
theorem dX9_readRegister_153 : decode cX9_readRegister 153 = .ok (.ireturn, 1) := by decide +kernel
theorem dX9_readRegister_154 : decode cX9_readRegister 154 = .ok (.aload_n 0, 1) := by decide +kernel
theorem dX9_readRegister_155 : decode cX9_readRegister 155 = .ok (.iload 7, 2) := by decide +kernel
theorem dX9_readRegister_157 : decode cX9_readRegister 157 = .ok (.ifCond .eq 11, 3) := by decide +kernel
theorem dX9_readRegister_160 : decode cX9_readRegister 160 = .ok (.bipush 10, 2) := by decide +kernel
theorem dX9_readRegister_162 : decode cX9_readRegister 162 = .ok (.iload 4, 2) := by decide +kernel
theorem dX9_readRegister_164 : decode cX9_readRegister 164 = .ok (.iadd, 1) := by decide +kernel
theorem dX9_readRegister_165 : decode cX9_readRegister 165 = .ok (.goto 5, 3) := by decide +kernel
theorem dX9_readRegister_168 : decode cX9_readRegister 168 = .ok (.iload 4, 2) := by decide +kernel
theorem dX9_readRegister_170 : decode cX9_readRegister 170 = .ok (.putfield 152, 3) := by decide +kernel
theorem dX9_readRegister_173 : decode cX9_readRegister 173 = .ok (.aload_n 0, 1) := by decide +kernel
theorem dX9_readRegister_174 : decode cX9_readRegister 174 = .ok (.dup, 1) := by decide +kernel
theorem dX9_readRegister_175 : decode cX9_readRegister 175 = .ok (.getfield 125, 3) := by decide +kernel
theorem dX9_readRegister_178 : decode cX9_readRegister 178 = .ok (.iconst 1, 1) := by decide +kernel
theorem dX9_readRegister_179 : decode cX9_readRegister 179 = .ok (.iadd, 1) := by decide +kernel
theorem dX9_readRegister_180 : decode cX9_readRegister 180 = .ok (.putfield 125, 3) := by decide +kernel
theorem dX9_readRegister_183 : decode cX9_readRegister 183 = .ok (.iconst 1, 1) := by decide +kernel
theorem dX9_readRegister_184 : decode cX9_readRegister 184 = .ok (.ireturn, 1) := by decide +kernel
theorem dX9_isInt_0 : decode cX9_isInt 0 = .ok (.lload_n 0, 1) := by decide +kernel
theorem dX9_isInt_1 : decode cX9_isInt 1 = .ok (.ldc2_w 155, 3) := by decide +kernel
theorem dX9_isInt_4 : decode cX9_isInt 4 = .ok (.lcmp, 1) := by decide +kernel
theorem dX9_isInt_5 : decode cX9_isInt 5 = .ok (.ifCond .lt 15, 3) := by decide +kernel
theorem dX9_isInt_8 : decode cX9_isInt 8 = .ok (.lload_n 0, 1) := by decide +kernel
theorem dX9_isInt_9 : decode cX9_isInt 9 = .ok (.ldc2_w 157, 3) := by decide +kernel
theorem dX9_isInt_12 : decode cX9_isInt 12 = .ok (.lcmp, 1) := by decide +kernel
theorem dX9_isInt_13 : decode cX9_isInt 13 = .ok (.ifCond .gt 7, 3) := by decide +kernel
theorem dX9_isInt_16 : decode cX9_isInt 16 = .ok (.iconst 1, 1) := by decide +kernel
theorem dX9_isInt_17 : decode cX9_isInt 17 = .ok (.goto 4, 3) := by decide +kernel
theorem dX9_isInt_20 : decode cX9_isInt 20 = .ok (.iconst 0, 1) := by decide +kernel
theorem dX9_isInt_21 : decode cX9_isInt 21 = .ok (.ireturn, 1) := by decide +kernel
theorem dX9_readNumber_0 : decode cX9_readNumber 0 = .ok (.aload_n 0, 1) := by decide +kernel
theorem dX9_readNumber_1 : decode cX9_readNumber 1 = .ok (.getfield 16, 3) := by decide +kernel
theorem dX9_readNumber_4 : decode cX9_readNumber 4 = .ok (.aload_n 0, 1) := by decide +kernel
theorem dX9_readNumber_5 : decode cX9_readNumber 5 = .ok (.getfield 125, 3) := by decide +kernel
theorem dX9_readNumber_8 : decode cX9_readNumber 8 = .ok (.iaload, 1) := by decide +kernel
theorem dX9_readNumber_9 : decode cX9_readNumber 9 = .ok (.istore_n 3, 1) := by decide +kernel
theorem dX9_readNumber_10 : decode cX9_readNumber 10 = .ok (.aload_n 0, 1) := by decide +kernel
theorem dX9_readNumber_11 : decode cX9_readNumber 11 = .ok (.bipush 45, 2) := by decide +kernel
theorem dX9_readNumber_13 : decode cX9_readNumber 13 = .ok (.invokevirtual 134, 3) := by decide +kernel
theorem dX9_readNumber_16 : decode cX9_readNumber 16 = .ok (.istore 4, 2) := by decide +kernel
theorem dX9_readNumber_18 : decode cX9_readNumber 18 = .ok (.aload_n 0, 1) := by decide +kernel
theorem dX9_readNumber_19 : decode cX9_readNumber 19 = .ok (.iconst 0, 1) := by decide +kernel
theorem dX9_readNumber_20 : decode cX9_readNumber 20 = .ok (.putfield 159, 3) := by decide +kernel
theorem dX9_readNumber_23 : decode cX9_readNumber 23 = .ok (.aload_n 0, 1) := by decide +kernel
theorem dX9_readNumber_24 : decode cX9_readNumber 24 = .ok (.lconst 0, 1) := by decide +kernel
theorem dX9_readNumber_25 : decode cX9_readNumber 25 = .ok (.putfield 163, 3) := by decide +kernel
theorem dX9_readNumber_28 : decode cX9_readNumber 28 = .ok (.aload_n 0, 1) := by decide +kernel
theorem dX9_readNumber_29 : decode cX9_readNumber 29 = .ok (.getfield 13, 3) := by decide +kernel
theorem dX9_readNumber_32 : decode cX9_readNumber 32 = .ok (.aload_n 0, 1) := by decide +kernel
theorem dX9_readNumber_33 : decode cX9_readNumber 33 = .ok (.getfield 125, 3) := by decide +kernel
theorem dX9_readNumber_36 : decode cX9_readNumber 36 = .ok (.iaload, 1) := by decide +kernel
theorem dX9_readNumber_37 : decode cX9_readNumber 37 = .ok (.iconst 2, 1) := by decide +kernel
theorem dX9_readNumber_38 : decode cX9_readNumber 38 = .ok (.if_icmp .ne 86, 3) := by decide +kernel
theorem dX9_readNumber_41 : decode cX9_readNumber 41 = .ok (.aload_n 0, 1) := by decide +kernel
theorem dX9_readNumber_42 : decode cX9_readNumber 42 = .ok (.iload 4, 2) := by decide +kernel
theorem dX9_readNumber_44 : decode cX9_readNumber 44 = .ok (.ifCond .eq 16, 3) := by decide +kernel
theorem dX9_readNumber_47 : decode cX9_readNumber 47 = .ok (.aload_n 0, 1) := by decide +kernel
theorem dX9_readNumber_48 : decode cX9_readNumber 48 = .ok (.getfield 19, 3) := by decide +kernel
theorem dX9_readNumber_51 : decode cX9_readNumber 51 = .ok (.aload_n 0, 1) := by decide +kernel
theorem dX9_readNumber_52 : decode cX9_readNumber 52 = .ok (.getfield 125, 3) := by decide +kernel
theorem dX9_readNumber_55 : decode cX9_readNumber 55 = .ok (.laload, 1) := by decide +kernel
theorem dX9_readNumber_56 : decode cX9_readNumber 56 = .ok (.lneg, 1) := by decide +kernel
theorem dX9_readNumber_57 : decode cX9_readNumber 57 = .ok (.goto 12, 3) := by decide +kernel
theorem dX9_readNumber_60 : decode cX9_readNumber 60 = .ok (.aload_n 0, 1) := by decide +kernel
theorem dX9_readNumber_61 : decode cX9_readNumber 61 = .ok (.getfield 19, 3) := by decide +kernel
theorem dX9_readNumber_64 : decode cX9_readNumber 64 = .ok (.aload_n 0, 1) := by decide +kernel
theorem dX9_readNumber_65 : decode cX9_readNumber 65 = .ok (.getfield 125, 3) := by decide +kernel
theorem dX9_readNumber_68 : decode cX9_readNumber 68 = .ok (.laload, 1) := by decide +kernel
theorem dX9_readNumber_69 : decode cX9_readNumber 69 = .ok (.putfield 163, 3) := by decide +kernel
theorem dX9_readNumber_72 : decode cX9_readNumber 72 = .ok (.aload_n 0, 1) := by decide +kernel
theorem dX9_readNumber_73 : decode cX9_readNumber 73 = .ok (.getfield 163, 3) := by decide +kernel
theorem dX9_readNumber_76 : decode cX9_readNumber 76 = .ok (.invokestatic 167, 3) := by decide +kernel
theorem dX9_readNumber_79 : decode cX9_readNumber 79 = .ok (.ifCond .eq 27, 3) := by decide +kernel
theorem dX9_readNumber_82 : decode cX9_readNumber 82 = .ok (.iload_n 1, 1) := by decide +kernel
theorem dX9_readNumber_83 : decode cX9_readNumber 83 = .ok (.ifCond .eq 29, 3) := by decide +kernel
theorem dX9_readNumber_86 : decode cX9_readNumber 86 = .ok (.aload_n 0, 1) := by decide +kernel
theorem dX9_readNumber_87 : decode cX9_readNumber 87 = .ok (.getfield 163, 3) := by decide +kernel
theorem dX9_readNumber_90 : decode cX9_readNumber 90 = .ok (.lconst 0, 1) := by decide +kernel
theorem dX9_readNumber_91 : decode cX9_readNumber 91 = .ok (.lcmp, 1) := by decide +kernel
theorem dX9_readNumber_92 : decode cX9_readNumber 92 = .ok (.ifCond .lt 14, 3) := by decide +kernel
theorem dX9_readNumber_95 : decode cX9_readNumber 95 = .ok (.aload_n 0, 1) := by decide +kernel
theorem dX9_readNumber_96 : decode cX9_readNumber 96 = .ok (.getfield 163, 3) := by decide +kernel
theorem dX9_readNumber_99 : decode cX9_readNumber 99 = .ok (.ldc2_w 171, 3) := by decide +kernel
theorem dX9_readNumber_102 : decode cX9_readNumber 102 = .ok (.lcmp, 1) := by decide +kernel
theorem dX9_readNumber_103 : decode cX9_readNumber 103 = .ok (.ifCond .le 9, 3) := by decide +kernel
theorem dX9_readNumber_106 : decode cX9_readNumber 106 = .ok (.aload_n 0, 1) := by decide +kernel
theorem dX9_readNumber_107 : decode cX9_readNumber 107 = .ok (.iconst 3, 1) := by decide +kernel
theorem dX9_readNumber_108 : decode cX9_readNumber 108 = .ok (.iload_n 3, 1) := by decide +kernel
theorem dX9_readNumber_109 : decode cX9_readNumber 109 = .ok (.invokevirtual 148, 3) := by decide +kernel
theorem dX9_readNumber_112 : decode cX9_readNumber 112 = .ok (.aload_n 0, 1) := by decide +kernel
theorem dX9_readNumber_113 : decode cX9_readNumber 113 = .ok (.dup, 1) := by decide +kernel
theorem dX9_readNumber_114 : decode cX9_readNumber 114 = .ok (.getfield 125, 3) := by decide +kernel
theorem dX9_readNumber_117 : decode cX9_readNumber 117 = .ok (.iconst 1, 1) := by decide +kernel
theorem dX9_readNumber_118 : decode cX9_readNumber 118 = .ok (.iadd, 1) := by decide +kernel
theorem dX9_readNumber_119 : decode cX9_readNumber 119 = .ok (.putfield 125, 3) := by decide +kernel
theorem dX9_readNumber_122 : decode cX9_readNumber 122 = .ok (.iconst 1, 1) := by decide +kernel
theorem dX9_readNumber_123 : decode cX9_readNumber 123 = .ok (.ireturn, 1) := by decide +kernel
theorem dX9_readNumber_124 : decode cX9_readNumber 124 = .ok (.aload_n 0, 1) := by decide +kernel
theorem dX9_readNumber_125 : decode cX9_readNumber 125 = .ok (.getfield 13, 3) := by decide +kernel
theorem dX9_readNumber_128 : decode cX9_readNumber 128 = .ok (.aload_n 0, 1) := by decide +kernel
theorem dX9_readNumber_129 : decode cX9_readNumber 129 = .ok (.getfield 125, 3) := by decide +kernel
theorem dX9_readNumber_132 : decode cX9_readNumber 132 = .ok (.iaload, 1) := by decide +kernel
theorem dX9_readNumber_133 : decode cX9_readNumber 133 = .ok (.iconst 1, 1) := by decide +kernel
theorem dX9_readNumber_134 : decode cX9_readNumber 134 = .ok (.if_icmp .eq 8, 3) := by decide +kernel
theorem dX9_readNumber_137 : decode cX9_readNumber 137 = .ok (.aload_n 0, 1) := by decide +kernel
theorem dX9_readNumber_138 : decode cX9_readNumber 138 = .ok (.invokevirtual 137, 3) := by decide +kernel
theorem dX9_readNumber_141 : decode cX9_readNumber 141 = .ok (.ireturn, 1) := by decide +kernel
theorem dX9_readNumber_142 : decode cX9_readNumber 142 = .ok (.iload_n 2, 1) := by decide +kernel
theorem dX9_readNumber_143 : decode cX9_readNumber 143 = .ok (.ifCond .eq 100, 3) := by decide +kernel
theorem dX9_readNumber_146 : decode cX9_readNumber 146 = .ok (.aload_n 0, 1) := by decide +kernel
theorem dX9_readNumber_147 : decode cX9_readNumber 147 = .ok (.iconst 1, 1) := by decide +kernel
theorem dX9_readNumber_148 : decode cX9_readNumber 148 = .ok (.aload_n 0, 1) := by decide +kernel
theorem dX9_readNumber_149 : decode cX9_readNumber 149 = .ok (.getfield 141, 3) := by decide +kernel
theorem dX9_readNumber_152 : decode cX9_readNumber 152 = .ok (.isub, 1) := by decide +kernel
theorem dX9_readNumber_153 : decode cX9_readNumber 153 = .ok (.aload_n 0, 1) := by decide +kernel
theorem dX9_readNumber_154 : decode cX9_readNumber 154 = .ok (.getfield 19, 3) := by decide +kernel
theorem dX9_readNumber_157 : decode cX9_readNumber 157 = .ok (.aload_n 0, 1) := by decide +kernel
theorem dX9_readNumber_158 : decode cX9_readNumber 158 = .ok (.getfield 125, 3) := by decide +kernel
theorem dX9_readNumber_161 : decode cX9_readNumber 161 = .ok (.laload, 1) := by decide +kernel
theorem dX9_readNumber_162 : decode cX9_readNumber 162 = .ok (.invokevirtual 144, 3) := by decide +kernel
theorem dX9_readNumber_165 : decode cX9_readNumber 165 = .ok (.istore 5, 2) := by decide +kernel
theorem dX9_readNumber_167 : decode cX9_readNumber 167 = .ok (.iload 5, 2) := by decide +kernel
theorem dX9_readNumber_169 : decode cX9_readNumber 169 = .ok (.iconst (-1), 1) := by decide +kernel
theorem dX9_readNumber_170 : decode cX9_readNumber 170 = .ok (.if_icmp .ne 17, 3) := by decide +kernel
theorem dX9_readNumber_173 : decode cX9_readNumber 173 = .ok (.aload_n 0, 1) := by decide +kernel
theorem dX9_readNumber_174 : decode cX9_readNumber 174 = .ok (.iconst 2, 1) := by decide +kernel
theorem dX9_readNumber_175 : decode cX9_readNumber 175 = .ok (.aload_n 0, 1) := by decide +kernel
theorem dX9_readNumber_176 : decode cX9_readNumber 176 = .ok (.getfield 16, 3) := by decide +kernel
theorem dX9_readNumber_179 : decode cX9_readNumber 179 = .ok (.aload_n 0, 1) := by decide +kernel
theorem dX9_readNumber_180 : decode cX9_readNumber 180 = .ok (.getfield 125, 3) := by decide +kernel
theorem dX9_readNumber_183 : decode cX9_readNumber 183 = .ok (.iaload, 1) := by decide +kernel
theorem dX9_readNumber_184 : decode cX9_readNumber 184 = .ok (.invokevirtual 148, 3) := by decide +kernel
theorem dX9_readNumber_187 : decode cX9_readNumber 187 = .ok (.aload_n 0, 1) := by decide +kernel
theorem dX9_readNumber_188 : decode cX9_readNumber 188 = .ok (.iload 5, 2) := by decide +kernel
theorem dX9_readNumber_190 : decode cX9_readNumber 190 = .ok (.iconst (-1), 1) := by decide +kernel
theorem dX9_readNumber_191 : decode cX9_readNumber 191 = .ok (.if_icmp .ne 7, 3) := by decide +kernel
theorem dX9_readNumber_194 : decode cX9_readNumber 194 = .ok (.lconst 0, 1) := by decide +kernel
theorem dX9_readNumber_195 : decode cX9_readNumber 195 = .ok (.goto 26, 3) := by decide +kernel
theorem dX9_readNumber_198 : decode cX9_readNumber 198 = .ok (.iload 4, 2) := by decide +kernel
theorem dX9_readNumber_200 : decode cX9_readNumber 200 = .ok (.ifCond .eq 14, 3) := by decide +kernel
theorem dX9_readNumber_203 : decode cX9_readNumber 203 = .ok (.aload_n 0, 1) := by decide +kernel
theorem dX9_readNumber_204 : decode cX9_readNumber 204 = .ok (.getfield 35, 3) := by decide +kernel
theorem dX9_readNumber_207 : decode cX9_readNumber 207 = .ok (.iload 5, 2) := by decide +kernel
theorem dX9_readNumber_209 : decode cX9_readNumber 209 = .ok (.laload, 1) := by decide +kernel
theorem dX9_readNumber_210 : decode cX9_readNumber 210 = .ok (.lneg, 1) := by decide +kernel
theorem dX9_readNumber_211 : decode cX9_readNumber 211 = .ok (.goto 10, 3) := by decide +kernel
theorem dX9_readNumber_214 : decode cX9_readNumber 214 = .ok (.aload_n 0, 1) := by decide +kernel
theorem dX9_readNumber_215 : decode cX9_readNumber 215 = .ok (.getfield 35, 3) := by decide +kernel
theorem dX9_readNumber_218 : decode cX9_readNumber 218 = .ok (.iload 5, 2) := by decide +kernel
theorem dX9_readNumber_220 : decode cX9_readNumber 220 = .ok (.laload, 1) := by decide +kernel
theorem dX9_readNumber_221 : decode cX9_readNumber 221 = .ok (.putfield 163, 3) := by decide +kernel
theorem dX9_readNumber_224 : decode cX9_readNumber 224 = .ok (.aload_n 0, 1) := by decide +kernel
theorem dX9_readNumber_225 : decode cX9_readNumber 225 = .ok (.getfield 163, 3) := by decide +kernel
theorem dX9_readNumber_228 : decode cX9_readNumber 228 = .ok (.invokestatic 167, 3) := by decide +kernel
theorem dX9_readNumber_231 : decode cX9_readNumber 231 = .ok (.ifCond .ne 9, 3) := by decide +kernel
theorem dX9_readNumber_234 : decode cX9_readNumber 234 = .ok (.aload_n 0, 1) := by decide +kernel
theorem dX9_readNumber_235 : decode cX9_readNumber 235 = .ok (.iconst 3, 1) := by decide +kernel
theorem dX9_readNumber_236 : decode cX9_readNumber 236 = .ok (.iload_n 3, 1) := by decide +kernel
theorem dX9_readNumber_237 : decode cX9_readNumber 237 = .ok (.invokevirtual 148, 3) := by decide +kernel
theorem dX9_readNumber_240 : decode cX9_readNumber 240 = .ok (.goto 88, 3) := by decide +kernel
theorem dX9_readNumber_243 : decode cX9_readNumber 243 = .ok (.aload_n 0, 1) := by decide +kernel
theorem dX9_readNumber_244 : decode cX9_readNumber 244 = .ok (.iconst 1, 1) := by decide +kernel
theorem dX9_readNumber_245 : decode cX9_readNumber 245 = .ok (.putfield 159, 3) := by decide +kernel
theorem dX9_readNumber_248 : decode cX9_readNumber 248 = .ok (.aload_n 0, 1) := by decide +kernel
theorem dX9_readNumber_249 : decode cX9_readNumber 249 = .ok (.getfield 38, 3) := by decide +kernel
theorem dX9_readNumber_252 : decode cX9_readNumber 252 = .ok (.aload_n 0, 1) := by decide +kernel
theorem dX9_readNumber_253 : decode cX9_readNumber 253 = .ok (.getfield 173, 3) := by decide +kernel
theorem dX9_readNumber_256 : decode cX9_readNumber 256 = .ok (.aload_n 0, 1) := by decide +kernel
theorem dX9_readNumber_257 : decode cX9_readNumber 257 = .ok (.getfield 176, 3) := by decide +kernel
theorem dX9_readNumber_260 : decode cX9_readNumber 260 = .ok (.iastore, 1) := by decide +kernel
theorem dX9_readNumber_261 : decode cX9_readNumber 261 = .ok (.aload_n 0, 1) := by decide +kernel
theorem dX9_readNumber_262 : decode cX9_readNumber 262 = .ok (.getfield 41, 3) := by decide +kernel
theorem dX9_readNumber_265 : decode cX9_readNumber 265 = .ok (.aload_n 0, 1) := by decide +kernel
theorem dX9_readNumber_266 : decode cX9_readNumber 266 = .ok (.getfield 173, 3) := by decide +kernel
theorem dX9_readNumber_269 : decode cX9_readNumber 269 = .ok (.aload_n 0, 1) := by decide +kernel
theorem dX9_readNumber_270 : decode cX9_readNumber 270 = .ok (.getfield 19, 3) := by decide +kernel
theorem dX9_readNumber_273 : decode cX9_readNumber 273 = .ok (.aload_n 0, 1) := by decide +kernel
theorem dX9_readNumber_274 : decode cX9_readNumber 274 = .ok (.getfield 125, 3) := by decide +kernel
theorem dX9_readNumber_277 : decode cX9_readNumber 277 = .ok (.laload, 1) := by decide +kernel
theorem dX9_readNumber_278 : decode cX9_readNumber 278 = .ok (.lastore, 1) := by decide +kernel
theorem dX9_readNumber_279 : decode cX9_readNumber 279 = .ok (.aload_n 0, 1) := by decide +kernel
theorem dX9_readNumber_280 : decode cX9_readNumber 280 = .ok (.getfield 44, 3) := by decide +kernel
theorem dX9_readNumber_283 : decode cX9_readNumber 283 = .ok (.aload_n 0, 1) := by decide +kernel
theorem dX9_readNumber_284 : decode cX9_readNumber 284 = .ok (.getfield 173, 3) := by decide +kernel
theorem dX9_readNumber_287 : decode cX9_readNumber 287 = .ok (.aload_n 0, 1) := by decide +kernel
theorem dX9_readNumber_288 : decode cX9_readNumber 288 = .ok (.getfield 16, 3) := by decide +kernel
theorem dX9_readNumber_291 : decode cX9_readNumber 291 = .ok (.aload_n 0, 1) := by decide +kernel
theorem dX9_readNumber_292 : decode cX9_readNumber 292 = .ok (.getfield 125, 3) := by decide +kernel
theorem dX9_readNumber_295 : decode cX9_readNumber 295 = .ok (.iaload, 1) := by decide +kernel
theorem dX9_readNumber_296 : decode cX9_readNumber 296 = .ok (.iastore, 1) := by decide +kernel
theorem dX9_readNumber_297 : decode cX9_readNumber 297 = .ok (.aload_n 0, 1) := by decide +kernel
theorem dX9_readNumber_298 : decode cX9_readNumber 298 = .ok (.getfield 47, 3) := by decide +kernel
theorem dX9_readNumber_301 : decode cX9_readNumber 301 = .ok (.aload_n 0, 1) := by decide +kernel
theorem dX9_readNumber_302 : decode cX9_readNumber 302 = .ok (.getfield 173, 3) := by decide +kernel
theorem dX9_readNumber_305 : decode cX9_readNumber 305 = .ok (.iload_n 3, 1) := by decide +kernel
theorem dX9_readNumber_306 : decode cX9_readNumber 306 = .ok (.iastore, 1) := by decide +kernel
theorem dX9_readNumber_307 : decode cX9_readNumber 307 = .ok (.aload_n 0, 1) := by decide +kernel
theorem dX9_readNumber_308 : decode cX9_readNumber 308 = .ok (.getfield 50, 3) := by decide +kernel
theorem dX9_readNumber_311 : decode cX9_readNumber 311 = .ok (.aload_n 0, 1) := by decide +kernel
theorem dX9_readNumber_312 : decode cX9_readNumber 312 = .ok (.getfield 173, 3) := by decide +kernel
theorem dX9_readNumber_315 : decode cX9_readNumber 315 = .ok (.iload 4, 2) := by decide +kernel
theorem dX9_readNumber_317 : decode cX9_readNumber 317 = .ok (.bastore, 1) := by decide +kernel
theorem dX9_readNumber_318 : decode cX9_readNumber 318 = .ok (.aload_n 0, 1) := by decide +kernel
theorem dX9_readNumber_319 : decode cX9_readNumber 319 = .ok (.getfield 54, 3) := by decide +kernel
theorem dX9_readNumber_322 : decode cX9_readNumber 322 = .ok (.aload_n 0, 1) := by decide +kernel
theorem dX9_readNumber_323 : decode cX9_readNumber 323 = .ok (.getfield 173, 3) := by decide +kernel
theorem dX9_readNumber_326 : decode cX9_readNumber 326 = .ok (.iload_n 1, 1) := by decide +kernel
theorem dX9_readNumber_327 : decode cX9_readNumber 327 = .ok (.bastore, 1) := by decide +kernel
theorem dX9_readNumber_328 : decode cX9_readNumber 328 = .ok (.aload_n 0, 1) := by decide +kernel
theorem dX9_readNumber_329 : decode cX9_readNumber 329 = .ok (.dup, 1) := by decide +kernel
theorem dX9_readNumber_330 : decode cX9_readNumber 330 = .ok (.getfield 125, 3) := by decide +kernel
theorem dX9_readNumber_333 : decode cX9_readNumber 333 = .ok (.iconst 1, 1) := by decide +kernel
theorem dX9_readNumber_334 : decode cX9_readNumber 334 = .ok (.iadd, 1) := by decide +kernel
theorem dX9_readNumber_335 : decode cX9_readNumber 335 = .ok (.putfield 125, 3) := by decide +kernel
theorem dX9_readNumber_338 : decode cX9_readNumber 338 = .ok (.iconst 1, 1) := by decide +kernel
theorem dX9_readNumber_339 : decode cX9_readNumber 339 = .ok (.ireturn, 1) := by decide +kernel
theorem dX9_number_0 : decode cX9_number 0 = .ok (.lload_n 0, 1) := by decide +kernel
theorem dX9_number_1 : decode cX9_number 1 = .ok (.ldc2_w 179, 3) := by decide +kernel
theorem dX9_number_4 : decode cX9_number 4 = .ok (.land, 1) := by decide +kernel
theorem dX9_number_5 : decode cX9_number 5 = .ok (.bipush 32, 2) := by decide +kernel
theorem dX9_number_7 : decode cX9_number 7 = .ok (.lshl, 1) := by decide +kernel
theorem dX9_number_8 : decode cX9_number 8 = .ok (.lreturn, 1) := by decide +kernel
theorem dX9_readPart_0 : decode cX9_readPart 0 = .ok (.iload_n 1, 1) := by decide +kernel
theorem dX9_readPart_1 : decode cX9_readPart 1 = .ok (.lookupswitch 254 #[(65, 75), (66, 75), (68, 75), (77, 209), (80, 179), (97, 127), (98, 127), (100, 127)], 75) := by decide +kernel
theorem dX9_readPart_76 : decode cX9_readPart 76 = .ok (.aload_n 0, 1) := by decide +kernel
theorem dX9_readPart_77 : decode cX9_readPart 77 = .ok (.bipush 114, 2) := by decide +kernel
theorem dX9_readPart_79 : decode cX9_readPart 79 = .ok (.invokevirtual 181, 3) := by decide +kernel
theorem dX9_readPart_82 : decode cX9_readPart 82 = .ok (.ifCond .ne 5, 3) := by decide +kernel
theorem dX9_readPart_85 : decode cX9_readPart 85 = .ok (.iconst 0, 1) := by decide +kernel
theorem dX9_readPart_86 : decode cX9_readPart 86 = .ok (.ireturn, 1) := by decide +kernel
theorem dX9_readPart_87 : decode cX9_readPart 87 = .ok (.aload_n 0, 1) := by decide +kernel
theorem dX9_readPart_88 : decode cX9_readPart 88 = .ok (.dup, 1) := by decide +kernel
theorem dX9_readPart_89 : decode cX9_readPart 89 = .ok (.getfield 184, 3) := by decide +kernel
theorem dX9_readPart_92 : decode cX9_readPart 92 = .ok (.aload_n 0, 1) := by decide +kernel
theorem dX9_readPart_93 : decode cX9_readPart 93 = .ok (.getfield 152, 3) := by decide +kernel
theorem dX9_readPart_96 : decode cX9_readPart 96 = .ok (.i2l, 1) := by decide +kernel
theorem dX9_readPart_97 : decode cX9_readPart 97 = .ok (.iload_n 1, 1) := by decide +kernel
theorem dX9_readPart_98 : decode cX9_readPart 98 = .ok (.bipush 68, 2) := by decide +kernel
theorem dX9_readPart_100 : decode cX9_readPart 100 = .ok (.if_icmp .ne 8, 3) := by decide +kernel
theorem dX9_readPart_103 : decode cX9_readPart 103 = .ok (.bipush 8, 2) := by decide +kernel
theorem dX9_readPart_105 : decode cX9_readPart 105 = .ok (.goto 16, 3) := by decide +kernel
theorem dX9_readPart_108 : decode cX9_readPart 108 = .ok (.iload_n 1, 1) := by decide +kernel
theorem dX9_readPart_109 : decode cX9_readPart 109 = .ok (.bipush 65, 2) := by decide +kernel
theorem dX9_readPart_111 : decode cX9_readPart 111 = .ok (.if_icmp .ne 8, 3) := by decide +kernel
theorem dX9_readPart_114 : decode cX9_readPart 114 = .ok (.bipush 12, 2) := by decide +kernel
theorem dX9_readPart_116 : decode cX9_readPart 116 = .ok (.goto 5, 3) := by decide +kernel
theorem dX9_readPart_119 : decode cX9_readPart 119 = .ok (.bipush 16, 2) := by decide +kernel
theorem dX9_readPart_121 : decode cX9_readPart 121 = .ok (.lshl, 1) := by decide +kernel
theorem dX9_readPart_122 : decode cX9_readPart 122 = .ok (.lor, 1) := by decide +kernel
theorem dX9_readPart_123 : decode cX9_readPart 123 = .ok (.putfield 184, 3) := by decide +kernel
theorem dX9_readPart_126 : decode cX9_readPart 126 = .ok (.iconst 1, 1) := by decide +kernel
theorem dX9_readPart_127 : decode cX9_readPart 127 = .ok (.ireturn, 1) := by decide +kernel
theorem dX9_readPart_128 : decode cX9_readPart 128 = .ok (.aload_n 0, 1) := by decide +kernel
theorem dX9_readPart_129 : decode cX9_readPart 129 = .ok (.bipush 112, 2) := by decide +kernel
theorem dX9_readPart_131 : decode cX9_readPart 131 = .ok (.invokevirtual 181, 3) := by decide +kernel
theorem dX9_readPart_134 : decode cX9_readPart 134 = .ok (.ifCond .ne 5, 3) := by decide +kernel
theorem dX9_readPart_137 : decode cX9_readPart 137 = .ok (.iconst 0, 1) := by decide +kernel
theorem dX9_readPart_138 : decode cX9_readPart 138 = .ok (.ireturn, 1) := by decide +kernel
theorem dX9_readPart_139 : decode cX9_readPart 139 = .ok (.aload_n 0, 1) := by decide +kernel
theorem dX9_readPart_140 : decode cX9_readPart 140 = .ok (.dup, 1) := by decide +kernel
theorem dX9_readPart_141 : decode cX9_readPart 141 = .ok (.getfield 184, 3) := by decide +kernel
theorem dX9_readPart_144 : decode cX9_readPart 144 = .ok (.aload_n 0, 1) := by decide +kernel
theorem dX9_readPart_145 : decode cX9_readPart 145 = .ok (.getfield 152, 3) := by decide +kernel
theorem dX9_readPart_148 : decode cX9_readPart 148 = .ok (.i2l, 1) := by decide +kernel
theorem dX9_readPart_149 : decode cX9_readPart 149 = .ok (.iload_n 1, 1) := by decide +kernel
theorem dX9_readPart_150 : decode cX9_readPart 150 = .ok (.bipush 100, 2) := by decide +kernel
theorem dX9_readPart_152 : decode cX9_readPart 152 = .ok (.if_icmp .ne 8, 3) := by decide +kernel
theorem dX9_readPart_155 : decode cX9_readPart 155 = .ok (.bipush 8, 2) := by decide +kernel
theorem dX9_readPart_157 : decode cX9_readPart 157 = .ok (.goto 16, 3) := by decide +kernel
theorem dX9_readPart_160 : decode cX9_readPart 160 = .ok (.iload_n 1, 1) := by decide +kernel
theorem dX9_readPart_161 : decode cX9_readPart 161 = .ok (.bipush 97, 2) := by decide +kernel
theorem dX9_readPart_163 : decode cX9_readPart 163 = .ok (.if_icmp .ne 8, 3) := by decide +kernel
theorem dX9_readPart_166 : decode cX9_readPart 166 = .ok (.bipush 12, 2) := by decide +kernel
theorem dX9_readPart_168 : decode cX9_readPart 168 = .ok (.goto 5, 3) := by decide +kernel
theorem dX9_readPart_171 : decode cX9_readPart 171 = .ok (.bipush 16, 2) := by decide +kernel
theorem dX9_readPart_173 : decode cX9_readPart 173 = .ok (.lshl, 1) := by decide +kernel
theorem dX9_readPart_174 : decode cX9_readPart 174 = .ok (.lor, 1) := by decide +kernel
theorem dX9_readPart_175 : decode cX9_readPart 175 = .ok (.putfield 184, 3) := by decide +kernel
theorem dX9_readPart_178 : decode cX9_readPart 178 = .ok (.iconst 1, 1) := by decide +kernel
theorem dX9_readPart_179 : decode cX9_readPart 179 = .ok (.ireturn, 1) := by decide +kernel
theorem dX9_readPart_180 : decode cX9_readPart 180 = .ok (.aload_n 0, 1) := by decide +kernel
theorem dX9_readPart_181 : decode cX9_readPart 181 = .ok (.bipush 112, 2) := by decide +kernel
theorem dX9_readPart_183 : decode cX9_readPart 183 = .ok (.invokevirtual 181, 3) := by decide +kernel
theorem dX9_readPart_186 : decode cX9_readPart 186 = .ok (.ifCond .ne 5, 3) := by decide +kernel
theorem dX9_readPart_189 : decode cX9_readPart 189 = .ok (.iconst 0, 1) := by decide +kernel
theorem dX9_readPart_190 : decode cX9_readPart 190 = .ok (.ireturn, 1) := by decide +kernel
theorem dX9_readPart_191 : decode cX9_readPart 191 = .ok (.aload_n 0, 1) := by decide +kernel
theorem dX9_readPart_192 : decode cX9_readPart 192 = .ok (.dup, 1) := by decide +kernel
theorem dX9_readPart_193 : decode cX9_readPart 193 = .ok (.getfield 184, 3) := by decide +kernel
theorem dX9_readPart_196 : decode cX9_readPart 196 = .ok (.aload_n 0, 1) := by decide +kernel
theorem dX9_readPart_197 : decode cX9_readPart 197 = .ok (.getfield 152, 3) := by decide +kernel
theorem dX9_readPart_200 : decode cX9_readPart 200 = .ok (.i2l, 1) := by decide +kernel
theorem dX9_readPart_201 : decode cX9_readPart 201 = .ok (.invokestatic 187, 3) := by decide +kernel
theorem dX9_readPart_204 : decode cX9_readPart 204 = .ok (.lor, 1) := by decide +kernel
theorem dX9_readPart_205 : decode cX9_readPart 205 = .ok (.putfield 184, 3) := by decide +kernel
theorem dX9_readPart_208 : decode cX9_readPart 208 = .ok (.iconst 1, 1) := by decide +kernel
theorem dX9_readPart_209 : decode cX9_readPart 209 = .ok (.ireturn, 1) := by decide +kernel
theorem dX9_readPart_210 : decode cX9_readPart 210 = .ok (.aload_n 0, 1) := by decide +kernel
theorem dX9_readPart_211 : decode cX9_readPart 211 = .ok (.bipush 40, 2) := by decide +kernel
theorem dX9_readPart_213 : decode cX9_readPart 213 = .ok (.invokevirtual 191, 3) := by decide +kernel
theorem dX9_readPart_216 : decode cX9_readPart 216 = .ok (.ifCond .eq 30, 3) := by decide +kernel
theorem dX9_readPart_219 : decode cX9_readPart 219 = .ok (.aload_n 0, 1) := by decide +kernel
theorem dX9_readPart_220 : decode cX9_readPart 220 = .ok (.bipush 65, 2) := by decide +kernel
theorem dX9_readPart_222 : decode cX9_readPart 222 = .ok (.invokevirtual 194, 3) := by decide +kernel
theorem dX9_readPart_225 : decode cX9_readPart 225 = .ok (.ifCond .eq 21, 3) := by decide +kernel
theorem dX9_readPart_228 : decode cX9_readPart 228 = .ok (.aload_n 0, 1) := by decide +kernel
theorem dX9_readPart_229 : decode cX9_readPart 229 = .ok (.bipush 43, 2) := by decide +kernel
theorem dX9_readPart_231 : decode cX9_readPart 231 = .ok (.invokevirtual 191, 3) := by decide +kernel
theorem dX9_readPart_234 : decode cX9_readPart 234 = .ok (.ifCond .eq 12, 3) := by decide +kernel
theorem dX9_readPart_237 : decode cX9_readPart 237 = .ok (.aload_n 0, 1) := by decide +kernel
theorem dX9_readPart_238 : decode cX9_readPart 238 = .ok (.bipush 78, 2) := by decide +kernel
theorem dX9_readPart_240 : decode cX9_readPart 240 = .ok (.invokevirtual 194, 3) := by decide +kernel
theorem dX9_readPart_243 : decode cX9_readPart 243 = .ok (.ifCond .ne 5, 3) := by decide +kernel
theorem dX9_readPart_246 : decode cX9_readPart 246 = .ok (.iconst 0, 1) := by decide +kernel
theorem dX9_readPart_247 : decode cX9_readPart 247 = .ok (.ireturn, 1) := by decide +kernel
theorem dX9_readPart_248 : decode cX9_readPart 248 = .ok (.aload_n 0, 1) := by decide +kernel
theorem dX9_readPart_249 : decode cX9_readPart 249 = .ok (.bipush 41, 2) := by decide +kernel
theorem dX9_readPart_251 : decode cX9_readPart 251 = .ok (.invokevirtual 191, 3) := by decide +kernel
theorem dX9_readPart_254 : decode cX9_readPart 254 = .ok (.ireturn, 1) := by decide +kernel
theorem dX9_readPart_255 : decode cX9_readPart 255 = .ok (.aload_n 0, 1) := by decide +kernel
theorem dX9_readPart_256 : decode cX9_readPart 256 = .ok (.iload_n 1, 1) := by decide +kernel
theorem dX9_readPart_257 : decode cX9_readPart 257 = .ok (.bipush 71, 2) := by decide +kernel
theorem dX9_readPart_259 : decode cX9_readPart 259 = .ok (.if_icmp .ne 7, 3) := by decide +kernel
theorem dX9_readPart_262 : decode cX9_readPart 262 = .ok (.iconst 1, 1) := by decide +kernel
theorem dX9_readPart_263 : decode cX9_readPart 263 = .ok (.goto 4, 3) := by decide +kernel
theorem dX9_readPart_266 : decode cX9_readPart 266 = .ok (.iconst 0, 1) := by decide +kernel
theorem dX9_readPart_267 : decode cX9_readPart 267 = .ok (.iconst 0, 1) := by decide +kernel
theorem dX9_readPart_268 : decode cX9_readPart 268 = .ok (.invokevirtual 197, 3) := by decide +kernel
theorem dX9_readPart_271 : decode cX9_readPart 271 = .ok (.ifCond .ne 5, 3) := by decide +kernel
theorem dX9_readPart_274 : decode cX9_readPart 274 = .ok (.iconst 0, 1) := by decide +kernel
theorem dX9_readPart_275 : decode cX9_readPart 275 = .ok (.ireturn, 1) := by decide +kernel
theorem dX9_readPart_276 : decode cX9_readPart 276 = .ok (.aload_n 0, 1) := by decide +kernel
theorem dX9_readPart_277 : decode cX9_readPart 277 = .ok (.dup, 1) := by decide +kernel
theorem dX9_readPart_278 : decode cX9_readPart 278 = .ok (.getfield 184, 3) := by decide +kernel
theorem dX9_readPart_281 : decode cX9_readPart 281 = .ok (.aload_n 0, 1) := by decide +kernel
theorem dX9_readPart_282 : decode cX9_readPart 282 = .ok (.getfield 159, 3) := by decide +kernel
theorem dX9_readPart_285 : decode cX9_readPart 285 = .ok (.ifCond .eq 7, 3) := by decide +kernel
theorem dX9_readPart_288 : decode cX9_readPart 288 = .ok (.lconst 0, 1) := by decide +kernel
theorem dX9_readPart_289 : decode cX9_readPart 289 = .ok (.goto 10, 3) := by decide +kernel
theorem dX9_readPart_292 : decode cX9_readPart 292 = .ok (.aload_n 0, 1) := by decide +kernel
theorem dX9_readPart_293 : decode cX9_readPart 293 = .ok (.getfield 163, 3) := by decide +kernel
theorem dX9_readPart_296 : decode cX9_readPart 296 = .ok (.invokestatic 187, 3) := by decide +kernel
theorem dX9_readPart_299 : decode cX9_readPart 299 = .ok (.lor, 1) := by decide +kernel
theorem dX9_readPart_300 : decode cX9_readPart 300 = .ok (.putfield 184, 3) := by decide +kernel
theorem dX9_readPart_303 : decode cX9_readPart 303 = .ok (.iconst 1, 1) := by decide +kernel
theorem dX9_readPart_304 : decode cX9_readPart 304 = .ok (.ireturn, 1) := by decide +kernel
theorem dX9_readWord_0 : decode cX9_readWord 0 = .ok (.aload_n 0, 1) := by decide +kernel
theorem dX9_readWord_1 : decode cX9_readWord 1 = .ok (.getfield 176, 3) := by decide +kernel
theorem dX9_readWord_4 : decode cX9_readWord 4 = .ok (.bipush 64, 2) := by decide +kernel
theorem dX9_readWord_6 : decode cX9_readWord 6 = .ok (.if_icmp .ne 8, 3) := by decide +kernel
theorem dX9_readWord_9 : decode cX9_readWord 9 = .ok (.aload_n 0, 1) := by decide +kernel
theorem dX9_readWord_10 : decode cX9_readWord 10 = .ok (.invokevirtual 137, 3) := by decide +kernel
theorem dX9_readWord_13 : decode cX9_readWord 13 = .ok (.ireturn, 1) := by decide +kernel
theorem dX9_readWord_14 : decode cX9_readWord 14 = .ok (.aload_n 0, 1) := by decide +kernel
theorem dX9_readWord_15 : decode cX9_readWord 15 = .ok (.dup, 1) := by decide +kernel
theorem dX9_readWord_16 : decode cX9_readWord 16 = .ok (.getfield 125, 3) := by decide +kernel
theorem dX9_readWord_19 : decode cX9_readWord 19 = .ok (.iconst 1, 1) := by decide +kernel
theorem dX9_readWord_20 : decode cX9_readWord 20 = .ok (.iadd, 1) := by decide +kernel
theorem dX9_readWord_21 : decode cX9_readWord 21 = .ok (.putfield 125, 3) := by decide +kernel
theorem dX9_readWord_24 : decode cX9_readWord 24 = .ok (.aload_n 0, 1) := by decide +kernel
theorem dX9_readWord_25 : decode cX9_readWord 25 = .ok (.iload_n 1, 1) := by decide +kernel
theorem dX9_readWord_26 : decode cX9_readWord 26 = .ok (.invokestatic 201, 3) := by decide +kernel
theorem dX9_readWord_29 : decode cX9_readWord 29 = .ok (.i2l, 1) := by decide +kernel
theorem dX9_readWord_30 : decode cX9_readWord 30 = .ok (.lload_n 2, 1) := by decide +kernel
theorem dX9_readWord_31 : decode cX9_readWord 31 = .ok (.bipush 20, 2) := by decide +kernel
theorem dX9_readWord_33 : decode cX9_readWord 33 = .ok (.lshl, 1) := by decide +kernel
theorem dX9_readWord_34 : decode cX9_readWord 34 = .ok (.lor, 1) := by decide +kernel
theorem dX9_readWord_35 : decode cX9_readWord 35 = .ok (.iload_n 1, 1) := by decide +kernel
theorem dX9_readWord_36 : decode cX9_readWord 36 = .ok (.invokestatic 204, 3) := by decide +kernel
theorem dX9_readWord_39 : decode cX9_readWord 39 = .ok (.ifCond .eq 14, 3) := by decide +kernel
theorem dX9_readWord_42 : decode cX9_readWord 42 = .ok (.iload_n 1, 1) := by decide +kernel
theorem dX9_readWord_43 : decode cX9_readWord 43 = .ok (.bipush 22, 2) := by decide +kernel
theorem dX9_readWord_45 : decode cX9_readWord 45 = .ok (.isub, 1) := by decide +kernel
theorem dX9_readWord_46 : decode cX9_readWord 46 = .ok (.i2l, 1) := by decide +kernel
theorem dX9_readWord_47 : decode cX9_readWord 47 = .ok (.invokestatic 187, 3) := by decide +kernel
theorem dX9_readWord_50 : decode cX9_readWord 50 = .ok (.goto 4, 3) := by decide +kernel
theorem dX9_readWord_53 : decode cX9_readWord 53 = .ok (.lconst 0, 1) := by decide +kernel
theorem dX9_readWord_54 : decode cX9_readWord 54 = .ok (.lor, 1) := by decide +kernel
theorem dX9_readWord_55 : decode cX9_readWord 55 = .ok (.putfield 184, 3) := by decide +kernel
theorem dX9_readWord_58 : decode cX9_readWord 58 = .ok (.aload_n 0, 1) := by decide +kernel
theorem dX9_readWord_59 : decode cX9_readWord 59 = .ok (.iconst 0, 1) := by decide +kernel
theorem dX9_readWord_60 : decode cX9_readWord 60 = .ok (.putfield 159, 3) := by decide +kernel
theorem dX9_readWord_63 : decode cX9_readWord 63 = .ok (.iconst 0, 1) := by decide +kernel
theorem dX9_readWord_64 : decode cX9_readWord 64 = .ok (.istore 4, 2) := by decide +kernel
theorem dX9_readWord_66 : decode cX9_readWord 66 = .ok (.iconst 0, 1) := by decide +kernel
theorem dX9_readWord_67 : decode cX9_readWord 67 = .ok (.istore 5, 2) := by decide +kernel
theorem dX9_readWord_69 : decode cX9_readWord 69 = .ok (.iload 5, 2) := by decide +kernel
theorem dX9_readWord_71 : decode cX9_readWord 71 = .ok (.iconst 4, 1) := by decide +kernel
theorem dX9_readWord_72 : decode cX9_readWord 72 = .ok (.if_icmp .ge 75, 3) := by decide +kernel
theorem dX9_readWord_75 : decode cX9_readWord 75 = .ok (.iload_n 1, 1) := by decide +kernel
theorem dX9_readWord_76 : decode cX9_readWord 76 = .ok (.iload 5, 2) := by decide +kernel
theorem dX9_readWord_78 : decode cX9_readWord 78 = .ok (.invokestatic 207, 3) := by decide +kernel
theorem dX9_readWord_81 : decode cX9_readWord 81 = .ok (.bipush 46, 2) := by decide +kernel
theorem dX9_readWord_83 : decode cX9_readWord 83 = .ok (.if_icmp .eq 64, 3) := by decide +kernel
theorem dX9_readWord_86 : decode cX9_readWord 86 = .ok (.iload 5, 2) := by decide +kernel
theorem dX9_readWord_88 : decode cX9_readWord 88 = .ok (.ifCond .le 14, 3) := by decide +kernel
theorem dX9_readWord_91 : decode cX9_readWord 91 = .ok (.aload_n 0, 1) := by decide +kernel
theorem dX9_readWord_92 : decode cX9_readWord 92 = .ok (.bipush 44, 2) := by decide +kernel
theorem dX9_readWord_94 : decode cX9_readWord 94 = .ok (.invokevirtual 191, 3) := by decide +kernel
theorem dX9_readWord_97 : decode cX9_readWord 97 = .ok (.ifCond .ne 5, 3) := by decide +kernel
theorem dX9_readWord_100 : decode cX9_readWord 100 = .ok (.iconst 0, 1) := by decide +kernel
theorem dX9_readWord_101 : decode cX9_readWord 101 = .ok (.ireturn, 1) := by decide +kernel
theorem dX9_readWord_102 : decode cX9_readWord 102 = .ok (.aload_n 0, 1) := by decide +kernel
theorem dX9_readWord_103 : decode cX9_readWord 103 = .ok (.iload_n 1, 1) := by decide +kernel
theorem dX9_readWord_104 : decode cX9_readWord 104 = .ok (.iload 5, 2) := by decide +kernel
theorem dX9_readWord_106 : decode cX9_readWord 106 = .ok (.invokestatic 207, 3) := by decide +kernel
theorem dX9_readWord_109 : decode cX9_readWord 109 = .ok (.invokevirtual 194, 3) := by decide +kernel
theorem dX9_readWord_112 : decode cX9_readWord 112 = .ok (.ifCond .ne 5, 3) := by decide +kernel
theorem dX9_readWord_115 : decode cX9_readWord 115 = .ok (.iconst 0, 1) := by decide +kernel
theorem dX9_readWord_116 : decode cX9_readWord 116 = .ok (.ireturn, 1) := by decide +kernel
theorem dX9_readWord_117 : decode cX9_readWord 117 = .ok (.iload 4, 2) := by decide +kernel
theorem dX9_readWord_119 : decode cX9_readWord 119 = .ok (.ifCond .ne 10, 3) := by decide +kernel
theorem dX9_readWord_122 : decode cX9_readWord 122 = .ok (.aload_n 0, 1) := by decide +kernel
theorem dX9_readWord_123 : decode cX9_readWord 123 = .ok (.getfield 159, 3) := by decide +kernel
theorem dX9_readWord_126 : decode cX9_readWord 126 = .ok (.ifCond .eq 7, 3) := by decide +kernel
theorem dX9_readWord_129 : decode cX9_readWord 129 = .ok (.iconst 1, 1) := by decide +kernel
theorem dX9_readWord_130 : decode cX9_readWord 130 = .ok (.goto 4, 3) := by decide +kernel
theorem dX9_readWord_133 : decode cX9_readWord 133 = .ok (.iconst 0, 1) := by decide +kernel
theorem dX9_readWord_134 : decode cX9_readWord 134 = .ok (.istore 4, 2) := by decide +kernel
theorem dX9_readWord_136 : decode cX9_readWord 136 = .ok (.aload_n 0, 1) := by decide +kernel
theorem dX9_readWord_137 : decode cX9_readWord 137 = .ok (.iconst 0, 1) := by decide +kernel
theorem dX9_readWord_138 : decode cX9_readWord 138 = .ok (.putfield 159, 3) := by decide +kernel
theorem dX9_readWord_141 : decode cX9_readWord 141 = .ok (.iinc 5 1, 3) := by decide +kernel
theorem dX9_readWord_144 : decode cX9_readWord 144 = .ok (.goto (-75), 3) := by decide +kernel
theorem dX9_readWord_147 : decode cX9_readWord 147 = .ok (.aload_n 0, 1) := by decide +kernel
theorem dX9_readWord_148 : decode cX9_readWord 148 = .ok (.getfield 26, 3) := by decide +kernel
theorem dX9_readWord_151 : decode cX9_readWord 151 = .ok (.aload_n 0, 1) := by decide +kernel
theorem dX9_readWord_152 : decode cX9_readWord 152 = .ok (.getfield 176, 3) := by decide +kernel
theorem dX9_readWord_155 : decode cX9_readWord 155 = .ok (.aload_n 0, 1) := by decide +kernel
theorem dX9_readWord_156 : decode cX9_readWord 156 = .ok (.getfield 184, 3) := by decide +kernel
theorem dX9_readWord_159 : decode cX9_readWord 159 = .ok (.lastore, 1) := by decide +kernel
theorem dX9_readWord_160 : decode cX9_readWord 160 = .ok (.aload_n 0, 1) := by decide +kernel
theorem dX9_readWord_161 : decode cX9_readWord 161 = .ok (.dup, 1) := by decide +kernel
theorem dX9_readWord_162 : decode cX9_readWord 162 = .ok (.getfield 176, 3) := by decide +kernel
theorem dX9_readWord_165 : decode cX9_readWord 165 = .ok (.iconst 1, 1) := by decide +kernel
theorem dX9_readWord_166 : decode cX9_readWord 166 = .ok (.iadd, 1) := by decide +kernel
theorem dX9_readWord_167 : decode cX9_readWord 167 = .ok (.putfield 176, 3) := by decide +kernel
theorem dX9_readWord_170 : decode cX9_readWord 170 = .ok (.aload_n 0, 1) := by decide +kernel
theorem dX9_readWord_171 : decode cX9_readWord 171 = .ok (.dup, 1) := by decide +kernel
theorem dX9_readWord_172 : decode cX9_readWord 172 = .ok (.getfield 173, 3) := by decide +kernel
theorem dX9_readWord_175 : decode cX9_readWord 175 = .ok (.iload 4, 2) := by decide +kernel
theorem dX9_readWord_177 : decode cX9_readWord 177 = .ok (.ifCond .eq 7, 3) := by decide +kernel
theorem dX9_readWord_180 : decode cX9_readWord 180 = .ok (.iconst 1, 1) := by decide +kernel
theorem dX9_readWord_181 : decode cX9_readWord 181 = .ok (.goto 4, 3) := by decide +kernel
theorem dX9_readWord_184 : decode cX9_readWord 184 = .ok (.iconst 0, 1) := by decide +kernel
theorem dX9_readWord_185 : decode cX9_readWord 185 = .ok (.iadd, 1) := by decide +kernel
theorem dX9_readWord_186 : decode cX9_readWord 186 = .ok (.putfield 173, 3) := by decide +kernel
theorem dX9_readWord_189 : decode cX9_readWord 189 = .ok (.iconst 1, 1) := by decide +kernel
theorem dX9_readWord_190 : decode cX9_readWord 190 = .ok (.ireturn, 1) := by decide +kernel
theorem dX9_readStatement_0 : decode cX9_readStatement 0 = .ok (.aload_n 0, 1) := by decide +kernel
theorem dX9_readStatement_1 : decode cX9_readStatement 1 = .ok (.getfield 13, 3) := by decide +kernel
theorem dX9_readStatement_4 : decode cX9_readStatement 4 = .ok (.aload_n 0, 1) := by decide +kernel
theorem dX9_readStatement_5 : decode cX9_readStatement 5 = .ok (.getfield 125, 3) := by decide +kernel
theorem dX9_readStatement_8 : decode cX9_readStatement 8 = .ok (.iaload, 1) := by decide +kernel
theorem dX9_readStatement_9 : decode cX9_readStatement 9 = .ok (.iconst 1, 1) := by decide +kernel
theorem dX9_readStatement_10 : decode cX9_readStatement 10 = .ok (.if_icmp .ne 65, 3) := by decide +kernel
theorem dX9_readStatement_13 : decode cX9_readStatement 13 = .ok (.aload_n 0, 1) := by decide +kernel
theorem dX9_readStatement_14 : decode cX9_readStatement 14 = .ok (.bipush 61, 2) := by decide +kernel
theorem dX9_readStatement_16 : decode cX9_readStatement 16 = .ok (.invokevirtual 210, 3) := by decide +kernel
theorem dX9_readStatement_19 : decode cX9_readStatement 19 = .ok (.ifCond .eq 56, 3) := by decide +kernel
theorem dX9_readStatement_22 : decode cX9_readStatement 22 = .ok (.aload_n 0, 1) := by decide +kernel
theorem dX9_readStatement_23 : decode cX9_readStatement 23 = .ok (.getfield 125, 3) := by decide +kernel
theorem dX9_readStatement_26 : decode cX9_readStatement 26 = .ok (.istore_n 1, 1) := by decide +kernel
theorem dX9_readStatement_27 : decode cX9_readStatement 27 = .ok (.aload_n 0, 1) := by decide +kernel
theorem dX9_readStatement_28 : decode cX9_readStatement 28 = .ok (.dup, 1) := by decide +kernel
theorem dX9_readStatement_29 : decode cX9_readStatement 29 = .ok (.getfield 125, 3) := by decide +kernel
theorem dX9_readStatement_32 : decode cX9_readStatement 32 = .ok (.iconst 2, 1) := by decide +kernel
theorem dX9_readStatement_33 : decode cX9_readStatement 33 = .ok (.iadd, 1) := by decide +kernel
theorem dX9_readStatement_34 : decode cX9_readStatement 34 = .ok (.putfield 125, 3) := by decide +kernel
theorem dX9_readStatement_37 : decode cX9_readStatement 37 = .ok (.aload_n 0, 1) := by decide +kernel
theorem dX9_readStatement_38 : decode cX9_readStatement 38 = .ok (.iconst 0, 1) := by decide +kernel
theorem dX9_readStatement_39 : decode cX9_readStatement 39 = .ok (.iconst 1, 1) := by decide +kernel
theorem dX9_readStatement_40 : decode cX9_readStatement 40 = .ok (.invokevirtual 197, 3) := by decide +kernel
theorem dX9_readStatement_43 : decode cX9_readStatement 43 = .ok (.ifCond .ne 5, 3) := by decide +kernel
theorem dX9_readStatement_46 : decode cX9_readStatement 46 = .ok (.iconst 0, 1) := by decide +kernel
theorem dX9_readStatement_47 : decode cX9_readStatement 47 = .ok (.ireturn, 1) := by decide +kernel
theorem dX9_readStatement_48 : decode cX9_readStatement 48 = .ok (.aload_n 0, 1) := by decide +kernel
theorem dX9_readStatement_49 : decode cX9_readStatement 49 = .ok (.aload_n 0, 1) := by decide +kernel
theorem dX9_readStatement_50 : decode cX9_readStatement 50 = .ok (.getfield 19, 3) := by decide +kernel
theorem dX9_readStatement_53 : decode cX9_readStatement 53 = .ok (.iload_n 1, 1) := by decide +kernel
theorem dX9_readStatement_54 : decode cX9_readStatement 54 = .ok (.laload, 1) := by decide +kernel
theorem dX9_readStatement_55 : decode cX9_readStatement 55 = .ok (.aload_n 0, 1) := by decide +kernel
theorem dX9_readStatement_56 : decode cX9_readStatement 56 = .ok (.getfield 16, 3) := by decide +kernel
theorem dX9_readStatement_59 : decode cX9_readStatement 59 = .ok (.iload_n 1, 1) := by decide +kernel
theorem dX9_readStatement_60 : decode cX9_readStatement 60 = .ok (.iaload, 1) := by decide +kernel
theorem dX9_readStatement_61 : decode cX9_readStatement 61 = .ok (.aload_n 0, 1) := by decide +kernel
theorem dX9_readStatement_62 : decode cX9_readStatement 62 = .ok (.getfield 163, 3) := by decide +kernel
theorem dX9_readStatement_65 : decode cX9_readStatement 65 = .ok (.invokevirtual 213, 3) := by decide +kernel
theorem dX9_readStatement_68 : decode cX9_readStatement 68 = .ok (.aload_n 0, 1) := by decide +kernel
theorem dX9_readStatement_69 : decode cX9_readStatement 69 = .ok (.bipush 59, 2) := by decide +kernel
theorem dX9_readStatement_71 : decode cX9_readStatement 71 = .ok (.invokevirtual 191, 3) := by decide +kernel
theorem dX9_readStatement_74 : decode cX9_readStatement 74 = .ok (.ireturn, 1) := by decide +kernel
theorem dX9_readStatement_75 : decode cX9_readStatement 75 = .ok (.aload_n 0, 1) := by decide +kernel
theorem dX9_readStatement_76 : decode cX9_readStatement 76 = .ok (.getfield 13, 3) := by decide +kernel
theorem dX9_readStatement_79 : decode cX9_readStatement 79 = .ok (.aload_n 0, 1) := by decide +kernel
theorem dX9_readStatement_80 : decode cX9_readStatement 80 = .ok (.getfield 125, 3) := by decide +kernel
theorem dX9_readStatement_83 : decode cX9_readStatement 83 = .ok (.iaload, 1) := by decide +kernel
theorem dX9_readStatement_84 : decode cX9_readStatement 84 = .ok (.iconst 1, 1) := by decide +kernel
theorem dX9_readStatement_85 : decode cX9_readStatement 85 = .ok (.if_icmp .ne 52, 3) := by decide +kernel
theorem dX9_readStatement_88 : decode cX9_readStatement 88 = .ok (.aload_n 0, 1) := by decide +kernel
theorem dX9_readStatement_89 : decode cX9_readStatement 89 = .ok (.bipush 58, 2) := by decide +kernel
theorem dX9_readStatement_91 : decode cX9_readStatement 91 = .ok (.invokevirtual 210, 3) := by decide +kernel
theorem dX9_readStatement_94 : decode cX9_readStatement 94 = .ok (.ifCond .eq 43, 3) := by decide +kernel
theorem dX9_readStatement_97 : decode cX9_readStatement 97 = .ok (.aload_n 0, 1) := by decide +kernel
theorem dX9_readStatement_98 : decode cX9_readStatement 98 = .ok (.aload_n 0, 1) := by decide +kernel
theorem dX9_readStatement_99 : decode cX9_readStatement 99 = .ok (.getfield 19, 3) := by decide +kernel
theorem dX9_readStatement_102 : decode cX9_readStatement 102 = .ok (.aload_n 0, 1) := by decide +kernel
theorem dX9_readStatement_103 : decode cX9_readStatement 103 = .ok (.getfield 125, 3) := by decide +kernel
theorem dX9_readStatement_106 : decode cX9_readStatement 106 = .ok (.laload, 1) := by decide +kernel
theorem dX9_readStatement_107 : decode cX9_readStatement 107 = .ok (.aload_n 0, 1) := by decide +kernel
theorem dX9_readStatement_108 : decode cX9_readStatement 108 = .ok (.getfield 16, 3) := by decide +kernel
theorem dX9_readStatement_111 : decode cX9_readStatement 111 = .ok (.aload_n 0, 1) := by decide +kernel
theorem dX9_readStatement_112 : decode cX9_readStatement 112 = .ok (.getfield 125, 3) := by decide +kernel
theorem dX9_readStatement_115 : decode cX9_readStatement 115 = .ok (.iaload, 1) := by decide +kernel
theorem dX9_readStatement_116 : decode cX9_readStatement 116 = .ok (.aload_n 0, 1) := by decide +kernel
theorem dX9_readStatement_117 : decode cX9_readStatement 117 = .ok (.getfield 176, 3) := by decide +kernel
theorem dX9_readStatement_120 : decode cX9_readStatement 120 = .ok (.i2l, 1) := by decide +kernel
theorem dX9_readStatement_121 : decode cX9_readStatement 121 = .ok (.invokevirtual 213, 3) := by decide +kernel
theorem dX9_readStatement_124 : decode cX9_readStatement 124 = .ok (.aload_n 0, 1) := by decide +kernel
theorem dX9_readStatement_125 : decode cX9_readStatement 125 = .ok (.dup, 1) := by decide +kernel
theorem dX9_readStatement_126 : decode cX9_readStatement 126 = .ok (.getfield 125, 3) := by decide +kernel
theorem dX9_readStatement_129 : decode cX9_readStatement 129 = .ok (.iconst 2, 1) := by decide +kernel
theorem dX9_readStatement_130 : decode cX9_readStatement 130 = .ok (.iadd, 1) := by decide +kernel
theorem dX9_readStatement_131 : decode cX9_readStatement 131 = .ok (.putfield 125, 3) := by decide +kernel
theorem dX9_readStatement_134 : decode cX9_readStatement 134 = .ok (.goto (-59), 3) := by decide +kernel
theorem dX9_readStatement_137 : decode cX9_readStatement 137 = .ok (.lconst 0, 1) := by decide +kernel
theorem dX9_readStatement_138 : decode cX9_readStatement 138 = .ok (.lstore_n 1, 1) := by decide +kernel
theorem dX9_readStatement_139 : decode cX9_readStatement 139 = .ok (.aload_n 0, 1) := by decide +kernel
theorem dX9_readStatement_140 : decode cX9_readStatement 140 = .ok (.bipush 64, 2) := by decide +kernel
theorem dX9_readStatement_142 : decode cX9_readStatement 142 = .ok (.invokevirtual 134, 3) := by decide +kernel
theorem dX9_readStatement_145 : decode cX9_readStatement 145 = .ok (.ifCond .eq 39, 3) := by decide +kernel
theorem dX9_readStatement_148 : decode cX9_readStatement 148 = .ok (.aload_n 0, 1) := by decide +kernel
theorem dX9_readStatement_149 : decode cX9_readStatement 149 = .ok (.bipush 33, 2) := by decide +kernel
theorem dX9_readStatement_151 : decode cX9_readStatement 151 = .ok (.invokevirtual 134, 3) := by decide +kernel
theorem dX9_readStatement_154 : decode cX9_readStatement 154 = .ok (.istore_n 3, 1) := by decide +kernel
theorem dX9_readStatement_155 : decode cX9_readStatement 155 = .ok (.aload_n 0, 1) := by decide +kernel
theorem dX9_readStatement_156 : decode cX9_readStatement 156 = .ok (.bipush 112, 2) := by decide +kernel
theorem dX9_readStatement_158 : decode cX9_readStatement 158 = .ok (.invokevirtual 181, 3) := by decide +kernel
theorem dX9_readStatement_161 : decode cX9_readStatement 161 = .ok (.ifCond .ne 5, 3) := by decide +kernel
theorem dX9_readStatement_164 : decode cX9_readStatement 164 = .ok (.iconst 0, 1) := by decide +kernel
theorem dX9_readStatement_165 : decode cX9_readStatement 165 = .ok (.ireturn, 1) := by decide +kernel
theorem dX9_readStatement_166 : decode cX9_readStatement 166 = .ok (.iload_n 3, 1) := by decide +kernel
theorem dX9_readStatement_167 : decode cX9_readStatement 167 = .ok (.ifCond .eq 8, 3) := by decide +kernel
theorem dX9_readStatement_170 : decode cX9_readStatement 170 = .ok (.bipush 12, 2) := by decide +kernel
theorem dX9_readStatement_172 : decode cX9_readStatement 172 = .ok (.goto 5, 3) := by decide +kernel
theorem dX9_readStatement_175 : decode cX9_readStatement 175 = .ok (.bipush 8, 2) := by decide +kernel
theorem dX9_readStatement_177 : decode cX9_readStatement 177 = .ok (.aload_n 0, 1) := by decide +kernel
theorem dX9_readStatement_178 : decode cX9_readStatement 178 = .ok (.getfield 152, 3) := by decide +kernel
theorem dX9_readStatement_181 : decode cX9_readStatement 181 = .ok (.iadd, 1) := by decide +kernel
theorem dX9_readStatement_182 : decode cX9_readStatement 182 = .ok (.i2l, 1) := by decide +kernel
theorem dX9_readStatement_183 : decode cX9_readStatement 183 = .ok (.lstore_n 1, 1) := by decide +kernel
theorem dX9_readStatement_184 : decode cX9_readStatement 184 = .ok (.lload_n 1, 1) := by decide +kernel
theorem dX9_readStatement_185 : decode cX9_readStatement 185 = .ok (.lconst 0, 1) := by decide +kernel
theorem dX9_readStatement_186 : decode cX9_readStatement 186 = .ok (.lcmp, 1) := by decide +kernel
theorem dX9_readStatement_187 : decode cX9_readStatement 187 = .ok (.ifCond .ne 23, 3) := by decide +kernel
theorem dX9_readStatement_190 : decode cX9_readStatement 190 = .ok (.aload_n 0, 1) := by decide +kernel
theorem dX9_readStatement_191 : decode cX9_readStatement 191 = .ok (.getfield 13, 3) := by decide +kernel
theorem dX9_readStatement_194 : decode cX9_readStatement 194 = .ok (.aload_n 0, 1) := by decide +kernel
theorem dX9_readStatement_195 : decode cX9_readStatement 195 = .ok (.getfield 125, 3) := by decide +kernel
theorem dX9_readStatement_198 : decode cX9_readStatement 198 = .ok (.iaload, 1) := by decide +kernel
theorem dX9_readStatement_199 : decode cX9_readStatement 199 = .ok (.iconst 1, 1) := by decide +kernel
theorem dX9_readStatement_200 : decode cX9_readStatement 200 = .ok (.if_icmp .eq 10, 3) := by decide +kernel
theorem dX9_readStatement_203 : decode cX9_readStatement 203 = .ok (.aload_n 0, 1) := by decide +kernel
theorem dX9_readStatement_204 : decode cX9_readStatement 204 = .ok (.bipush 59, 2) := by decide +kernel
theorem dX9_readStatement_206 : decode cX9_readStatement 206 = .ok (.invokevirtual 191, 3) := by decide +kernel
theorem dX9_readStatement_209 : decode cX9_readStatement 209 = .ok (.ireturn, 1) := by decide +kernel
theorem dX9_readStatement_210 : decode cX9_readStatement 210 = .ok (.aload_n 0, 1) := by decide +kernel
theorem dX9_readStatement_211 : decode cX9_readStatement 211 = .ok (.getfield 13, 3) := by decide +kernel
theorem dX9_readStatement_214 : decode cX9_readStatement 214 = .ok (.aload_n 0, 1) := by decide +kernel
theorem dX9_readStatement_215 : decode cX9_readStatement 215 = .ok (.getfield 125, 3) := by decide +kernel
theorem dX9_readStatement_218 : decode cX9_readStatement 218 = .ok (.iaload, 1) := by decide +kernel
theorem dX9_readStatement_219 : decode cX9_readStatement 219 = .ok (.iconst 1, 1) := by decide +kernel
theorem dX9_readStatement_220 : decode cX9_readStatement 220 = .ok (.if_icmp .eq 8, 3) := by decide +kernel
theorem dX9_readStatement_223 : decode cX9_readStatement 223 = .ok (.aload_n 0, 1) := by decide +kernel
theorem dX9_readStatement_224 : decode cX9_readStatement 224 = .ok (.invokevirtual 137, 3) := by decide +kernel
theorem dX9_readStatement_227 : decode cX9_readStatement 227 = .ok (.ireturn, 1) := by decide +kernel
theorem dX9_readStatement_228 : decode cX9_readStatement 228 = .ok (.aload_n 0, 1) := by decide +kernel
theorem dX9_readStatement_229 : decode cX9_readStatement 229 = .ok (.getfield 19, 3) := by decide +kernel
theorem dX9_readStatement_232 : decode cX9_readStatement 232 = .ok (.aload_n 0, 1) := by decide +kernel
theorem dX9_readStatement_233 : decode cX9_readStatement 233 = .ok (.getfield 125, 3) := by decide +kernel
theorem dX9_readStatement_236 : decode cX9_readStatement 236 = .ok (.laload, 1) := by decide +kernel
theorem dX9_readStatement_237 : decode cX9_readStatement 237 = .ok (.invokestatic 217, 3) := by decide +kernel
theorem dX9_readStatement_240 : decode cX9_readStatement 240 = .ok (.istore_n 3, 1) := by decide +kernel
theorem dX9_readStatement_241 : decode cX9_readStatement 241 = .ok (.iload_n 3, 1) := by decide +kernel
theorem dX9_readStatement_242 : decode cX9_readStatement 242 = .ok (.iconst (-1), 1) := by decide +kernel
theorem dX9_readStatement_243 : decode cX9_readStatement 243 = .ok (.if_icmp .ne 36, 3) := by decide +kernel
theorem dX9_readStatement_246 : decode cX9_readStatement 246 = .ok (.aload_n 0, 1) := by decide +kernel
theorem dX9_readStatement_247 : decode cX9_readStatement 247 = .ok (.bipush 61, 2) := by decide +kernel
theorem dX9_readStatement_249 : decode cX9_readStatement 249 = .ok (.invokevirtual 210, 3) := by decide +kernel
theorem dX9_readStatement_252 : decode cX9_readStatement 252 = .ok (.ifCond .ne 12, 3) := by decide +kernel
theorem dX9_readStatement_255 : decode cX9_readStatement 255 = .ok (.aload_n 0, 1) := by decide +kernel
theorem dX9_readStatement_256 : decode cX9_readStatement 256 = .ok (.bipush 58, 2) := by decide +kernel
theorem dX9_readStatement_258 : decode cX9_readStatement 258 = .ok (.invokevirtual 210, 3) := by decide +kernel
theorem dX9_readStatement_261 : decode cX9_readStatement 261 = .ok (.ifCond .eq 13, 3) := by decide +kernel
theorem dX9_readStatement_264 : decode cX9_readStatement 264 = .ok (.aload_n 0, 1) := by decide +kernel
theorem dX9_readStatement_265 : decode cX9_readStatement 265 = .ok (.dup, 1) := by decide +kernel
theorem dX9_readStatement_266 : decode cX9_readStatement 266 = .ok (.getfield 125, 3) := by decide +kernel
theorem dX9_readStatement_269 : decode cX9_readStatement 269 = .ok (.iconst 1, 1) := by decide +kernel
theorem dX9_readStatement_270 : decode cX9_readStatement 270 = .ok (.iadd, 1) := by decide +kernel
theorem dX9_readStatement_271 : decode cX9_readStatement 271 = .ok (.putfield 125, 3) := by decide +kernel
theorem dX9_readStatement_274 : decode cX9_readStatement 274 = .ok (.aload_n 0, 1) := by decide +kernel
theorem dX9_readStatement_275 : decode cX9_readStatement 275 = .ok (.invokevirtual 137, 3) := by decide +kernel
theorem dX9_readStatement_278 : decode cX9_readStatement 278 = .ok (.ireturn, 1) := by decide +kernel
theorem dX9_readStatement_279 : decode cX9_readStatement 279 = .ok (.aload_n 0, 1) := by decide +kernel
theorem dX9_readStatement_280 : decode cX9_readStatement 280 = .ok (.iload_n 3, 1) := by decide +kernel
theorem dX9_readStatement_281 : decode cX9_readStatement 281 = .ok (.lload_n 1, 1) := by decide +kernel
theorem dX9_readStatement_282 : decode cX9_readStatement 282 = .ok (.invokevirtual 221, 3) := by decide +kernel
theorem dX9_readStatement_285 : decode cX9_readStatement 285 = .ok (.ifCond .eq 16, 3) := by decide +kernel
theorem dX9_readStatement_288 : decode cX9_readStatement 288 = .ok (.aload_n 0, 1) := by decide +kernel
theorem dX9_readStatement_289 : decode cX9_readStatement 289 = .ok (.bipush 59, 2) := by decide +kernel
theorem dX9_readStatement_291 : decode cX9_readStatement 291 = .ok (.invokevirtual 191, 3) := by decide +kernel
theorem dX9_readStatement_294 : decode cX9_readStatement 294 = .ok (.ifCond .eq 7, 3) := by decide +kernel
theorem dX9_readStatement_297 : decode cX9_readStatement 297 = .ok (.iconst 1, 1) := by decide +kernel
theorem dX9_readStatement_298 : decode cX9_readStatement 298 = .ok (.goto 4, 3) := by decide +kernel
theorem dX9_readStatement_301 : decode cX9_readStatement 301 = .ok (.iconst 0, 1) := by decide +kernel
theorem dX9_readStatement_302 : decode cX9_readStatement 302 = .ok (.ireturn, 1) := by decide +kernel
theorem dX9_resolve_0 : decode cX9_resolve 0 = .ok (.iconst 0, 1) := by decide +kernel
theorem dX9_resolve_1 : decode cX9_resolve 1 = .ok (.istore_n 1, 1) := by decide +kernel
theorem dX9_resolve_2 : decode cX9_resolve 2 = .ok (.iload_n 1, 1) := by decide +kernel
theorem dX9_resolve_3 : decode cX9_resolve 3 = .ok (.aload_n 0, 1) := by decide +kernel
theorem dX9_resolve_4 : decode cX9_resolve 4 = .ok (.getfield 173, 3) := by decide +kernel
theorem dX9_resolve_7 : decode cX9_resolve 7 = .ok (.if_icmp .ge 130, 3) := by decide +kernel
theorem dX9_resolve_10 : decode cX9_resolve 10 = .ok (.aload_n 0, 1) := by decide +kernel
theorem dX9_resolve_11 : decode cX9_resolve 11 = .ok (.iconst 1, 1) := by decide +kernel
theorem dX9_resolve_12 : decode cX9_resolve 12 = .ok (.aload_n 0, 1) := by decide +kernel
theorem dX9_resolve_13 : decode cX9_resolve 13 = .ok (.getfield 141, 3) := by decide +kernel
theorem dX9_resolve_16 : decode cX9_resolve 16 = .ok (.isub, 1) := by decide +kernel
theorem dX9_resolve_17 : decode cX9_resolve 17 = .ok (.aload_n 0, 1) := by decide +kernel
theorem dX9_resolve_18 : decode cX9_resolve 18 = .ok (.getfield 41, 3) := by decide +kernel
theorem dX9_resolve_21 : decode cX9_resolve 21 = .ok (.iload_n 1, 1) := by decide +kernel
theorem dX9_resolve_22 : decode cX9_resolve 22 = .ok (.laload, 1) := by decide +kernel
theorem dX9_resolve_23 : decode cX9_resolve 23 = .ok (.invokevirtual 144, 3) := by decide +kernel
theorem dX9_resolve_26 : decode cX9_resolve 26 = .ok (.istore_n 2, 1) := by decide +kernel
theorem dX9_resolve_27 : decode cX9_resolve 27 = .ok (.iload_n 2, 1) := by decide +kernel
theorem dX9_resolve_28 : decode cX9_resolve 28 = .ok (.iconst (-1), 1) := by decide +kernel
theorem dX9_resolve_29 : decode cX9_resolve 29 = .ok (.if_icmp .ne 17, 3) := by decide +kernel
theorem dX9_resolve_32 : decode cX9_resolve 32 = .ok (.aload_n 0, 1) := by decide +kernel
theorem dX9_resolve_33 : decode cX9_resolve 33 = .ok (.iconst 2, 1) := by decide +kernel
theorem dX9_resolve_34 : decode cX9_resolve 34 = .ok (.aload_n 0, 1) := by decide +kernel
theorem dX9_resolve_35 : decode cX9_resolve 35 = .ok (.getfield 44, 3) := by decide +kernel
theorem dX9_resolve_38 : decode cX9_resolve 38 = .ok (.iload_n 1, 1) := by decide +kernel
theorem dX9_resolve_39 : decode cX9_resolve 39 = .ok (.iaload, 1) := by decide +kernel
theorem dX9_resolve_40 : decode cX9_resolve 40 = .ok (.invokevirtual 148, 3) := by decide +kernel
theorem dX9_resolve_43 : decode cX9_resolve 43 = .ok (.goto 88, 3) := by decide +kernel
theorem dX9_resolve_46 : decode cX9_resolve 46 = .ok (.aload_n 0, 1) := by decide +kernel
theorem dX9_resolve_47 : decode cX9_resolve 47 = .ok (.getfield 50, 3) := by decide +kernel
theorem dX9_resolve_50 : decode cX9_resolve 50 = .ok (.iload_n 1, 1) := by decide +kernel
theorem dX9_resolve_51 : decode cX9_resolve 51 = .ok (.baload, 1) := by decide +kernel
theorem dX9_resolve_52 : decode cX9_resolve 52 = .ok (.ifCond .eq 13, 3) := by decide +kernel
theorem dX9_resolve_55 : decode cX9_resolve 55 = .ok (.aload_n 0, 1) := by decide +kernel
theorem dX9_resolve_56 : decode cX9_resolve 56 = .ok (.getfield 35, 3) := by decide +kernel
theorem dX9_resolve_59 : decode cX9_resolve 59 = .ok (.iload_n 2, 1) := by decide +kernel
theorem dX9_resolve_60 : decode cX9_resolve 60 = .ok (.laload, 1) := by decide +kernel
theorem dX9_resolve_61 : decode cX9_resolve 61 = .ok (.lneg, 1) := by decide +kernel
theorem dX9_resolve_62 : decode cX9_resolve 62 = .ok (.goto 9, 3) := by decide +kernel
theorem dX9_resolve_65 : decode cX9_resolve 65 = .ok (.aload_n 0, 1) := by decide +kernel
theorem dX9_resolve_66 : decode cX9_resolve 66 = .ok (.getfield 35, 3) := by decide +kernel
theorem dX9_resolve_69 : decode cX9_resolve 69 = .ok (.iload_n 2, 1) := by decide +kernel
theorem dX9_resolve_70 : decode cX9_resolve 70 = .ok (.laload, 1) := by decide +kernel
theorem dX9_resolve_71 : decode cX9_resolve 71 = .ok (.lstore_n 3, 1) := by decide +kernel
theorem dX9_resolve_72 : decode cX9_resolve 72 = .ok (.lload_n 3, 1) := by decide +kernel
theorem dX9_resolve_73 : decode cX9_resolve 73 = .ok (.invokestatic 167, 3) := by decide +kernel
theorem dX9_resolve_76 : decode cX9_resolve 76 = .ok (.ifCond .eq 26, 3) := by decide +kernel
theorem dX9_resolve_79 : decode cX9_resolve 79 = .ok (.aload_n 0, 1) := by decide +kernel
theorem dX9_resolve_80 : decode cX9_resolve 80 = .ok (.getfield 54, 3) := by decide +kernel
theorem dX9_resolve_83 : decode cX9_resolve 83 = .ok (.iload_n 1, 1) := by decide +kernel
theorem dX9_resolve_84 : decode cX9_resolve 84 = .ok (.baload, 1) := by decide +kernel
theorem dX9_resolve_85 : decode cX9_resolve 85 = .ok (.ifCond .eq 28, 3) := by decide +kernel
theorem dX9_resolve_88 : decode cX9_resolve 88 = .ok (.lload_n 3, 1) := by decide +kernel
theorem dX9_resolve_89 : decode cX9_resolve 89 = .ok (.lconst 0, 1) := by decide +kernel
theorem dX9_resolve_90 : decode cX9_resolve 90 = .ok (.lcmp, 1) := by decide +kernel
theorem dX9_resolve_91 : decode cX9_resolve 91 = .ok (.ifCond .lt 11, 3) := by decide +kernel
theorem dX9_resolve_94 : decode cX9_resolve 94 = .ok (.lload_n 3, 1) := by decide +kernel
theorem dX9_resolve_95 : decode cX9_resolve 95 = .ok (.ldc2_w 171, 3) := by decide +kernel
theorem dX9_resolve_98 : decode cX9_resolve 98 = .ok (.lcmp, 1) := by decide +kernel
theorem dX9_resolve_99 : decode cX9_resolve 99 = .ok (.ifCond .le 14, 3) := by decide +kernel
theorem dX9_resolve_102 : decode cX9_resolve 102 = .ok (.aload_n 0, 1) := by decide +kernel
theorem dX9_resolve_103 : decode cX9_resolve 103 = .ok (.iconst 3, 1) := by decide +kernel
theorem dX9_resolve_104 : decode cX9_resolve 104 = .ok (.aload_n 0, 1) := by decide +kernel
theorem dX9_resolve_105 : decode cX9_resolve 105 = .ok (.getfield 47, 3) := by decide +kernel
theorem dX9_resolve_108 : decode cX9_resolve 108 = .ok (.iload_n 1, 1) := by decide +kernel
theorem dX9_resolve_109 : decode cX9_resolve 109 = .ok (.iaload, 1) := by decide +kernel
theorem dX9_resolve_110 : decode cX9_resolve 110 = .ok (.invokevirtual 148, 3) := by decide +kernel
theorem dX9_resolve_113 : decode cX9_resolve 113 = .ok (.aload_n 0, 1) := by decide +kernel
theorem dX9_resolve_114 : decode cX9_resolve 114 = .ok (.getfield 26, 3) := by decide +kernel
theorem dX9_resolve_117 : decode cX9_resolve 117 = .ok (.aload_n 0, 1) := by decide +kernel
theorem dX9_resolve_118 : decode cX9_resolve 118 = .ok (.getfield 38, 3) := by decide +kernel
theorem dX9_resolve_121 : decode cX9_resolve 121 = .ok (.iload_n 1, 1) := by decide +kernel
theorem dX9_resolve_122 : decode cX9_resolve 122 = .ok (.iaload, 1) := by decide +kernel
theorem dX9_resolve_123 : decode cX9_resolve 123 = .ok (.dup2, 1) := by decide +kernel
theorem dX9_resolve_124 : decode cX9_resolve 124 = .ok (.laload, 1) := by decide +kernel
theorem dX9_resolve_125 : decode cX9_resolve 125 = .ok (.lload_n 3, 1) := by decide +kernel
theorem dX9_resolve_126 : decode cX9_resolve 126 = .ok (.invokestatic 187, 3) := by decide +kernel
theorem dX9_resolve_129 : decode cX9_resolve 129 = .ok (.lor, 1) := by decide +kernel
theorem dX9_resolve_130 : decode cX9_resolve 130 = .ok (.lastore, 1) := by decide +kernel
theorem dX9_resolve_131 : decode cX9_resolve 131 = .ok (.iinc 1 1, 3) := by decide +kernel
theorem dX9_resolve_134 : decode cX9_resolve 134 = .ok (.goto (-132), 3) := by decide +kernel
theorem dX9_resolve_137 : decode cX9_resolve 137 = .ok (.return_, 1) := by decide +kernel
theorem dX9_compile_0 : decode cX9_compile 0 = .ok (.aload_n 0, 1) := by decide +kernel
theorem dX9_compile_1 : decode cX9_compile 1 = .ok (.iconst 0, 1) := by decide +kernel
theorem dX9_compile_2 : decode cX9_compile 2 = .ok (.putfield 122, 3) := by decide +kernel
theorem dX9_compile_5 : decode cX9_compile 5 = .ok (.aload_n 0, 1) := by decide +kernel
theorem dX9_compile_6 : decode cX9_compile 6 = .ok (.iconst 0, 1) := by decide +kernel
theorem dX9_compile_7 : decode cX9_compile 7 = .ok (.putfield 128, 3) := by decide +kernel
theorem dX9_compile_10 : decode cX9_compile 10 = .ok (.aload_n 0, 1) := by decide +kernel
theorem dX9_compile_11 : decode cX9_compile 11 = .ok (.invokevirtual 225, 3) := by decide +kernel
theorem dX9_compile_14 : decode cX9_compile 14 = .ok (.aload_n 0, 1) := by decide +kernel
theorem dX9_compile_15 : decode cX9_compile 15 = .ok (.iconst 0, 1) := by decide +kernel
theorem dX9_compile_16 : decode cX9_compile 16 = .ok (.putfield 67, 3) := by decide +kernel
theorem dX9_compile_19 : decode cX9_compile 19 = .ok (.aload_n 0, 1) := by decide +kernel
theorem dX9_compile_20 : decode cX9_compile 20 = .ok (.iconst 0, 1) := by decide +kernel
theorem dX9_compile_21 : decode cX9_compile 21 = .ok (.putfield 125, 3) := by decide +kernel
theorem dX9_compile_24 : decode cX9_compile 24 = .ok (.aload_n 0, 1) := by decide +kernel
theorem dX9_compile_25 : decode cX9_compile 25 = .ok (.iconst 0, 1) := by decide +kernel
theorem dX9_compile_26 : decode cX9_compile 26 = .ok (.putfield 176, 3) := by decide +kernel
theorem dX9_compile_29 : decode cX9_compile 29 = .ok (.aload_n 0, 1) := by decide +kernel
theorem dX9_compile_30 : decode cX9_compile 30 = .ok (.iconst 0, 1) := by decide +kernel
theorem dX9_compile_31 : decode cX9_compile 31 = .ok (.putfield 173, 3) := by decide +kernel
theorem dX9_compile_34 : decode cX9_compile 34 = .ok (.aload_n 0, 1) := by decide +kernel
theorem dX9_compile_35 : decode cX9_compile 35 = .ok (.getfield 29, 3) := by decide +kernel
theorem dX9_compile_38 : decode cX9_compile 38 = .ok (.iconst 1, 1) := by decide +kernel
theorem dX9_compile_39 : decode cX9_compile 39 = .ok (.aload_n 0, 1) := by decide +kernel
theorem dX9_compile_40 : decode cX9_compile 40 = .ok (.getfield 141, 3) := by decide +kernel
theorem dX9_compile_43 : decode cX9_compile 43 = .ok (.isub, 1) := by decide +kernel
theorem dX9_compile_44 : decode cX9_compile 44 = .ok (.iconst 0, 1) := by decide +kernel
theorem dX9_compile_45 : decode cX9_compile 45 = .ok (.iastore, 1) := by decide +kernel
theorem dX9_compile_46 : decode cX9_compile 46 = .ok (.iconst 1, 1) := by decide +kernel
theorem dX9_compile_47 : decode cX9_compile 47 = .ok (.istore_n 1, 1) := by decide +kernel
theorem dX9_compile_48 : decode cX9_compile 48 = .ok (.iload_n 1, 1) := by decide +kernel
theorem dX9_compile_49 : decode cX9_compile 49 = .ok (.ifCond .eq 23, 3) := by decide +kernel
theorem dX9_compile_52 : decode cX9_compile 52 = .ok (.aload_n 0, 1) := by decide +kernel
theorem dX9_compile_53 : decode cX9_compile 53 = .ok (.getfield 13, 3) := by decide +kernel
theorem dX9_compile_56 : decode cX9_compile 56 = .ok (.aload_n 0, 1) := by decide +kernel
theorem dX9_compile_57 : decode cX9_compile 57 = .ok (.getfield 125, 3) := by decide +kernel
theorem dX9_compile_60 : decode cX9_compile 60 = .ok (.iaload, 1) := by decide +kernel
theorem dX9_compile_61 : decode cX9_compile 61 = .ok (.ifCond .eq 11, 3) := by decide +kernel
theorem dX9_compile_64 : decode cX9_compile 64 = .ok (.aload_n 0, 1) := by decide +kernel
theorem dX9_compile_65 : decode cX9_compile 65 = .ok (.invokevirtual 228, 3) := by decide +kernel
theorem dX9_compile_68 : decode cX9_compile 68 = .ok (.istore_n 1, 1) := by decide +kernel
theorem dX9_compile_69 : decode cX9_compile 69 = .ok (.goto (-21), 3) := by decide +kernel
theorem dX9_compile_72 : decode cX9_compile 72 = .ok (.iload_n 1, 1) := by decide +kernel
theorem dX9_compile_73 : decode cX9_compile 73 = .ok (.ifCond .eq 7, 3) := by decide +kernel
theorem dX9_compile_76 : decode cX9_compile 76 = .ok (.aload_n 0, 1) := by decide +kernel
theorem dX9_compile_77 : decode cX9_compile 77 = .ok (.invokevirtual 231, 3) := by decide +kernel
theorem dX9_compile_80 : decode cX9_compile 80 = .ok (.aload_n 0, 1) := by decide +kernel
theorem dX9_compile_81 : decode cX9_compile 81 = .ok (.getfield 122, 3) := by decide +kernel
theorem dX9_compile_84 : decode cX9_compile 84 = .ok (.ifCond .eq 9, 3) := by decide +kernel
theorem dX9_compile_87 : decode cX9_compile 87 = .ok (.aload_n 0, 1) := by decide +kernel
theorem dX9_compile_88 : decode cX9_compile 88 = .ok (.iconst 1, 1) := by decide +kernel
theorem dX9_compile_89 : decode cX9_compile 89 = .ok (.invokevirtual 234, 3) := by decide +kernel
theorem dX9_compile_92 : decode cX9_compile 92 = .ok (.ireturn, 1) := by decide +kernel
theorem dX9_compile_93 : decode cX9_compile 93 = .ok (.aload_n 0, 1) := by decide +kernel
theorem dX9_compile_94 : decode cX9_compile 94 = .ok (.iconst 0, 1) := by decide +kernel
theorem dX9_compile_95 : decode cX9_compile 95 = .ok (.putfield 63, 3) := by decide +kernel
theorem dX9_compile_98 : decode cX9_compile 98 = .ok (.aload_n 0, 1) := by decide +kernel
theorem dX9_compile_99 : decode cX9_compile 99 = .ok (.iconst 1, 1) := by decide +kernel
theorem dX9_compile_100 : decode cX9_compile 100 = .ok (.aload_n 0, 1) := by decide +kernel
theorem dX9_compile_101 : decode cX9_compile 101 = .ok (.getfield 141, 3) := by decide +kernel
theorem dX9_compile_104 : decode cX9_compile 104 = .ok (.isub, 1) := by decide +kernel
theorem dX9_compile_105 : decode cX9_compile 105 = .ok (.putfield 141, 3) := by decide +kernel
theorem dX9_compile_108 : decode cX9_compile 108 = .ok (.aload_n 0, 1) := by decide +kernel
theorem dX9_compile_109 : decode cX9_compile 109 = .ok (.aload_n 0, 1) := by decide +kernel
theorem dX9_compile_110 : decode cX9_compile 110 = .ok (.getfield 176, 3) := by decide +kernel
theorem dX9_compile_113 : decode cX9_compile 113 = .ok (.putfield 237, 3) := by decide +kernel
theorem dX9_compile_116 : decode cX9_compile 116 = .ok (.iconst 0, 1) := by decide +kernel
theorem dX9_compile_117 : decode cX9_compile 117 = .ok (.istore_n 2, 1) := by decide +kernel
theorem dX9_compile_118 : decode cX9_compile 118 = .ok (.iload_n 2, 1) := by decide +kernel
theorem dX9_compile_119 : decode cX9_compile 119 = .ok (.aload_n 0, 1) := by decide +kernel
theorem dX9_compile_120 : decode cX9_compile 120 = .ok (.getfield 237, 3) := by decide +kernel
theorem dX9_compile_123 : decode cX9_compile 123 = .ok (.if_icmp .ge 21, 3) := by decide +kernel
theorem dX9_compile_126 : decode cX9_compile 126 = .ok (.aload_n 0, 1) := by decide +kernel
theorem dX9_compile_127 : decode cX9_compile 127 = .ok (.getfield 23, 3) := by decide +kernel
theorem dX9_compile_130 : decode cX9_compile 130 = .ok (.iload_n 2, 1) := by decide +kernel
theorem dX9_compile_131 : decode cX9_compile 131 = .ok (.aload_n 0, 1) := by decide +kernel
theorem dX9_compile_132 : decode cX9_compile 132 = .ok (.getfield 26, 3) := by decide +kernel
theorem dX9_compile_135 : decode cX9_compile 135 = .ok (.iload_n 2, 1) := by decide +kernel
theorem dX9_compile_136 : decode cX9_compile 136 = .ok (.laload, 1) := by decide +kernel
theorem dX9_compile_137 : decode cX9_compile 137 = .ok (.lastore, 1) := by decide +kernel
theorem dX9_compile_138 : decode cX9_compile 138 = .ok (.iinc 2 1, 3) := by decide +kernel
theorem dX9_compile_141 : decode cX9_compile 141 = .ok (.goto (-23), 3) := by decide +kernel
theorem dX9_compile_144 : decode cX9_compile 144 = .ok (.aload_n 0, 1) := by decide +kernel
theorem dX9_compile_145 : decode cX9_compile 145 = .ok (.getfield 237, 3) := by decide +kernel
theorem dX9_compile_148 : decode cX9_compile 148 = .ok (.ireturn, 1) := by decide +kernel
theorem dX9_fault_0 : decode cX9_fault 0 = .ok (.aload_n 0, 1) := by decide +kernel
theorem dX9_fault_1 : decode cX9_fault 1 = .ok (.iconst 0, 1) := by decide +kernel
theorem dX9_fault_2 : decode cX9_fault 2 = .ok (.putfield 63, 3) := by decide +kernel
theorem dX9_fault_5 : decode cX9_fault 5 = .ok (.iload_n 1, 1) := by decide +kernel
theorem dX9_fault_6 : decode cX9_fault 6 = .ok (.ifCond .ne 10, 3) := by decide +kernel
theorem dX9_fault_9 : decode cX9_fault 9 = .ok (.aload_n 0, 1) := by decide +kernel
theorem dX9_fault_10 : decode cX9_fault 10 = .ok (.getfield 122, 3) := by decide +kernel
theorem dX9_fault_13 : decode cX9_fault 13 = .ok (.goto 16, 3) := by decide +kernel
theorem dX9_fault_16 : decode cX9_fault 16 = .ok (.iload_n 1, 1) := by decide +kernel
theorem dX9_fault_17 : decode cX9_fault 17 = .ok (.iconst 1, 1) := by decide +kernel
theorem dX9_fault_18 : decode cX9_fault 18 = .ok (.if_icmp .ne 10, 3) := by decide +kernel
theorem dX9_fault_21 : decode cX9_fault 21 = .ok (.aload_n 0, 1) := by decide +kernel
theorem dX9_fault_22 : decode cX9_fault 22 = .ok (.getfield 128, 3) := by decide +kernel
theorem dX9_fault_25 : decode cX9_fault 25 = .ok (.goto 4, 3) := by decide +kernel
theorem dX9_fault_28 : decode cX9_fault 28 = .ok (.iconst (-1), 1) := by decide +kernel
theorem dX9_fault_29 : decode cX9_fault 29 = .ok (.ireturn, 1) := by decide +kernel
theorem dX9_d_0 : decode cX9_d 0 = .ok (.lload_n 0, 1) := by decide +kernel
theorem dX9_d_1 : decode cX9_d 1 = .ok (.bipush 8, 2) := by decide +kernel
theorem dX9_d_3 : decode cX9_d 3 = .ok (.lshr, 1) := by decide +kernel
theorem dX9_d_4 : decode cX9_d 4 = .ok (.ldc2_w 240, 3) := by decide +kernel
theorem dX9_d_7 : decode cX9_d 7 = .ok (.land, 1) := by decide +kernel
theorem dX9_d_8 : decode cX9_d 8 = .ok (.l2i, 1) := by decide +kernel
theorem dX9_d_9 : decode cX9_d 9 = .ok (.ireturn, 1) := by decide +kernel
theorem dX9_a_0 : decode cX9_a 0 = .ok (.lload_n 0, 1) := by decide +kernel
theorem dX9_a_1 : decode cX9_a 1 = .ok (.bipush 12, 2) := by decide +kernel
theorem dX9_a_3 : decode cX9_a 3 = .ok (.lshr, 1) := by decide +kernel
theorem dX9_a_4 : decode cX9_a 4 = .ok (.ldc2_w 240, 3) := by decide +kernel
theorem dX9_a_7 : decode cX9_a 7 = .ok (.land, 1) := by decide +kernel
theorem dX9_a_8 : decode cX9_a 8 = .ok (.l2i, 1) := by decide +kernel
theorem dX9_a_9 : decode cX9_a 9 = .ok (.ireturn, 1) := by decide +kernel
theorem dX9_b_0 : decode cX9_b 0 = .ok (.lload_n 0, 1) := by decide +kernel
theorem dX9_b_1 : decode cX9_b 1 = .ok (.bipush 16, 2) := by decide +kernel
theorem dX9_b_3 : decode cX9_b 3 = .ok (.lshr, 1) := by decide +kernel
theorem dX9_b_4 : decode cX9_b 4 = .ok (.ldc2_w 240, 3) := by decide +kernel
theorem dX9_b_7 : decode cX9_b 7 = .ok (.land, 1) := by decide +kernel
theorem dX9_b_8 : decode cX9_b 8 = .ok (.l2i, 1) := by decide +kernel
theorem dX9_b_9 : decode cX9_b 9 = .ok (.ireturn, 1) := by decide +kernel
theorem dX9_g_0 : decode cX9_g 0 = .ok (.lload_n 0, 1) := by decide +kernel
theorem dX9_g_1 : decode cX9_g 1 = .ok (.bipush 20, 2) := by decide +kernel
theorem dX9_g_3 : decode cX9_g 3 = .ok (.lshr, 1) := by decide +kernel
theorem dX9_g_4 : decode cX9_g 4 = .ok (.ldc2_w 240, 3) := by decide +kernel
theorem dX9_g_7 : decode cX9_g 7 = .ok (.land, 1) := by decide +kernel
theorem dX9_g_8 : decode cX9_g 8 = .ok (.l2i, 1) := by decide +kernel
theorem dX9_g_9 : decode cX9_g 9 = .ok (.ireturn, 1) := by decide +kernel
theorem dX9_n_0 : decode cX9_n 0 = .ok (.lload_n 0, 1) := by decide +kernel
theorem dX9_n_1 : decode cX9_n 1 = .ok (.bipush 32, 2) := by decide +kernel
theorem dX9_n_3 : decode cX9_n 3 = .ok (.lshr, 1) := by decide +kernel
theorem dX9_n_4 : decode cX9_n 4 = .ok (.l2i, 1) := by decide +kernel
theorem dX9_n_5 : decode cX9_n 5 = .ok (.ireturn, 1) := by decide +kernel
theorem dX9_op_0 : decode cX9_op 0 = .ok (.lload_n 0, 1) := by decide +kernel
theorem dX9_op_1 : decode cX9_op 1 = .ok (.ldc2_w 70, 3) := by decide +kernel
theorem dX9_op_4 : decode cX9_op 4 = .ok (.land, 1) := by decide +kernel
theorem dX9_op_5 : decode cX9_op 5 = .ok (.l2i, 1) := by decide +kernel
theorem dX9_op_6 : decode cX9_op 6 = .ok (.ireturn, 1) := by decide +kernel
theorem dX9_fits_0 : decode cX9_fits 0 = .ok (.iload_n 0, 1) := by decide +kernel
theorem dX9_fits_1 : decode cX9_fits 1 = .ok (.invokestatic 201, 3) := by decide +kernel
theorem dX9_fits_4 : decode cX9_fits 4 = .ok (.lload_n 1, 1) := by decide +kernel
theorem dX9_fits_5 : decode cX9_fits 5 = .ok (.invokestatic 242, 3) := by decide +kernel
theorem dX9_fits_8 : decode cX9_fits 8 = .ok (.if_icmp .ne 32, 3) := by decide +kernel
theorem dX9_fits_11 : decode cX9_fits 11 = .ok (.lload_n 1, 1) := by decide +kernel
theorem dX9_fits_12 : decode cX9_fits 12 = .ok (.bipush 24, 2) := by decide +kernel
theorem dX9_fits_14 : decode cX9_fits 14 = .ok (.lshr, 1) := by decide +kernel
theorem dX9_fits_15 : decode cX9_fits 15 = .ok (.ldc2_w 70, 3) := by decide +kernel
theorem dX9_fits_18 : decode cX9_fits 18 = .ok (.land, 1) := by decide +kernel
theorem dX9_fits_19 : decode cX9_fits 19 = .ok (.lconst 0, 1) := by decide +kernel
theorem dX9_fits_20 : decode cX9_fits 20 = .ok (.lcmp, 1) := by decide +kernel
theorem dX9_fits_21 : decode cX9_fits 21 = .ok (.ifCond .ne 19, 3) := by decide +kernel
theorem dX9_fits_24 : decode cX9_fits 24 = .ok (.lload_n 1, 1) := by decide +kernel
theorem dX9_fits_25 : decode cX9_fits 25 = .ok (.invokestatic 245, 3) := by decide +kernel
theorem dX9_fits_28 : decode cX9_fits 28 = .ok (.ifCond .le 14, 3) := by decide +kernel
theorem dX9_fits_31 : decode cX9_fits 31 = .ok (.lload_n 1, 1) := by decide +kernel
theorem dX9_fits_32 : decode cX9_fits 32 = .ok (.invokestatic 245, 3) := by decide +kernel
theorem dX9_fits_35 : decode cX9_fits 35 = .ok (.bipush 8, 2) := by decide +kernel
theorem dX9_fits_37 : decode cX9_fits 37 = .ok (.if_icmp .ge 5, 3) := by decide +kernel
theorem dX9_fits_40 : decode cX9_fits 40 = .ok (.iconst 0, 1) := by decide +kernel
theorem dX9_fits_41 : decode cX9_fits 41 = .ok (.ireturn, 1) := by decide +kernel
theorem dX9_fits_42 : decode cX9_fits 42 = .ok (.iconst 0, 1) := by decide +kernel
theorem dX9_fits_43 : decode cX9_fits 43 = .ok (.istore_n 3, 1) := by decide +kernel
theorem dX9_fits_44 : decode cX9_fits 44 = .ok (.iconst 0, 1) := by decide +kernel
theorem dX9_fits_45 : decode cX9_fits 45 = .ok (.istore 4, 2) := by decide +kernel
theorem dX9_fits_47 : decode cX9_fits 47 = .ok (.iconst 0, 1) := by decide +kernel
theorem dX9_fits_48 : decode cX9_fits 48 = .ok (.istore 5, 2) := by decide +kernel
theorem dX9_fits_50 : decode cX9_fits 50 = .ok (.iload_n 0, 1) := by decide +kernel
theorem dX9_fits_51 : decode cX9_fits 51 = .ok (.invokestatic 204, 3) := by decide +kernel
theorem dX9_fits_54 : decode cX9_fits 54 = .ok (.istore 6, 2) := by decide +kernel
theorem dX9_fits_56 : decode cX9_fits 56 = .ok (.iload_n 0, 1) := by decide +kernel
theorem dX9_fits_57 : decode cX9_fits 57 = .ok (.invokestatic 204, 3) := by decide +kernel
theorem dX9_fits_60 : decode cX9_fits 60 = .ok (.ifCond .eq 16, 3) := by decide +kernel
theorem dX9_fits_63 : decode cX9_fits 63 = .ok (.lload_n 1, 1) := by decide +kernel
theorem dX9_fits_64 : decode cX9_fits 64 = .ok (.invokestatic 248, 3) := by decide +kernel
theorem dX9_fits_67 : decode cX9_fits 67 = .ok (.iload_n 0, 1) := by decide +kernel
theorem dX9_fits_68 : decode cX9_fits 68 = .ok (.bipush 22, 2) := by decide +kernel
theorem dX9_fits_70 : decode cX9_fits 70 = .ok (.isub, 1) := by decide +kernel
theorem dX9_fits_71 : decode cX9_fits 71 = .ok (.if_icmp .eq 5, 3) := by decide +kernel
theorem dX9_fits_74 : decode cX9_fits 74 = .ok (.iconst 0, 1) := by decide +kernel
theorem dX9_fits_75 : decode cX9_fits 75 = .ok (.ireturn, 1) := by decide +kernel
theorem dX9_fits_76 : decode cX9_fits 76 = .ok (.iconst 0, 1) := by decide +kernel
theorem dX9_fits_77 : decode cX9_fits 77 = .ok (.istore 7, 2) := by decide +kernel
theorem dX9_fits_79 : decode cX9_fits 79 = .ok (.iload 7, 2) := by decide +kernel
theorem dX9_fits_81 : decode cX9_fits 81 = .ok (.iconst 4, 1) := by decide +kernel
theorem dX9_fits_82 : decode cX9_fits 82 = .ok (.if_icmp .ge 234, 3) := by decide +kernel
theorem dX9_fits_85 : decode cX9_fits 85 = .ok (.iload_n 0, 1) := by decide +kernel
theorem dX9_fits_86 : decode cX9_fits 86 = .ok (.iload 7, 2) := by decide +kernel
theorem dX9_fits_88 : decode cX9_fits 88 = .ok (.invokestatic 207, 3) := by decide +kernel
theorem dX9_fits_91 : decode cX9_fits 91 = .ok (.istore 8, 2) := by decide +kernel
theorem dX9_fits_93 : decode cX9_fits 93 = .ok (.iload_n 3, 1) := by decide +kernel
theorem dX9_fits_94 : decode cX9_fits 94 = .ok (.ifCond .ne 17, 3) := by decide +kernel
theorem dX9_fits_97 : decode cX9_fits 97 = .ok (.iload 8, 2) := by decide +kernel
theorem dX9_fits_99 : decode cX9_fits 99 = .ok (.bipush 68, 2) := by decide +kernel
theorem dX9_fits_101 : decode cX9_fits 101 = .ok (.if_icmp .eq 10, 3) := by decide +kernel
theorem dX9_fits_104 : decode cX9_fits 104 = .ok (.iload 8, 2) := by decide +kernel
theorem dX9_fits_106 : decode cX9_fits 106 = .ok (.bipush 100, 2) := by decide +kernel
theorem dX9_fits_108 : decode cX9_fits 108 = .ok (.if_icmp .ne 7, 3) := by decide +kernel
theorem dX9_fits_111 : decode cX9_fits 111 = .ok (.iconst 1, 1) := by decide +kernel
theorem dX9_fits_112 : decode cX9_fits 112 = .ok (.goto 4, 3) := by decide +kernel
theorem dX9_fits_115 : decode cX9_fits 115 = .ok (.iconst 0, 1) := by decide +kernel
theorem dX9_fits_116 : decode cX9_fits 116 = .ok (.istore_n 3, 1) := by decide +kernel
theorem dX9_fits_117 : decode cX9_fits 117 = .ok (.iload 4, 2) := by decide +kernel
theorem dX9_fits_119 : decode cX9_fits 119 = .ok (.ifCond .ne 24, 3) := by decide +kernel
theorem dX9_fits_122 : decode cX9_fits 122 = .ok (.iload 8, 2) := by decide +kernel
theorem dX9_fits_124 : decode cX9_fits 124 = .ok (.bipush 65, 2) := by decide +kernel
theorem dX9_fits_126 : decode cX9_fits 126 = .ok (.if_icmp .eq 17, 3) := by decide +kernel
theorem dX9_fits_129 : decode cX9_fits 129 = .ok (.iload 8, 2) := by decide +kernel
theorem dX9_fits_131 : decode cX9_fits 131 = .ok (.bipush 97, 2) := by decide +kernel
theorem dX9_fits_133 : decode cX9_fits 133 = .ok (.if_icmp .eq 10, 3) := by decide +kernel
theorem dX9_fits_136 : decode cX9_fits 136 = .ok (.iload 8, 2) := by decide +kernel
theorem dX9_fits_138 : decode cX9_fits 138 = .ok (.bipush 77, 2) := by decide +kernel
theorem dX9_fits_140 : decode cX9_fits 140 = .ok (.if_icmp .ne 7, 3) := by decide +kernel
theorem dX9_fits_143 : decode cX9_fits 143 = .ok (.iconst 1, 1) := by decide +kernel
theorem dX9_fits_144 : decode cX9_fits 144 = .ok (.goto 4, 3) := by decide +kernel
theorem dX9_fits_147 : decode cX9_fits 147 = .ok (.iconst 0, 1) := by decide +kernel
theorem dX9_fits_148 : decode cX9_fits 148 = .ok (.istore 4, 2) := by decide +kernel
theorem dX9_fits_150 : decode cX9_fits 150 = .ok (.iload 5, 2) := by decide +kernel
theorem dX9_fits_152 : decode cX9_fits 152 = .ok (.ifCond .ne 17, 3) := by decide +kernel
theorem dX9_fits_155 : decode cX9_fits 155 = .ok (.iload 8, 2) := by decide +kernel
theorem dX9_fits_157 : decode cX9_fits 157 = .ok (.bipush 66, 2) := by decide +kernel
theorem dX9_fits_159 : decode cX9_fits 159 = .ok (.if_icmp .eq 10, 3) := by decide +kernel
theorem dX9_fits_162 : decode cX9_fits 162 = .ok (.iload 8, 2) := by decide +kernel
theorem dX9_fits_164 : decode cX9_fits 164 = .ok (.bipush 98, 2) := by decide +kernel
theorem dX9_fits_166 : decode cX9_fits 166 = .ok (.if_icmp .ne 7, 3) := by decide +kernel
theorem dX9_fits_169 : decode cX9_fits 169 = .ok (.iconst 1, 1) := by decide +kernel
theorem dX9_fits_170 : decode cX9_fits 170 = .ok (.goto 4, 3) := by decide +kernel
theorem dX9_fits_173 : decode cX9_fits 173 = .ok (.iconst 0, 1) := by decide +kernel
theorem dX9_fits_174 : decode cX9_fits 174 = .ok (.istore 5, 2) := by decide +kernel
theorem dX9_fits_176 : decode cX9_fits 176 = .ok (.iload 6, 2) := by decide +kernel
theorem dX9_fits_178 : decode cX9_fits 178 = .ok (.ifCond .ne 31, 3) := by decide +kernel
theorem dX9_fits_181 : decode cX9_fits 181 = .ok (.iload 8, 2) := by decide +kernel
theorem dX9_fits_183 : decode cX9_fits 183 = .ok (.bipush 78, 2) := by decide +kernel
theorem dX9_fits_185 : decode cX9_fits 185 = .ok (.if_icmp .eq 24, 3) := by decide +kernel
theorem dX9_fits_188 : decode cX9_fits 188 = .ok (.iload 8, 2) := by decide +kernel
theorem dX9_fits_190 : decode cX9_fits 190 = .ok (.bipush 71, 2) := by decide +kernel
theorem dX9_fits_192 : decode cX9_fits 192 = .ok (.if_icmp .eq 17, 3) := by decide +kernel
theorem dX9_fits_195 : decode cX9_fits 195 = .ok (.iload 8, 2) := by decide +kernel
theorem dX9_fits_197 : decode cX9_fits 197 = .ok (.bipush 77, 2) := by decide +kernel
theorem dX9_fits_199 : decode cX9_fits 199 = .ok (.if_icmp .eq 10, 3) := by decide +kernel
theorem dX9_fits_202 : decode cX9_fits 202 = .ok (.iload 8, 2) := by decide +kernel
theorem dX9_fits_204 : decode cX9_fits 204 = .ok (.bipush 80, 2) := by decide +kernel
theorem dX9_fits_206 : decode cX9_fits 206 = .ok (.if_icmp .ne 7, 3) := by decide +kernel
theorem dX9_fits_209 : decode cX9_fits 209 = .ok (.iconst 1, 1) := by decide +kernel
theorem dX9_fits_210 : decode cX9_fits 210 = .ok (.goto 4, 3) := by decide +kernel
theorem dX9_fits_213 : decode cX9_fits 213 = .ok (.iconst 0, 1) := by decide +kernel
theorem dX9_fits_214 : decode cX9_fits 214 = .ok (.istore 6, 2) := by decide +kernel
theorem dX9_fits_216 : decode cX9_fits 216 = .ok (.iload 8, 2) := by decide +kernel
theorem dX9_fits_218 : decode cX9_fits 218 = .ok (.bipush 100, 2) := by decide +kernel
theorem dX9_fits_220 : decode cX9_fits 220 = .ok (.if_icmp .ne 11, 3) := by decide +kernel
theorem dX9_fits_223 : decode cX9_fits 223 = .ok (.lload_n 1, 1) := by decide +kernel
theorem dX9_fits_224 : decode cX9_fits 224 = .ok (.invokestatic 251, 3) := by decide +kernel
theorem dX9_fits_227 : decode cX9_fits 227 = .ok (.iconst 3, 1) := by decide +kernel
theorem dX9_fits_228 : decode cX9_fits 228 = .ok (.if_icmp .gt 33, 3) := by decide +kernel
theorem dX9_fits_231 : decode cX9_fits 231 = .ok (.iload 8, 2) := by decide +kernel
theorem dX9_fits_233 : decode cX9_fits 233 = .ok (.bipush 97, 2) := by decide +kernel
theorem dX9_fits_235 : decode cX9_fits 235 = .ok (.if_icmp .ne 11, 3) := by decide +kernel
theorem dX9_fits_238 : decode cX9_fits 238 = .ok (.lload_n 1, 1) := by decide +kernel
theorem dX9_fits_239 : decode cX9_fits 239 = .ok (.invokestatic 254, 3) := by decide +kernel
theorem dX9_fits_242 : decode cX9_fits 242 = .ok (.iconst 3, 1) := by decide +kernel
theorem dX9_fits_243 : decode cX9_fits 243 = .ok (.if_icmp .gt 18, 3) := by decide +kernel
theorem dX9_fits_246 : decode cX9_fits 246 = .ok (.iload 8, 2) := by decide +kernel
theorem dX9_fits_248 : decode cX9_fits 248 = .ok (.bipush 98, 2) := by decide +kernel
theorem dX9_fits_250 : decode cX9_fits 250 = .ok (.if_icmp .ne 13, 3) := by decide +kernel
theorem dX9_fits_253 : decode cX9_fits 253 = .ok (.lload_n 1, 1) := by decide +kernel
theorem dX9_fits_254 : decode cX9_fits 254 = .ok (.invokestatic 257, 3) := by decide +kernel
theorem dX9_fits_257 : decode cX9_fits 257 = .ok (.iconst 3, 1) := by decide +kernel
theorem dX9_fits_258 : decode cX9_fits 258 = .ok (.if_icmp .le 5, 3) := by decide +kernel
theorem dX9_fits_261 : decode cX9_fits 261 = .ok (.iconst 0, 1) := by decide +kernel
theorem dX9_fits_262 : decode cX9_fits 262 = .ok (.ireturn, 1) := by decide +kernel
theorem dX9_fits_263 : decode cX9_fits 263 = .ok (.iload 8, 2) := by decide +kernel
theorem dX9_fits_265 : decode cX9_fits 265 = .ok (.bipush 71, 2) := by decide +kernel
theorem dX9_fits_267 : decode cX9_fits 267 = .ok (.if_icmp .ne 19, 3) := by decide +kernel
theorem dX9_fits_270 : decode cX9_fits 270 = .ok (.lload_n 1, 1) := by decide +kernel
theorem dX9_fits_271 : decode cX9_fits 271 = .ok (.invokestatic 248, 3) := by decide +kernel
theorem dX9_fits_274 : decode cX9_fits 274 = .ok (.ifCond .lt 34, 3) := by decide +kernel
theorem dX9_fits_277 : decode cX9_fits 277 = .ok (.lload_n 1, 1) := by decide +kernel
theorem dX9_fits_278 : decode cX9_fits 278 = .ok (.invokestatic 248, 3) := by decide +kernel
theorem dX9_fits_281 : decode cX9_fits 281 = .ok (.bipush 63, 2) := by decide +kernel
theorem dX9_fits_283 : decode cX9_fits 283 = .ok (.if_icmp .gt 25, 3) := by decide +kernel
theorem dX9_fits_286 : decode cX9_fits 286 = .ok (.iload 8, 2) := by decide +kernel
theorem dX9_fits_288 : decode cX9_fits 288 = .ok (.bipush 80, 2) := by decide +kernel
theorem dX9_fits_290 : decode cX9_fits 290 = .ok (.if_icmp .ne 20, 3) := by decide +kernel
theorem dX9_fits_293 : decode cX9_fits 293 = .ok (.lload_n 1, 1) := by decide +kernel
theorem dX9_fits_294 : decode cX9_fits 294 = .ok (.invokestatic 248, 3) := by decide +kernel
theorem dX9_fits_297 : decode cX9_fits 297 = .ok (.ifCond .lt 11, 3) := by decide +kernel
theorem dX9_fits_300 : decode cX9_fits 300 = .ok (.lload_n 1, 1) := by decide +kernel
theorem dX9_fits_301 : decode cX9_fits 301 = .ok (.invokestatic 248, 3) := by decide +kernel
theorem dX9_fits_304 : decode cX9_fits 304 = .ok (.iconst 3, 1) := by decide +kernel
theorem dX9_fits_305 : decode cX9_fits 305 = .ok (.if_icmp .le 5, 3) := by decide +kernel
theorem dX9_fits_308 : decode cX9_fits 308 = .ok (.iconst 0, 1) := by decide +kernel
theorem dX9_fits_309 : decode cX9_fits 309 = .ok (.ireturn, 1) := by decide +kernel
theorem dX9_fits_310 : decode cX9_fits 310 = .ok (.iinc 7 1, 3) := by decide +kernel
theorem dX9_fits_313 : decode cX9_fits 313 = .ok (.goto (-234), 3) := by decide +kernel
theorem dX9_fits_316 : decode cX9_fits 316 = .ok (.iload_n 3, 1) := by decide +kernel
theorem dX9_fits_317 : decode cX9_fits 317 = .ok (.ifCond .ne 10, 3) := by decide +kernel
theorem dX9_fits_320 : decode cX9_fits 320 = .ok (.lload_n 1, 1) := by decide +kernel
theorem dX9_fits_321 : decode cX9_fits 321 = .ok (.invokestatic 251, 3) := by decide +kernel
theorem dX9_fits_324 : decode cX9_fits 324 = .ok (.ifCond .ne 43, 3) := by decide +kernel
theorem dX9_fits_327 : decode cX9_fits 327 = .ok (.iload 4, 2) := by decide +kernel
theorem dX9_fits_329 : decode cX9_fits 329 = .ok (.ifCond .ne 10, 3) := by decide +kernel
theorem dX9_fits_332 : decode cX9_fits 332 = .ok (.lload_n 1, 1) := by decide +kernel
theorem dX9_fits_333 : decode cX9_fits 333 = .ok (.invokestatic 254, 3) := by decide +kernel
theorem dX9_fits_336 : decode cX9_fits 336 = .ok (.ifCond .ne 31, 3) := by decide +kernel
theorem dX9_fits_339 : decode cX9_fits 339 = .ok (.iload 5, 2) := by decide +kernel
theorem dX9_fits_341 : decode cX9_fits 341 = .ok (.ifCond .ne 10, 3) := by decide +kernel
theorem dX9_fits_344 : decode cX9_fits 344 = .ok (.lload_n 1, 1) := by decide +kernel
theorem dX9_fits_345 : decode cX9_fits 345 = .ok (.invokestatic 257, 3) := by decide +kernel
theorem dX9_fits_348 : decode cX9_fits 348 = .ok (.ifCond .ne 19, 3) := by decide +kernel
theorem dX9_fits_351 : decode cX9_fits 351 = .ok (.iload 6, 2) := by decide +kernel
theorem dX9_fits_353 : decode cX9_fits 353 = .ok (.ifCond .ne 10, 3) := by decide +kernel
theorem dX9_fits_356 : decode cX9_fits 356 = .ok (.lload_n 1, 1) := by decide +kernel
theorem dX9_fits_357 : decode cX9_fits 357 = .ok (.invokestatic 248, 3) := by decide +kernel
theorem dX9_fits_360 : decode cX9_fits 360 = .ok (.ifCond .ne 7, 3) := by decide +kernel
theorem dX9_fits_363 : decode cX9_fits 363 = .ok (.iconst 1, 1) := by decide +kernel
theorem dX9_fits_364 : decode cX9_fits 364 = .ok (.goto 4, 3) := by decide +kernel
theorem dX9_fits_367 : decode cX9_fits 367 = .ok (.iconst 0, 1) := by decide +kernel
theorem dX9_fits_368 : decode cX9_fits 368 = .ok (.ireturn, 1) := by decide +kernel
theorem dX9_listed_0 : decode cX9_listed 0 = .ok (.iconst 0, 1) := by decide +kernel
theorem dX9_listed_1 : decode cX9_listed 1 = .ok (.istore_n 2, 1) := by decide +kernel
theorem dX9_listed_2 : decode cX9_listed 2 = .ok (.iload_n 2, 1) := by decide +kernel
theorem dX9_listed_3 : decode cX9_listed 3 = .ok (.bipush 53, 2) := by decide +kernel
theorem dX9_listed_5 : decode cX9_listed 5 = .ok (.if_icmp .ge 19, 3) := by decide +kernel
theorem dX9_listed_8 : decode cX9_listed 8 = .ok (.iload_n 2, 1) := by decide +kernel
theorem dX9_listed_9 : decode cX9_listed 9 = .ok (.lload_n 0, 1) := by decide +kernel
theorem dX9_listed_10 : decode cX9_listed 10 = .ok (.invokestatic 260, 3) := by decide +kernel
theorem dX9_listed_13 : decode cX9_listed 13 = .ok (.ifCond .eq 5, 3) := by decide +kernel
theorem dX9_listed_16 : decode cX9_listed 16 = .ok (.iload_n 2, 1) := by decide +kernel
theorem dX9_listed_17 : decode cX9_listed 17 = .ok (.ireturn, 1) := by decide +kernel
theorem dX9_listed_18 : decode cX9_listed 18 = .ok (.iinc 2 1, 3) := by decide +kernel
theorem dX9_listed_21 : decode cX9_listed 21 = .ok (.goto (-19), 3) := by decide +kernel
theorem dX9_listed_24 : decode cX9_listed 24 = .ok (.iconst (-1), 1) := by decide +kernel
theorem dX9_listed_25 : decode cX9_listed 25 = .ok (.ireturn, 1) := by decide +kernel
theorem dX9_say_0 : decode cX9_say 0 = .ok (.aload_n 0, 1) := by decide +kernel
theorem dX9_say_1 : decode cX9_say 1 = .ok (.getfield 57, 3) := by decide +kernel
theorem dX9_say_4 : decode cX9_say 4 = .ok (.aload_n 0, 1) := by decide +kernel
theorem dX9_say_5 : decode cX9_say 5 = .ok (.getfield 263, 3) := by decide +kernel
theorem dX9_say_8 : decode cX9_say 8 = .ok (.iload_n 1, 1) := by decide +kernel
theorem dX9_say_9 : decode cX9_say 9 = .ok (.iastore, 1) := by decide +kernel
theorem dX9_say_10 : decode cX9_say 10 = .ok (.aload_n 0, 1) := by decide +kernel
theorem dX9_say_11 : decode cX9_say 11 = .ok (.dup, 1) := by decide +kernel
theorem dX9_say_12 : decode cX9_say 12 = .ok (.getfield 263, 3) := by decide +kernel
theorem dX9_say_15 : decode cX9_say 15 = .ok (.iconst 1, 1) := by decide +kernel
theorem dX9_say_16 : decode cX9_say 16 = .ok (.iadd, 1) := by decide +kernel
theorem dX9_say_17 : decode cX9_say 17 = .ok (.putfield 263, 3) := by decide +kernel
theorem dX9_say_20 : decode cX9_say 20 = .ok (.return_, 1) := by decide +kernel
theorem dX9_sayNumber_0 : decode cX9_sayNumber 0 = .ok (.lload_n 1, 1) := by decide +kernel
theorem dX9_sayNumber_1 : decode cX9_sayNumber 1 = .ok (.lconst 0, 1) := by decide +kernel
theorem dX9_sayNumber_2 : decode cX9_sayNumber 2 = .ok (.lcmp, 1) := by decide +kernel
theorem dX9_sayNumber_3 : decode cX9_sayNumber 3 = .ok (.ifCond .ge 9, 3) := by decide +kernel
theorem dX9_sayNumber_6 : decode cX9_sayNumber 6 = .ok (.aload_n 0, 1) := by decide +kernel
theorem dX9_sayNumber_7 : decode cX9_sayNumber 7 = .ok (.bipush 45, 2) := by decide +kernel
theorem dX9_sayNumber_9 : decode cX9_sayNumber 9 = .ok (.invokevirtual 266, 3) := by decide +kernel
theorem dX9_sayNumber_12 : decode cX9_sayNumber 12 = .ok (.lload_n 1, 1) := by decide +kernel
theorem dX9_sayNumber_13 : decode cX9_sayNumber 13 = .ok (.lconst 0, 1) := by decide +kernel
theorem dX9_sayNumber_14 : decode cX9_sayNumber 14 = .ok (.lcmp, 1) := by decide +kernel
theorem dX9_sayNumber_15 : decode cX9_sayNumber 15 = .ok (.ifCond .ge 8, 3) := by decide +kernel
theorem dX9_sayNumber_18 : decode cX9_sayNumber 18 = .ok (.lload_n 1, 1) := by decide +kernel
theorem dX9_sayNumber_19 : decode cX9_sayNumber 19 = .ok (.lneg, 1) := by decide +kernel
theorem dX9_sayNumber_20 : decode cX9_sayNumber 20 = .ok (.goto 4, 3) := by decide +kernel
theorem dX9_sayNumber_23 : decode cX9_sayNumber 23 = .ok (.lload_n 1, 1) := by decide +kernel
theorem dX9_sayNumber_24 : decode cX9_sayNumber 24 = .ok (.lstore_n 3, 1) := by decide +kernel
theorem dX9_sayNumber_25 : decode cX9_sayNumber 25 = .ok (.lconst 1, 1) := by decide +kernel
theorem dX9_sayNumber_26 : decode cX9_sayNumber 26 = .ok (.lstore 5, 2) := by decide +kernel
theorem dX9_sayNumber_28 : decode cX9_sayNumber 28 = .ok (.lload_n 3, 1) := by decide +kernel
theorem dX9_sayNumber_29 : decode cX9_sayNumber 29 = .ok (.lload 5, 2) := by decide +kernel
theorem dX9_sayNumber_31 : decode cX9_sayNumber 31 = .ok (.ldiv, 1) := by decide +kernel
theorem dX9_sayNumber_32 : decode cX9_sayNumber 32 = .ok (.ldc2_w 270, 3) := by decide +kernel
theorem dX9_sayNumber_35 : decode cX9_sayNumber 35 = .ok (.lcmp, 1) := by decide +kernel
theorem dX9_sayNumber_36 : decode cX9_sayNumber 36 = .ok (.ifCond .le 14, 3) := by decide +kernel
theorem dX9_sayNumber_39 : decode cX9_sayNumber 39 = .ok (.lload 5, 2) := by decide +kernel
theorem dX9_sayNumber_41 : decode cX9_sayNumber 41 = .ok (.ldc2_w 106, 3) := by decide +kernel
theorem dX9_sayNumber_44 : decode cX9_sayNumber 44 = .ok (.lmul, 1) := by decide +kernel
theorem dX9_sayNumber_45 : decode cX9_sayNumber 45 = .ok (.lstore 5, 2) := by decide +kernel
theorem dX9_sayNumber_47 : decode cX9_sayNumber 47 = .ok (.goto (-19), 3) := by decide +kernel
theorem dX9_sayNumber_50 : decode cX9_sayNumber 50 = .ok (.lload 5, 2) := by decide +kernel
theorem dX9_sayNumber_52 : decode cX9_sayNumber 52 = .ok (.lconst 0, 1) := by decide +kernel
theorem dX9_sayNumber_53 : decode cX9_sayNumber 53 = .ok (.lcmp, 1) := by decide +kernel
theorem dX9_sayNumber_54 : decode cX9_sayNumber 54 = .ok (.ifCond .le 31, 3) := by decide +kernel
theorem dX9_sayNumber_57 : decode cX9_sayNumber 57 = .ok (.aload_n 0, 1) := by decide +kernel
theorem dX9_sayNumber_58 : decode cX9_sayNumber 58 = .ok (.ldc2_w 108, 3) := by decide +kernel
theorem dX9_sayNumber_61 : decode cX9_sayNumber 61 = .ok (.lload_n 3, 1) := by decide +kernel
theorem dX9_sayNumber_62 : decode cX9_sayNumber 62 = .ok (.lload 5, 2) := by decide +kernel
theorem dX9_sayNumber_64 : decode cX9_sayNumber 64 = .ok (.ldiv, 1) := by decide +kernel
theorem dX9_sayNumber_65 : decode cX9_sayNumber 65 = .ok (.ldc2_w 106, 3) := by decide +kernel
theorem dX9_sayNumber_68 : decode cX9_sayNumber 68 = .ok (.lrem, 1) := by decide +kernel
theorem dX9_sayNumber_69 : decode cX9_sayNumber 69 = .ok (.ladd, 1) := by decide +kernel
theorem dX9_sayNumber_70 : decode cX9_sayNumber 70 = .ok (.l2i, 1) := by decide +kernel
theorem dX9_sayNumber_71 : decode cX9_sayNumber 71 = .ok (.invokevirtual 266, 3) := by decide +kernel
theorem dX9_sayNumber_74 : decode cX9_sayNumber 74 = .ok (.lload 5, 2) := by decide +kernel
theorem dX9_sayNumber_76 : decode cX9_sayNumber 76 = .ok (.ldc2_w 106, 3) := by decide +kernel
theorem dX9_sayNumber_79 : decode cX9_sayNumber 79 = .ok (.ldiv, 1) := by decide +kernel
theorem dX9_sayNumber_80 : decode cX9_sayNumber 80 = .ok (.lstore 5, 2) := by decide +kernel
theorem dX9_sayNumber_82 : decode cX9_sayNumber 82 = .ok (.goto (-32), 3) := by decide +kernel
theorem dX9_sayNumber_85 : decode cX9_sayNumber 85 = .ok (.return_, 1) := by decide +kernel
theorem dX9_sayPart_0 : decode cX9_sayPart 0 = .ok (.iload_n 1, 1) := by decide +kernel
theorem dX9_sayPart_1 : decode cX9_sayPart 1 = .ok (.bipush 68, 2) := by decide +kernel
theorem dX9_sayPart_3 : decode cX9_sayPart 3 = .ok (.if_icmp .eq 15, 3) := by decide +kernel
theorem dX9_sayPart_6 : decode cX9_sayPart 6 = .ok (.iload_n 1, 1) := by decide +kernel
theorem dX9_sayPart_7 : decode cX9_sayPart 7 = .ok (.bipush 65, 2) := by decide +kernel
theorem dX9_sayPart_9 : decode cX9_sayPart 9 = .ok (.if_icmp .eq 9, 3) := by decide +kernel
theorem dX9_sayPart_12 : decode cX9_sayPart 12 = .ok (.iload_n 1, 1) := by decide +kernel
theorem dX9_sayPart_13 : decode cX9_sayPart 13 = .ok (.bipush 66, 2) := by decide +kernel
theorem dX9_sayPart_15 : decode cX9_sayPart 15 = .ok (.if_icmp .ne 9, 3) := by decide +kernel
theorem dX9_sayPart_18 : decode cX9_sayPart 18 = .ok (.aload_n 0, 1) := by decide +kernel
theorem dX9_sayPart_19 : decode cX9_sayPart 19 = .ok (.bipush 114, 2) := by decide +kernel
theorem dX9_sayPart_21 : decode cX9_sayPart 21 = .ok (.invokevirtual 266, 3) := by decide +kernel
theorem dX9_sayPart_24 : decode cX9_sayPart 24 = .ok (.iload_n 1, 1) := by decide +kernel
theorem dX9_sayPart_25 : decode cX9_sayPart 25 = .ok (.bipush 100, 2) := by decide +kernel
theorem dX9_sayPart_27 : decode cX9_sayPart 27 = .ok (.if_icmp .eq 21, 3) := by decide +kernel
theorem dX9_sayPart_30 : decode cX9_sayPart 30 = .ok (.iload_n 1, 1) := by decide +kernel
theorem dX9_sayPart_31 : decode cX9_sayPart 31 = .ok (.bipush 97, 2) := by decide +kernel
theorem dX9_sayPart_33 : decode cX9_sayPart 33 = .ok (.if_icmp .eq 15, 3) := by decide +kernel
theorem dX9_sayPart_36 : decode cX9_sayPart 36 = .ok (.iload_n 1, 1) := by decide +kernel
theorem dX9_sayPart_37 : decode cX9_sayPart 37 = .ok (.bipush 98, 2) := by decide +kernel
theorem dX9_sayPart_39 : decode cX9_sayPart 39 = .ok (.if_icmp .eq 9, 3) := by decide +kernel
theorem dX9_sayPart_42 : decode cX9_sayPart 42 = .ok (.iload_n 1, 1) := by decide +kernel
theorem dX9_sayPart_43 : decode cX9_sayPart 43 = .ok (.bipush 80, 2) := by decide +kernel
theorem dX9_sayPart_45 : decode cX9_sayPart 45 = .ok (.if_icmp .ne 9, 3) := by decide +kernel
theorem dX9_sayPart_48 : decode cX9_sayPart 48 = .ok (.aload_n 0, 1) := by decide +kernel
theorem dX9_sayPart_49 : decode cX9_sayPart 49 = .ok (.bipush 112, 2) := by decide +kernel
theorem dX9_sayPart_51 : decode cX9_sayPart 51 = .ok (.invokevirtual 266, 3) := by decide +kernel
theorem dX9_sayPart_54 : decode cX9_sayPart 54 = .ok (.iload_n 1, 1) := by decide +kernel
theorem dX9_sayPart_55 : decode cX9_sayPart 55 = .ok (.bipush 68, 2) := by decide +kernel
theorem dX9_sayPart_57 : decode cX9_sayPart 57 = .ok (.if_icmp .eq 9, 3) := by decide +kernel
theorem dX9_sayPart_60 : decode cX9_sayPart 60 = .ok (.iload_n 1, 1) := by decide +kernel
theorem dX9_sayPart_61 : decode cX9_sayPart 61 = .ok (.bipush 100, 2) := by decide +kernel
theorem dX9_sayPart_63 : decode cX9_sayPart 63 = .ok (.if_icmp .ne 15, 3) := by decide +kernel
theorem dX9_sayPart_66 : decode cX9_sayPart 66 = .ok (.aload_n 0, 1) := by decide +kernel
theorem dX9_sayPart_67 : decode cX9_sayPart 67 = .ok (.lload_n 2, 1) := by decide +kernel
theorem dX9_sayPart_68 : decode cX9_sayPart 68 = .ok (.invokestatic 251, 3) := by decide +kernel
theorem dX9_sayPart_71 : decode cX9_sayPart 71 = .ok (.i2l, 1) := by decide +kernel
theorem dX9_sayPart_72 : decode cX9_sayPart 72 = .ok (.invokevirtual 272, 3) := by decide +kernel
theorem dX9_sayPart_75 : decode cX9_sayPart 75 = .ok (.goto 111, 3) := by decide +kernel
theorem dX9_sayPart_78 : decode cX9_sayPart 78 = .ok (.iload_n 1, 1) := by decide +kernel
theorem dX9_sayPart_79 : decode cX9_sayPart 79 = .ok (.bipush 65, 2) := by decide +kernel
theorem dX9_sayPart_81 : decode cX9_sayPart 81 = .ok (.if_icmp .eq 9, 3) := by decide +kernel
theorem dX9_sayPart_84 : decode cX9_sayPart 84 = .ok (.iload_n 1, 1) := by decide +kernel
theorem dX9_sayPart_85 : decode cX9_sayPart 85 = .ok (.bipush 97, 2) := by decide +kernel
theorem dX9_sayPart_87 : decode cX9_sayPart 87 = .ok (.if_icmp .ne 15, 3) := by decide +kernel
theorem dX9_sayPart_90 : decode cX9_sayPart 90 = .ok (.aload_n 0, 1) := by decide +kernel
theorem dX9_sayPart_91 : decode cX9_sayPart 91 = .ok (.lload_n 2, 1) := by decide +kernel
theorem dX9_sayPart_92 : decode cX9_sayPart 92 = .ok (.invokestatic 254, 3) := by decide +kernel
theorem dX9_sayPart_95 : decode cX9_sayPart 95 = .ok (.i2l, 1) := by decide +kernel
theorem dX9_sayPart_96 : decode cX9_sayPart 96 = .ok (.invokevirtual 272, 3) := by decide +kernel
theorem dX9_sayPart_99 : decode cX9_sayPart 99 = .ok (.goto 87, 3) := by decide +kernel
theorem dX9_sayPart_102 : decode cX9_sayPart 102 = .ok (.iload_n 1, 1) := by decide +kernel
theorem dX9_sayPart_103 : decode cX9_sayPart 103 = .ok (.bipush 66, 2) := by decide +kernel
theorem dX9_sayPart_105 : decode cX9_sayPart 105 = .ok (.if_icmp .eq 9, 3) := by decide +kernel
theorem dX9_sayPart_108 : decode cX9_sayPart 108 = .ok (.iload_n 1, 1) := by decide +kernel
theorem dX9_sayPart_109 : decode cX9_sayPart 109 = .ok (.bipush 98, 2) := by decide +kernel
theorem dX9_sayPart_111 : decode cX9_sayPart 111 = .ok (.if_icmp .ne 15, 3) := by decide +kernel
theorem dX9_sayPart_114 : decode cX9_sayPart 114 = .ok (.aload_n 0, 1) := by decide +kernel
theorem dX9_sayPart_115 : decode cX9_sayPart 115 = .ok (.lload_n 2, 1) := by decide +kernel
theorem dX9_sayPart_116 : decode cX9_sayPart 116 = .ok (.invokestatic 257, 3) := by decide +kernel
theorem dX9_sayPart_119 : decode cX9_sayPart 119 = .ok (.i2l, 1) := by decide +kernel
theorem dX9_sayPart_120 : decode cX9_sayPart 120 = .ok (.invokevirtual 272, 3) := by decide +kernel
theorem dX9_sayPart_123 : decode cX9_sayPart 123 = .ok (.goto 63, 3) := by decide +kernel
theorem dX9_sayPart_126 : decode cX9_sayPart 126 = .ok (.iload_n 1, 1) := by decide +kernel
theorem dX9_sayPart_127 : decode cX9_sayPart 127 = .ok (.bipush 77, 2) := by decide +kernel
theorem dX9_sayPart_129 : decode cX9_sayPart 129 = .ok (.if_icmp .ne 48, 3) := by decide +kernel
theorem dX9_sayPart_132 : decode cX9_sayPart 132 = .ok (.aload_n 0, 1) := by decide +kernel
theorem dX9_sayPart_133 : decode cX9_sayPart 133 = .ok (.bipush 40, 2) := by decide +kernel
theorem dX9_sayPart_135 : decode cX9_sayPart 135 = .ok (.invokevirtual 266, 3) := by decide +kernel
theorem dX9_sayPart_138 : decode cX9_sayPart 138 = .ok (.aload_n 0, 1) := by decide +kernel
theorem dX9_sayPart_139 : decode cX9_sayPart 139 = .ok (.bipush 114, 2) := by decide +kernel
theorem dX9_sayPart_141 : decode cX9_sayPart 141 = .ok (.invokevirtual 266, 3) := by decide +kernel
theorem dX9_sayPart_144 : decode cX9_sayPart 144 = .ok (.aload_n 0, 1) := by decide +kernel
theorem dX9_sayPart_145 : decode cX9_sayPart 145 = .ok (.lload_n 2, 1) := by decide +kernel
theorem dX9_sayPart_146 : decode cX9_sayPart 146 = .ok (.invokestatic 254, 3) := by decide +kernel
theorem dX9_sayPart_149 : decode cX9_sayPart 149 = .ok (.i2l, 1) := by decide +kernel
theorem dX9_sayPart_150 : decode cX9_sayPart 150 = .ok (.invokevirtual 272, 3) := by decide +kernel
theorem dX9_sayPart_153 : decode cX9_sayPart 153 = .ok (.aload_n 0, 1) := by decide +kernel
theorem dX9_sayPart_154 : decode cX9_sayPart 154 = .ok (.bipush 43, 2) := by decide +kernel
theorem dX9_sayPart_156 : decode cX9_sayPart 156 = .ok (.invokevirtual 266, 3) := by decide +kernel
theorem dX9_sayPart_159 : decode cX9_sayPart 159 = .ok (.aload_n 0, 1) := by decide +kernel
theorem dX9_sayPart_160 : decode cX9_sayPart 160 = .ok (.lload_n 2, 1) := by decide +kernel
theorem dX9_sayPart_161 : decode cX9_sayPart 161 = .ok (.invokestatic 248, 3) := by decide +kernel
theorem dX9_sayPart_164 : decode cX9_sayPart 164 = .ok (.i2l, 1) := by decide +kernel
theorem dX9_sayPart_165 : decode cX9_sayPart 165 = .ok (.invokevirtual 272, 3) := by decide +kernel
theorem dX9_sayPart_168 : decode cX9_sayPart 168 = .ok (.aload_n 0, 1) := by decide +kernel
theorem dX9_sayPart_169 : decode cX9_sayPart 169 = .ok (.bipush 41, 2) := by decide +kernel
theorem dX9_sayPart_171 : decode cX9_sayPart 171 = .ok (.invokevirtual 266, 3) := by decide +kernel
theorem dX9_sayPart_174 : decode cX9_sayPart 174 = .ok (.goto 12, 3) := by decide +kernel
theorem dX9_sayPart_177 : decode cX9_sayPart 177 = .ok (.aload_n 0, 1) := by decide +kernel
theorem dX9_sayPart_178 : decode cX9_sayPart 178 = .ok (.lload_n 2, 1) := by decide +kernel
theorem dX9_sayPart_179 : decode cX9_sayPart 179 = .ok (.invokestatic 248, 3) := by decide +kernel
theorem dX9_sayPart_182 : decode cX9_sayPart 182 = .ok (.i2l, 1) := by decide +kernel
theorem dX9_sayPart_183 : decode cX9_sayPart 183 = .ok (.invokevirtual 272, 3) := by decide +kernel
theorem dX9_sayPart_186 : decode cX9_sayPart 186 = .ok (.return_, 1) := by decide +kernel
theorem dX9_write_0 : decode cX9_write 0 = .ok (.aload_n 0, 1) := by decide +kernel
theorem dX9_write_1 : decode cX9_write 1 = .ok (.iconst 0, 1) := by decide +kernel
theorem dX9_write_2 : decode cX9_write 2 = .ok (.putfield 263, 3) := by decide +kernel
theorem dX9_write_5 : decode cX9_write 5 = .ok (.lload_n 1, 1) := by decide +kernel
theorem dX9_write_6 : decode cX9_write 6 = .ok (.invokestatic 276, 3) := by decide +kernel
theorem dX9_write_9 : decode cX9_write 9 = .ok (.istore_n 3, 1) := by decide +kernel
theorem dX9_write_10 : decode cX9_write 10 = .ok (.iload_n 3, 1) := by decide +kernel
theorem dX9_write_11 : decode cX9_write 11 = .ok (.iconst (-1), 1) := by decide +kernel
theorem dX9_write_12 : decode cX9_write 12 = .ok (.if_icmp .ne 16, 3) := by decide +kernel
theorem dX9_write_15 : decode cX9_write 15 = .ok (.aload_n 0, 1) := by decide +kernel
theorem dX9_write_16 : decode cX9_write 16 = .ok (.bipush 63, 2) := by decide +kernel
theorem dX9_write_18 : decode cX9_write 18 = .ok (.invokevirtual 266, 3) := by decide +kernel
theorem dX9_write_21 : decode cX9_write 21 = .ok (.aload_n 0, 1) := by decide +kernel
theorem dX9_write_22 : decode cX9_write 22 = .ok (.bipush 59, 2) := by decide +kernel
