theorem dX6_series_18 : decode cX6_series 18 = .ok (.aload_n 0, 1) := by decide +kernel
theorem dX6_series_19 : decode cX6_series 19 = .ok (.iload_n 3, 1) := by decide +kernel
theorem dX6_series_20 : decode cX6_series 20 = .ok (.invokevirtual 83, 3) := by decide +kernel
theorem dX6_series_23 : decode cX6_series 23 = .ok (.iload_n 2, 1) := by decide +kernel
theorem dX6_series_24 : decode cX6_series 24 = .ok (.if_icmp .ne 12, 3) := by decide +kernel
theorem dX6_series_27 : decode cX6_series 27 = .ok (.aload_n 0, 1) := by decide +kernel
theorem dX6_series_28 : decode cX6_series 28 = .ok (.iload_n 3, 1) := by decide +kernel
theorem dX6_series_29 : decode cX6_series 29 = .ok (.invokevirtual 79, 3) := by decide +kernel
theorem dX6_series_32 : decode cX6_series 32 = .ok (.istore_n 3, 1) := by decide +kernel
theorem dX6_series_33 : decode cX6_series 33 = .ok (.goto (-21), 3) := by decide +kernel
theorem dX6_series_36 : decode cX6_series 36 = .ok (.iload_n 3, 1) := by decide +kernel
theorem dX6_series_37 : decode cX6_series 37 = .ok (.ireturn, 1) := by decide +kernel
theorem dX6_isLetter_0 : decode cX6_isLetter 0 = .ok (.iload_n 0, 1) := by decide +kernel
theorem dX6_isLetter_1 : decode cX6_isLetter 1 = .ok (.i2l, 1) := by decide +kernel
theorem dX6_isLetter_2 : decode cX6_isLetter 2 = .ok (.ldc2_w 86, 3) := by decide +kernel
theorem dX6_isLetter_5 : decode cX6_isLetter 5 = .ok (.ldc2_w 88, 3) := by decide +kernel
theorem dX6_isLetter_8 : decode cX6_isLetter 8 = .ok (.invokestatic 90, 3) := by decide +kernel
theorem dX6_isLetter_11 : decode cX6_isLetter 11 = .ok (.ireturn, 1) := by decide +kernel
theorem dX6_note_0 : decode cX6_note 0 = .ok (.aload_n 0, 1) := by decide +kernel
theorem dX6_note_1 : decode cX6_note 1 = .ok (.getfield 94, 3) := by decide +kernel
theorem dX6_note_4 : decode cX6_note 4 = .ok (.bipush 24, 2) := by decide +kernel
theorem dX6_note_6 : decode cX6_note 6 = .ok (.if_icmp .ne 28, 3) := by decide +kernel
theorem dX6_note_9 : decode cX6_note 9 = .ok (.aload_n 0, 1) := by decide +kernel
theorem dX6_note_10 : decode cX6_note 10 = .ok (.getfield 13, 3) := by decide +kernel
theorem dX6_note_13 : decode cX6_note 13 = .ok (.iconst 1, 1) := by decide +kernel
theorem dX6_note_14 : decode cX6_note 14 = .ok (.aload_n 0, 1) := by decide +kernel
theorem dX6_note_15 : decode cX6_note 15 = .ok (.getfield 13, 3) := by decide +kernel
theorem dX6_note_18 : decode cX6_note 18 = .ok (.iconst 0, 1) := by decide +kernel
theorem dX6_note_19 : decode cX6_note 19 = .ok (.bipush 23, 2) := by decide +kernel
theorem dX6_note_21 : decode cX6_note 21 = .ok (.invokestatic 97, 3) := by decide +kernel
theorem dX6_note_24 : decode cX6_note 24 = .ok (.aload_n 0, 1) := by decide +kernel
theorem dX6_note_25 : decode cX6_note 25 = .ok (.dup, 1) := by decide +kernel
theorem dX6_note_26 : decode cX6_note 26 = .ok (.getfield 94, 3) := by decide +kernel
theorem dX6_note_29 : decode cX6_note 29 = .ok (.iconst 1, 1) := by decide +kernel
theorem dX6_note_30 : decode cX6_note 30 = .ok (.isub, 1) := by decide +kernel
theorem dX6_note_31 : decode cX6_note 31 = .ok (.putfield 94, 3) := by decide +kernel
theorem dX6_note_34 : decode cX6_note 34 = .ok (.aload_n 0, 1) := by decide +kernel
theorem dX6_note_35 : decode cX6_note 35 = .ok (.getfield 13, 3) := by decide +kernel
theorem dX6_note_38 : decode cX6_note 38 = .ok (.aload_n 0, 1) := by decide +kernel
theorem dX6_note_39 : decode cX6_note 39 = .ok (.getfield 94, 3) := by decide +kernel
theorem dX6_note_42 : decode cX6_note 42 = .ok (.iload_n 1, 1) := by decide +kernel
theorem dX6_note_43 : decode cX6_note 43 = .ok (.iastore, 1) := by decide +kernel
theorem dX6_note_44 : decode cX6_note 44 = .ok (.aload_n 0, 1) := by decide +kernel
theorem dX6_note_45 : decode cX6_note 45 = .ok (.dup, 1) := by decide +kernel
theorem dX6_note_46 : decode cX6_note 46 = .ok (.getfield 94, 3) := by decide +kernel
theorem dX6_note_49 : decode cX6_note 49 = .ok (.iconst 1, 1) := by decide +kernel
theorem dX6_note_50 : decode cX6_note 50 = .ok (.iadd, 1) := by decide +kernel
theorem dX6_note_51 : decode cX6_note 51 = .ok (.putfield 94, 3) := by decide +kernel
theorem dX6_note_54 : decode cX6_note 54 = .ok (.return_, 1) := by decide +kernel
theorem dX6_push_0 : decode cX6_push 0 = .ok (.aload_n 0, 1) := by decide +kernel
theorem dX6_push_1 : decode cX6_push 1 = .ok (.getfield 7, 3) := by decide +kernel
theorem dX6_push_4 : decode cX6_push 4 = .ok (.aload_n 0, 1) := by decide +kernel
theorem dX6_push_5 : decode cX6_push 5 = .ok (.getfield 69, 3) := by decide +kernel
theorem dX6_push_8 : decode cX6_push 8 = .ok (.iload_n 1, 1) := by decide +kernel
theorem dX6_push_9 : decode cX6_push 9 = .ok (.iastore, 1) := by decide +kernel
theorem dX6_push_10 : decode cX6_push 10 = .ok (.aload_n 0, 1) := by decide +kernel
theorem dX6_push_11 : decode cX6_push 11 = .ok (.dup, 1) := by decide +kernel
theorem dX6_push_12 : decode cX6_push 12 = .ok (.getfield 69, 3) := by decide +kernel
theorem dX6_push_15 : decode cX6_push 15 = .ok (.iconst 1, 1) := by decide +kernel
theorem dX6_push_16 : decode cX6_push 16 = .ok (.iadd, 1) := by decide +kernel
theorem dX6_push_17 : decode cX6_push 17 = .ok (.putfield 69, 3) := by decide +kernel
theorem dX6_push_20 : decode cX6_push 20 = .ok (.return_, 1) := by decide +kernel
theorem dX6_put_0 : decode cX6_put 0 = .ok (.iload_n 1, 1) := by decide +kernel
theorem dX6_put_1 : decode cX6_put 1 = .ok (.invokestatic 101, 3) := by decide +kernel
theorem dX6_put_4 : decode cX6_put 4 = .ok (.ifCond .ne 5, 3) := by decide +kernel
theorem dX6_put_7 : decode cX6_put 7 = .ok (.iconst (-1), 1) := by decide +kernel
theorem dX6_put_8 : decode cX6_put 8 = .ok (.ireturn, 1) := by decide +kernel
theorem dX6_put_9 : decode cX6_put 9 = .ok (.aload_n 0, 1) := by decide +kernel
theorem dX6_put_10 : decode cX6_put 10 = .ok (.getfield 69, 3) := by decide +kernel
theorem dX6_put_13 : decode cX6_put 13 = .ok (.bipush 48, 2) := by decide +kernel
theorem dX6_put_15 : decode cX6_put 15 = .ok (.if_icmp .ne 6, 3) := by decide +kernel
theorem dX6_put_18 : decode cX6_put 18 = .ok (.bipush (-3), 2) := by decide +kernel
theorem dX6_put_20 : decode cX6_put 20 = .ok (.ireturn, 1) := by decide +kernel
theorem dX6_put_21 : decode cX6_put 21 = .ok (.aload_n 0, 1) := by decide +kernel
theorem dX6_put_22 : decode cX6_put 22 = .ok (.iconst 0, 1) := by decide +kernel
theorem dX6_put_23 : decode cX6_put 23 = .ok (.invokevirtual 104, 3) := by decide +kernel
theorem dX6_put_26 : decode cX6_put 26 = .ok (.aload_n 0, 1) := by decide +kernel
theorem dX6_put_27 : decode cX6_put 27 = .ok (.iload_n 1, 1) := by decide +kernel
theorem dX6_put_28 : decode cX6_put 28 = .ok (.bipush 97, 2) := by decide +kernel
theorem dX6_put_30 : decode cX6_put 30 = .ok (.isub, 1) := by decide +kernel
theorem dX6_put_31 : decode cX6_put 31 = .ok (.invokevirtual 108, 3) := by decide +kernel
theorem dX6_put_34 : decode cX6_put 34 = .ok (.aload_n 0, 1) := by decide +kernel
theorem dX6_put_35 : decode cX6_put 35 = .ok (.aload_n 0, 1) := by decide +kernel
theorem dX6_put_36 : decode cX6_put 36 = .ok (.getfield 69, 3) := by decide +kernel
theorem dX6_put_39 : decode cX6_put 39 = .ok (.iconst 1, 1) := by decide +kernel
theorem dX6_put_40 : decode cX6_put 40 = .ok (.isub, 1) := by decide +kernel
theorem dX6_put_41 : decode cX6_put 41 = .ok (.bipush 49, 2) := by decide +kernel
theorem dX6_put_43 : decode cX6_put 43 = .ok (.invokevirtual 57, 3) := by decide +kernel
theorem dX6_put_46 : decode cX6_put 46 = .ok (.ireturn, 1) := by decide +kernel
theorem dX6_pop_0 : decode cX6_pop 0 = .ok (.aload_n 0, 1) := by decide +kernel
theorem dX6_pop_1 : decode cX6_pop 1 = .ok (.getfield 69, 3) := by decide +kernel
theorem dX6_pop_4 : decode cX6_pop 4 = .ok (.ifCond .ne 6, 3) := by decide +kernel
theorem dX6_pop_7 : decode cX6_pop 7 = .ok (.bipush (-2), 2) := by decide +kernel
theorem dX6_pop_9 : decode cX6_pop 9 = .ok (.ireturn, 1) := by decide +kernel
theorem dX6_pop_10 : decode cX6_pop 10 = .ok (.aload_n 0, 1) := by decide +kernel
theorem dX6_pop_11 : decode cX6_pop 11 = .ok (.dup, 1) := by decide +kernel
theorem dX6_pop_12 : decode cX6_pop 12 = .ok (.getfield 69, 3) := by decide +kernel
theorem dX6_pop_15 : decode cX6_pop 15 = .ok (.iconst 1, 1) := by decide +kernel
theorem dX6_pop_16 : decode cX6_pop 16 = .ok (.isub, 1) := by decide +kernel
theorem dX6_pop_17 : decode cX6_pop 17 = .ok (.putfield 69, 3) := by decide +kernel
theorem dX6_pop_20 : decode cX6_pop 20 = .ok (.aload_n 0, 1) := by decide +kernel
theorem dX6_pop_21 : decode cX6_pop 21 = .ok (.iconst 1, 1) := by decide +kernel
theorem dX6_pop_22 : decode cX6_pop 22 = .ok (.aload_n 0, 1) := by decide +kernel
theorem dX6_pop_23 : decode cX6_pop 23 = .ok (.getfield 7, 3) := by decide +kernel
theorem dX6_pop_26 : decode cX6_pop 26 = .ok (.aload_n 0, 1) := by decide +kernel
theorem dX6_pop_27 : decode cX6_pop 27 = .ok (.getfield 69, 3) := by decide +kernel
theorem dX6_pop_30 : decode cX6_pop 30 = .ok (.iaload, 1) := by decide +kernel
theorem dX6_pop_31 : decode cX6_pop 31 = .ok (.iadd, 1) := by decide +kernel
theorem dX6_pop_32 : decode cX6_pop 32 = .ok (.invokevirtual 104, 3) := by decide +kernel
theorem dX6_pop_35 : decode cX6_pop 35 = .ok (.bipush 97, 2) := by decide +kernel
theorem dX6_pop_37 : decode cX6_pop 37 = .ok (.aload_n 0, 1) := by decide +kernel
theorem dX6_pop_38 : decode cX6_pop 38 = .ok (.getfield 7, 3) := by decide +kernel
theorem dX6_pop_41 : decode cX6_pop 41 = .ok (.aload_n 0, 1) := by decide +kernel
theorem dX6_pop_42 : decode cX6_pop 42 = .ok (.getfield 69, 3) := by decide +kernel
theorem dX6_pop_45 : decode cX6_pop 45 = .ok (.iaload, 1) := by decide +kernel
theorem dX6_pop_46 : decode cX6_pop 46 = .ok (.iadd, 1) := by decide +kernel
theorem dX6_pop_47 : decode cX6_pop 47 = .ok (.ireturn, 1) := by decide +kernel
theorem dX6_change_0 : decode cX6_change 0 = .ok (.iload_n 1, 1) := by decide +kernel
theorem dX6_change_1 : decode cX6_change 1 = .ok (.i2l, 1) := by decide +kernel
theorem dX6_change_2 : decode cX6_change 2 = .ok (.lconst 0, 1) := by decide +kernel
theorem dX6_change_3 : decode cX6_change 3 = .ok (.aload_n 0, 1) := by decide +kernel
theorem dX6_change_4 : decode cX6_change 4 = .ok (.getfield 69, 3) := by decide +kernel
theorem dX6_change_7 : decode cX6_change 7 = .ok (.iconst 1, 1) := by decide +kernel
theorem dX6_change_8 : decode cX6_change 8 = .ok (.isub, 1) := by decide +kernel
theorem dX6_change_9 : decode cX6_change 9 = .ok (.i2l, 1) := by decide +kernel
theorem dX6_change_10 : decode cX6_change 10 = .ok (.invokestatic 90, 3) := by decide +kernel
theorem dX6_change_13 : decode cX6_change 13 = .ok (.ifCond .eq 10, 3) := by decide +kernel
theorem dX6_change_16 : decode cX6_change 16 = .ok (.iload_n 2, 1) := by decide +kernel
theorem dX6_change_17 : decode cX6_change 17 = .ok (.invokestatic 101, 3) := by decide +kernel
theorem dX6_change_20 : decode cX6_change 20 = .ok (.ifCond .ne 5, 3) := by decide +kernel
theorem dX6_change_23 : decode cX6_change 23 = .ok (.iconst (-1), 1) := by decide +kernel
theorem dX6_change_24 : decode cX6_change 24 = .ok (.ireturn, 1) := by decide +kernel
theorem dX6_change_25 : decode cX6_change 25 = .ok (.aload_n 0, 1) := by decide +kernel
theorem dX6_change_26 : decode cX6_change 26 = .ok (.getfield 7, 3) := by decide +kernel
theorem dX6_change_29 : decode cX6_change 29 = .ok (.iload_n 1, 1) := by decide +kernel
theorem dX6_change_30 : decode cX6_change 30 = .ok (.iaload, 1) := by decide +kernel
theorem dX6_change_31 : decode cX6_change 31 = .ok (.istore_n 3, 1) := by decide +kernel
theorem dX6_change_32 : decode cX6_change 32 = .ok (.iload_n 3, 1) := by decide +kernel
theorem dX6_change_33 : decode cX6_change 33 = .ok (.iload_n 2, 1) := by decide +kernel
theorem dX6_change_34 : decode cX6_change 34 = .ok (.bipush 97, 2) := by decide +kernel
theorem dX6_change_36 : decode cX6_change 36 = .ok (.isub, 1) := by decide +kernel
theorem dX6_change_37 : decode cX6_change 37 = .ok (.if_icmp .ne 6, 3) := by decide +kernel
theorem dX6_change_40 : decode cX6_change 40 = .ok (.bipush (-2), 2) := by decide +kernel
theorem dX6_change_42 : decode cX6_change 42 = .ok (.ireturn, 1) := by decide +kernel
theorem dX6_change_43 : decode cX6_change 43 = .ok (.aload_n 0, 1) := by decide +kernel
theorem dX6_change_44 : decode cX6_change 44 = .ok (.bipush 100, 2) := by decide +kernel
theorem dX6_change_46 : decode cX6_change 46 = .ok (.bipush 10, 2) := by decide +kernel
theorem dX6_change_48 : decode cX6_change 48 = .ok (.iload_n 1, 1) := by decide +kernel
theorem dX6_change_49 : decode cX6_change 49 = .ok (.imul, 1) := by decide +kernel
theorem dX6_change_50 : decode cX6_change 50 = .ok (.iadd, 1) := by decide +kernel
theorem dX6_change_51 : decode cX6_change 51 = .ok (.iload_n 3, 1) := by decide +kernel
theorem dX6_change_52 : decode cX6_change 52 = .ok (.iadd, 1) := by decide +kernel
theorem dX6_change_53 : decode cX6_change 53 = .ok (.invokevirtual 104, 3) := by decide +kernel
theorem dX6_change_56 : decode cX6_change 56 = .ok (.aload_n 0, 1) := by decide +kernel
theorem dX6_change_57 : decode cX6_change 57 = .ok (.getfield 7, 3) := by decide +kernel
theorem dX6_change_60 : decode cX6_change 60 = .ok (.iload_n 1, 1) := by decide +kernel
theorem dX6_change_61 : decode cX6_change 61 = .ok (.iload_n 2, 1) := by decide +kernel
theorem dX6_change_62 : decode cX6_change 62 = .ok (.bipush 97, 2) := by decide +kernel
theorem dX6_change_64 : decode cX6_change 64 = .ok (.isub, 1) := by decide +kernel
theorem dX6_change_65 : decode cX6_change 65 = .ok (.iastore, 1) := by decide +kernel
theorem dX6_change_66 : decode cX6_change 66 = .ok (.bipush 97, 2) := by decide +kernel
theorem dX6_change_68 : decode cX6_change 68 = .ok (.iload_n 3, 1) := by decide +kernel
theorem dX6_change_69 : decode cX6_change 69 = .ok (.iadd, 1) := by decide +kernel
theorem dX6_change_70 : decode cX6_change 70 = .ok (.ireturn, 1) := by decide +kernel
theorem dX6_undo_0 : decode cX6_undo 0 = .ok (.aload_n 0, 1) := by decide +kernel
theorem dX6_undo_1 : decode cX6_undo 1 = .ok (.getfield 94, 3) := by decide +kernel
theorem dX6_undo_4 : decode cX6_undo 4 = .ok (.ifCond .ne 6, 3) := by decide +kernel
theorem dX6_undo_7 : decode cX6_undo 7 = .ok (.bipush (-4), 2) := by decide +kernel
theorem dX6_undo_9 : decode cX6_undo 9 = .ok (.ireturn, 1) := by decide +kernel
theorem dX6_undo_10 : decode cX6_undo 10 = .ok (.aload_n 0, 1) := by decide +kernel
theorem dX6_undo_11 : decode cX6_undo 11 = .ok (.dup, 1) := by decide +kernel
theorem dX6_undo_12 : decode cX6_undo 12 = .ok (.getfield 94, 3) := by decide +kernel
theorem dX6_undo_15 : decode cX6_undo 15 = .ok (.iconst 1, 1) := by decide +kernel
theorem dX6_undo_16 : decode cX6_undo 16 = .ok (.isub, 1) := by decide +kernel
theorem dX6_undo_17 : decode cX6_undo 17 = .ok (.putfield 94, 3) := by decide +kernel
theorem dX6_undo_20 : decode cX6_undo 20 = .ok (.aload_n 0, 1) := by decide +kernel
theorem dX6_undo_21 : decode cX6_undo 21 = .ok (.getfield 13, 3) := by decide +kernel
theorem dX6_undo_24 : decode cX6_undo 24 = .ok (.aload_n 0, 1) := by decide +kernel
theorem dX6_undo_25 : decode cX6_undo 25 = .ok (.getfield 94, 3) := by decide +kernel
theorem dX6_undo_28 : decode cX6_undo 28 = .ok (.iaload, 1) := by decide +kernel
theorem dX6_undo_29 : decode cX6_undo 29 = .ok (.istore_n 1, 1) := by decide +kernel
theorem dX6_undo_30 : decode cX6_undo 30 = .ok (.iload_n 1, 1) := by decide +kernel
theorem dX6_undo_31 : decode cX6_undo 31 = .ok (.ifCond .ne 16, 3) := by decide +kernel
theorem dX6_undo_34 : decode cX6_undo 34 = .ok (.aload_n 0, 1) := by decide +kernel
theorem dX6_undo_35 : decode cX6_undo 35 = .ok (.dup, 1) := by decide +kernel
theorem dX6_undo_36 : decode cX6_undo 36 = .ok (.getfield 69, 3) := by decide +kernel
theorem dX6_undo_39 : decode cX6_undo 39 = .ok (.iconst 1, 1) := by decide +kernel
theorem dX6_undo_40 : decode cX6_undo 40 = .ok (.isub, 1) := by decide +kernel
theorem dX6_undo_41 : decode cX6_undo 41 = .ok (.putfield 69, 3) := by decide +kernel
theorem dX6_undo_44 : decode cX6_undo 44 = .ok (.goto 35, 3) := by decide +kernel
theorem dX6_undo_47 : decode cX6_undo 47 = .ok (.iload_n 1, 1) := by decide +kernel
theorem dX6_undo_48 : decode cX6_undo 48 = .ok (.bipush 100, 2) := by decide +kernel
theorem dX6_undo_50 : decode cX6_undo 50 = .ok (.if_icmp .ge 13, 3) := by decide +kernel
theorem dX6_undo_53 : decode cX6_undo 53 = .ok (.aload_n 0, 1) := by decide +kernel
theorem dX6_undo_54 : decode cX6_undo 54 = .ok (.iload_n 1, 1) := by decide +kernel
theorem dX6_undo_55 : decode cX6_undo 55 = .ok (.iconst 1, 1) := by decide +kernel
theorem dX6_undo_56 : decode cX6_undo 56 = .ok (.isub, 1) := by decide +kernel
theorem dX6_undo_57 : decode cX6_undo 57 = .ok (.invokevirtual 108, 3) := by decide +kernel
theorem dX6_undo_60 : decode cX6_undo 60 = .ok (.goto 19, 3) := by decide +kernel
theorem dX6_undo_63 : decode cX6_undo 63 = .ok (.aload_n 0, 1) := by decide +kernel
theorem dX6_undo_64 : decode cX6_undo 64 = .ok (.getfield 7, 3) := by decide +kernel
theorem dX6_undo_67 : decode cX6_undo 67 = .ok (.iload_n 1, 1) := by decide +kernel
theorem dX6_undo_68 : decode cX6_undo 68 = .ok (.bipush 100, 2) := by decide +kernel
theorem dX6_undo_70 : decode cX6_undo 70 = .ok (.isub, 1) := by decide +kernel
theorem dX6_undo_71 : decode cX6_undo 71 = .ok (.bipush 10, 2) := by decide +kernel
theorem dX6_undo_73 : decode cX6_undo 73 = .ok (.idiv, 1) := by decide +kernel
theorem dX6_undo_74 : decode cX6_undo 74 = .ok (.iload_n 1, 1) := by decide +kernel
theorem dX6_undo_75 : decode cX6_undo 75 = .ok (.bipush 10, 2) := by decide +kernel
theorem dX6_undo_77 : decode cX6_undo 77 = .ok (.irem, 1) := by decide +kernel
theorem dX6_undo_78 : decode cX6_undo 78 = .ok (.iastore, 1) := by decide +kernel
theorem dX6_undo_79 : decode cX6_undo 79 = .ok (.aload_n 0, 1) := by decide +kernel
theorem dX6_undo_80 : decode cX6_undo 80 = .ok (.getfield 94, 3) := by decide +kernel
theorem dX6_undo_83 : decode cX6_undo 83 = .ok (.ireturn, 1) := by decide +kernel
theorem dX6_letter_0 : decode cX6_letter 0 = .ok (.iload_n 1, 1) := by decide +kernel
theorem dX6_letter_1 : decode cX6_letter 1 = .ok (.i2l, 1) := by decide +kernel
theorem dX6_letter_2 : decode cX6_letter 2 = .ok (.lconst 0, 1) := by decide +kernel
theorem dX6_letter_3 : decode cX6_letter 3 = .ok (.aload_n 0, 1) := by decide +kernel
theorem dX6_letter_4 : decode cX6_letter 4 = .ok (.getfield 69, 3) := by decide +kernel
theorem dX6_letter_7 : decode cX6_letter 7 = .ok (.iconst 1, 1) := by decide +kernel
theorem dX6_letter_8 : decode cX6_letter 8 = .ok (.isub, 1) := by decide +kernel
theorem dX6_letter_9 : decode cX6_letter 9 = .ok (.i2l, 1) := by decide +kernel
theorem dX6_letter_10 : decode cX6_letter 10 = .ok (.invokestatic 90, 3) := by decide +kernel
theorem dX6_letter_13 : decode cX6_letter 13 = .ok (.ifCond .eq 15, 3) := by decide +kernel
theorem dX6_letter_16 : decode cX6_letter 16 = .ok (.bipush 97, 2) := by decide +kernel
theorem dX6_letter_18 : decode cX6_letter 18 = .ok (.aload_n 0, 1) := by decide +kernel
theorem dX6_letter_19 : decode cX6_letter 19 = .ok (.getfield 7, 3) := by decide +kernel
theorem dX6_letter_22 : decode cX6_letter 22 = .ok (.iload_n 1, 1) := by decide +kernel
theorem dX6_letter_23 : decode cX6_letter 23 = .ok (.iaload, 1) := by decide +kernel
theorem dX6_letter_24 : decode cX6_letter 24 = .ok (.iadd, 1) := by decide +kernel
theorem dX6_letter_25 : decode cX6_letter 25 = .ok (.goto 4, 3) := by decide +kernel
theorem dX6_letter_28 : decode cX6_letter 28 = .ok (.iconst (-1), 1) := by decide +kernel
theorem dX6_letter_29 : decode cX6_letter 29 = .ok (.ireturn, 1) := by decide +kernel
theorem dX6_node_0 : decode cX6_node 0 = .ok (.aload_n 0, 1) := by decide +kernel
theorem dX6_node_1 : decode cX6_node 1 = .ok (.invokevirtual 111, 3) := by decide +kernel
theorem dX6_node_4 : decode cX6_node 4 = .ok (.iload_n 1, 1) := by decide +kernel
theorem dX6_node_5 : decode cX6_node 5 = .ok (.i2l, 1) := by decide +kernel
theorem dX6_node_6 : decode cX6_node 6 = .ok (.lconst 0, 1) := by decide +kernel
theorem dX6_node_7 : decode cX6_node 7 = .ok (.aload_n 0, 1) := by decide +kernel
theorem dX6_node_8 : decode cX6_node 8 = .ok (.getfield 65, 3) := by decide +kernel
theorem dX6_node_11 : decode cX6_node 11 = .ok (.iconst 1, 1) := by decide +kernel
theorem dX6_node_12 : decode cX6_node 12 = .ok (.isub, 1) := by decide +kernel
theorem dX6_node_13 : decode cX6_node 13 = .ok (.i2l, 1) := by decide +kernel
theorem dX6_node_14 : decode cX6_node 14 = .ok (.invokestatic 90, 3) := by decide +kernel
theorem dX6_node_17 : decode cX6_node 17 = .ok (.ifCond .eq 15, 3) := by decide +kernel
theorem dX6_node_20 : decode cX6_node 20 = .ok (.iload_n 2, 1) := by decide +kernel
theorem dX6_node_21 : decode cX6_node 21 = .ok (.i2l, 1) := by decide +kernel
theorem dX6_node_22 : decode cX6_node 22 = .ok (.lconst 0, 1) := by decide +kernel
theorem dX6_node_23 : decode cX6_node 23 = .ok (.ldc2_w 114, 3) := by decide +kernel
theorem dX6_node_26 : decode cX6_node 26 = .ok (.invokestatic 90, 3) := by decide +kernel
theorem dX6_node_29 : decode cX6_node 29 = .ok (.ifCond .ne 5, 3) := by decide +kernel
theorem dX6_node_32 : decode cX6_node 32 = .ok (.iconst (-1), 1) := by decide +kernel
theorem dX6_node_33 : decode cX6_node 33 = .ok (.ireturn, 1) := by decide +kernel
theorem dX6_node_34 : decode cX6_node 34 = .ok (.aload_n 0, 1) := by decide +kernel
theorem dX6_node_35 : decode cX6_node 35 = .ok (.getfield 38, 3) := by decide +kernel
theorem dX6_node_38 : decode cX6_node 38 = .ok (.iload_n 1, 1) := by decide +kernel
theorem dX6_node_39 : decode cX6_node 39 = .ok (.iaload, 1) := by decide +kernel
theorem dX6_node_40 : decode cX6_node 40 = .ok (.istore_n 3, 1) := by decide +kernel
theorem dX6_node_41 : decode cX6_node 41 = .ok (.aload_n 0, 1) := by decide +kernel
theorem dX6_node_42 : decode cX6_node 42 = .ok (.getfield 41, 3) := by decide +kernel
theorem dX6_node_45 : decode cX6_node 45 = .ok (.iload_n 1, 1) := by decide +kernel
theorem dX6_node_46 : decode cX6_node 46 = .ok (.iaload, 1) := by decide +kernel
theorem dX6_node_47 : decode cX6_node 47 = .ok (.istore 4, 2) := by decide +kernel
theorem dX6_node_49 : decode cX6_node 49 = .ok (.iload_n 2, 1) := by decide +kernel
theorem dX6_node_50 : decode cX6_node 50 = .ok (.tableswitch 74 0 6 #[42, 45, 47, 47, 56, 62, 68], 42) := by decide +kernel
theorem dX6_node_92 : decode cX6_node 92 = .ok (.iload 4, 2) := by decide +kernel
theorem dX6_node_94 : decode cX6_node 94 = .ok (.ireturn, 1) := by decide +kernel
theorem dX6_node_95 : decode cX6_node 95 = .ok (.iload_n 3, 1) := by decide +kernel
theorem dX6_node_96 : decode cX6_node 96 = .ok (.ireturn, 1) := by decide +kernel
theorem dX6_node_97 : decode cX6_node 97 = .ok (.aload_n 0, 1) := by decide +kernel
theorem dX6_node_98 : decode cX6_node 98 = .ok (.iload_n 3, 1) := by decide +kernel
theorem dX6_node_99 : decode cX6_node 99 = .ok (.iload 4, 2) := by decide +kernel
theorem dX6_node_101 : decode cX6_node 101 = .ok (.iload_n 2, 1) := by decide +kernel
theorem dX6_node_102 : decode cX6_node 102 = .ok (.invokevirtual 116, 3) := by decide +kernel
theorem dX6_node_105 : decode cX6_node 105 = .ok (.ireturn, 1) := by decide +kernel
theorem dX6_node_106 : decode cX6_node 106 = .ok (.aload_n 0, 1) := by decide +kernel
theorem dX6_node_107 : decode cX6_node 107 = .ok (.iload_n 1, 1) := by decide +kernel
theorem dX6_node_108 : decode cX6_node 108 = .ok (.invokevirtual 79, 3) := by decide +kernel
theorem dX6_node_111 : decode cX6_node 111 = .ok (.ireturn, 1) := by decide +kernel
theorem dX6_node_112 : decode cX6_node 112 = .ok (.aload_n 0, 1) := by decide +kernel
theorem dX6_node_113 : decode cX6_node 113 = .ok (.iload_n 1, 1) := by decide +kernel
theorem dX6_node_114 : decode cX6_node 114 = .ok (.invokevirtual 83, 3) := by decide +kernel
theorem dX6_node_117 : decode cX6_node 117 = .ok (.ireturn, 1) := by decide +kernel
theorem dX6_node_118 : decode cX6_node 118 = .ok (.aload_n 0, 1) := by decide +kernel
theorem dX6_node_119 : decode cX6_node 119 = .ok (.iload_n 1, 1) := by decide +kernel
theorem dX6_node_120 : decode cX6_node 120 = .ok (.invokevirtual 120, 3) := by decide +kernel
theorem dX6_node_123 : decode cX6_node 123 = .ok (.ireturn, 1) := by decide +kernel
theorem dX6_node_124 : decode cX6_node 124 = .ok (.iload 4, 2) := by decide +kernel
theorem dX6_node_126 : decode cX6_node 126 = .ok (.iconst 3, 1) := by decide +kernel
theorem dX6_node_127 : decode cX6_node 127 = .ok (.if_icmp .ge 8, 3) := by decide +kernel
theorem dX6_node_130 : decode cX6_node 130 = .ok (.bipush (-4), 2) := by decide +kernel
theorem dX6_node_132 : decode cX6_node 132 = .ok (.goto 14, 3) := by decide +kernel
theorem dX6_node_135 : decode cX6_node 135 = .ok (.aload_n 0, 1) := by decide +kernel
theorem dX6_node_136 : decode cX6_node 136 = .ok (.iload_n 3, 1) := by decide +kernel
theorem dX6_node_137 : decode cX6_node 137 = .ok (.iconst 1, 1) := by decide +kernel
theorem dX6_node_138 : decode cX6_node 138 = .ok (.iadd, 1) := by decide +kernel
theorem dX6_node_139 : decode cX6_node 139 = .ok (.iload 4, 2) := by decide +kernel
theorem dX6_node_141 : decode cX6_node 141 = .ok (.iconst 2, 1) := by decide +kernel
theorem dX6_node_142 : decode cX6_node 142 = .ok (.isub, 1) := by decide +kernel
theorem dX6_node_143 : decode cX6_node 143 = .ok (.invokevirtual 76, 3) := by decide +kernel
theorem dX6_node_146 : decode cX6_node 146 = .ok (.ireturn, 1) := by decide +kernel
theorem dX6_keep_0 : decode cX6_keep 0 = .ok (.iload_n 1, 1) := by decide +kernel
theorem dX6_keep_1 : decode cX6_keep 1 = .ok (.i2l, 1) := by decide +kernel
theorem dX6_keep_2 : decode cX6_keep 2 = .ok (.lconst 0, 1) := by decide +kernel
theorem dX6_keep_3 : decode cX6_keep 3 = .ok (.lconst 1, 1) := by decide +kernel
theorem dX6_keep_4 : decode cX6_keep 4 = .ok (.invokestatic 90, 3) := by decide +kernel
theorem dX6_keep_7 : decode cX6_keep 7 = .ok (.ifCond .ne 5, 3) := by decide +kernel
theorem dX6_keep_10 : decode cX6_keep 10 = .ok (.iconst (-1), 1) := by decide +kernel
theorem dX6_keep_11 : decode cX6_keep 11 = .ok (.ireturn, 1) := by decide +kernel
theorem dX6_keep_12 : decode cX6_keep 12 = .ok (.aload_n 0, 1) := by decide +kernel
theorem dX6_keep_13 : decode cX6_keep 13 = .ok (.getfield 7, 3) := by decide +kernel
theorem dX6_keep_16 : decode cX6_keep 16 = .ok (.iconst 0, 1) := by decide +kernel
theorem dX6_keep_17 : decode cX6_keep 17 = .ok (.aload_n 0, 1) := by decide +kernel
theorem dX6_keep_18 : decode cX6_keep 18 = .ok (.getfield 16, 3) := by decide +kernel
theorem dX6_keep_21 : decode cX6_keep 21 = .ok (.bipush 48, 2) := by decide +kernel
theorem dX6_keep_23 : decode cX6_keep 23 = .ok (.iload_n 1, 1) := by decide +kernel
theorem dX6_keep_24 : decode cX6_keep 24 = .ok (.imul, 1) := by decide +kernel
theorem dX6_keep_25 : decode cX6_keep 25 = .ok (.aload_n 0, 1) := by decide +kernel
theorem dX6_keep_26 : decode cX6_keep 26 = .ok (.getfield 69, 3) := by decide +kernel
theorem dX6_keep_29 : decode cX6_keep 29 = .ok (.invokestatic 97, 3) := by decide +kernel
theorem dX6_keep_32 : decode cX6_keep 32 = .ok (.aload_n 0, 1) := by decide +kernel
theorem dX6_keep_33 : decode cX6_keep 33 = .ok (.getfield 19, 3) := by decide +kernel
theorem dX6_keep_36 : decode cX6_keep 36 = .ok (.iload_n 1, 1) := by decide +kernel
theorem dX6_keep_37 : decode cX6_keep 37 = .ok (.aload_n 0, 1) := by decide +kernel
theorem dX6_keep_38 : decode cX6_keep 38 = .ok (.getfield 69, 3) := by decide +kernel
theorem dX6_keep_41 : decode cX6_keep 41 = .ok (.iastore, 1) := by decide +kernel
theorem dX6_keep_42 : decode cX6_keep 42 = .ok (.aload_n 0, 1) := by decide +kernel
theorem dX6_keep_43 : decode cX6_keep 43 = .ok (.getfield 69, 3) := by decide +kernel
theorem dX6_keep_46 : decode cX6_keep 46 = .ok (.ireturn, 1) := by decide +kernel
theorem dX6_back_0 : decode cX6_back 0 = .ok (.iload_n 1, 1) := by decide +kernel
theorem dX6_back_1 : decode cX6_back 1 = .ok (.i2l, 1) := by decide +kernel
theorem dX6_back_2 : decode cX6_back 2 = .ok (.lconst 0, 1) := by decide +kernel
theorem dX6_back_3 : decode cX6_back 3 = .ok (.lconst 1, 1) := by decide +kernel
theorem dX6_back_4 : decode cX6_back 4 = .ok (.invokestatic 90, 3) := by decide +kernel
theorem dX6_back_7 : decode cX6_back 7 = .ok (.ifCond .ne 5, 3) := by decide +kernel
theorem dX6_back_10 : decode cX6_back 10 = .ok (.iconst (-1), 1) := by decide +kernel
theorem dX6_back_11 : decode cX6_back 11 = .ok (.ireturn, 1) := by decide +kernel
theorem dX6_back_12 : decode cX6_back 12 = .ok (.aload_n 0, 1) := by decide +kernel
theorem dX6_back_13 : decode cX6_back 13 = .ok (.getfield 19, 3) := by decide +kernel
theorem dX6_back_16 : decode cX6_back 16 = .ok (.iload_n 1, 1) := by decide +kernel
theorem dX6_back_17 : decode cX6_back 17 = .ok (.iaload, 1) := by decide +kernel
theorem dX6_back_18 : decode cX6_back 18 = .ok (.ifCond .ge 6, 3) := by decide +kernel
theorem dX6_back_21 : decode cX6_back 21 = .ok (.bipush (-2), 2) := by decide +kernel
theorem dX6_back_23 : decode cX6_back 23 = .ok (.ireturn, 1) := by decide +kernel
theorem dX6_back_24 : decode cX6_back 24 = .ok (.aload_n 0, 1) := by decide +kernel
theorem dX6_back_25 : decode cX6_back 25 = .ok (.getfield 16, 3) := by decide +kernel
theorem dX6_back_28 : decode cX6_back 28 = .ok (.bipush 48, 2) := by decide +kernel
theorem dX6_back_30 : decode cX6_back 30 = .ok (.iload_n 1, 1) := by decide +kernel
theorem dX6_back_31 : decode cX6_back 31 = .ok (.imul, 1) := by decide +kernel
theorem dX6_back_32 : decode cX6_back 32 = .ok (.aload_n 0, 1) := by decide +kernel
theorem dX6_back_33 : decode cX6_back 33 = .ok (.getfield 7, 3) := by decide +kernel
theorem dX6_back_36 : decode cX6_back 36 = .ok (.iconst 0, 1) := by decide +kernel
theorem dX6_back_37 : decode cX6_back 37 = .ok (.aload_n 0, 1) := by decide +kernel
theorem dX6_back_38 : decode cX6_back 38 = .ok (.getfield 19, 3) := by decide +kernel
theorem dX6_back_41 : decode cX6_back 41 = .ok (.iload_n 1, 1) := by decide +kernel
theorem dX6_back_42 : decode cX6_back 42 = .ok (.iaload, 1) := by decide +kernel
theorem dX6_back_43 : decode cX6_back 43 = .ok (.invokestatic 97, 3) := by decide +kernel
theorem dX6_back_46 : decode cX6_back 46 = .ok (.aload_n 0, 1) := by decide +kernel
theorem dX6_back_47 : decode cX6_back 47 = .ok (.aload_n 0, 1) := by decide +kernel
theorem dX6_back_48 : decode cX6_back 48 = .ok (.getfield 19, 3) := by decide +kernel
theorem dX6_back_51 : decode cX6_back 51 = .ok (.iload_n 1, 1) := by decide +kernel
theorem dX6_back_52 : decode cX6_back 52 = .ok (.iaload, 1) := by decide +kernel
theorem dX6_back_53 : decode cX6_back 53 = .ok (.putfield 69, 3) := by decide +kernel
theorem dX6_back_56 : decode cX6_back 56 = .ok (.aload_n 0, 1) := by decide +kernel
theorem dX6_back_57 : decode cX6_back 57 = .ok (.iconst 0, 1) := by decide +kernel
theorem dX6_back_58 : decode cX6_back 58 = .ok (.putfield 94, 3) := by decide +kernel
theorem dX6_back_61 : decode cX6_back 61 = .ok (.aload_n 0, 1) := by decide +kernel
theorem dX6_back_62 : decode cX6_back 62 = .ok (.getfield 69, 3) := by decide +kernel
theorem dX6_back_65 : decode cX6_back 65 = .ok (.ireturn, 1) := by decide +kernel
theorem dX6_isImaged_0 : decode cX6_isImaged 0 = .ok (.iconst 0, 1) := by decide +kernel
theorem dX6_isImaged_1 : decode cX6_isImaged 1 = .ok (.istore 4, 2) := by decide +kernel
theorem dX6_isImaged_3 : decode cX6_isImaged 3 = .ok (.iconst 0, 1) := by decide +kernel
theorem dX6_isImaged_4 : decode cX6_isImaged 4 = .ok (.istore 5, 2) := by decide +kernel
theorem dX6_isImaged_6 : decode cX6_isImaged 6 = .ok (.iload 5, 2) := by decide +kernel
theorem dX6_isImaged_8 : decode cX6_isImaged 8 = .ok (.iload_n 3, 1) := by decide +kernel
theorem dX6_isImaged_9 : decode cX6_isImaged 9 = .ok (.iadd, 1) := by decide +kernel
theorem dX6_isImaged_10 : decode cX6_isImaged 10 = .ok (.aload_n 0, 1) := by decide +kernel
theorem dX6_isImaged_11 : decode cX6_isImaged 11 = .ok (.getfield 19, 3) := by decide +kernel
theorem dX6_isImaged_14 : decode cX6_isImaged 14 = .ok (.iload_n 1, 1) := by decide +kernel
theorem dX6_isImaged_15 : decode cX6_isImaged 15 = .ok (.iaload, 1) := by decide +kernel
theorem dX6_isImaged_16 : decode cX6_isImaged 16 = .ok (.if_icmp .gt 75, 3) := by decide +kernel
theorem dX6_isImaged_19 : decode cX6_isImaged 19 = .ok (.iload 4, 2) := by decide +kernel
theorem dX6_isImaged_21 : decode cX6_isImaged 21 = .ok (.ifCond .ne 70, 3) := by decide +kernel
theorem dX6_isImaged_24 : decode cX6_isImaged 24 = .ok (.iconst 1, 1) := by decide +kernel
theorem dX6_isImaged_25 : decode cX6_isImaged 25 = .ok (.istore 6, 2) := by decide +kernel
theorem dX6_isImaged_27 : decode cX6_isImaged 27 = .ok (.iconst 0, 1) := by decide +kernel
theorem dX6_isImaged_28 : decode cX6_isImaged 28 = .ok (.istore 7, 2) := by decide +kernel
theorem dX6_isImaged_30 : decode cX6_isImaged 30 = .ok (.iload 7, 2) := by decide +kernel
theorem dX6_isImaged_32 : decode cX6_isImaged 32 = .ok (.iload_n 3, 1) := by decide +kernel
theorem dX6_isImaged_33 : decode cX6_isImaged 33 = .ok (.if_icmp .ge 48, 3) := by decide +kernel
theorem dX6_isImaged_36 : decode cX6_isImaged 36 = .ok (.iload 6, 2) := by decide +kernel
theorem dX6_isImaged_38 : decode cX6_isImaged 38 = .ok (.ifCond .eq 43, 3) := by decide +kernel
theorem dX6_isImaged_41 : decode cX6_isImaged 41 = .ok (.aload_n 0, 1) := by decide +kernel
theorem dX6_isImaged_42 : decode cX6_isImaged 42 = .ok (.getfield 16, 3) := by decide +kernel
theorem dX6_isImaged_45 : decode cX6_isImaged 45 = .ok (.bipush 48, 2) := by decide +kernel
theorem dX6_isImaged_47 : decode cX6_isImaged 47 = .ok (.iload_n 1, 1) := by decide +kernel
theorem dX6_isImaged_48 : decode cX6_isImaged 48 = .ok (.imul, 1) := by decide +kernel
theorem dX6_isImaged_49 : decode cX6_isImaged 49 = .ok (.iload 5, 2) := by decide +kernel
theorem dX6_isImaged_51 : decode cX6_isImaged 51 = .ok (.iadd, 1) := by decide +kernel
theorem dX6_isImaged_52 : decode cX6_isImaged 52 = .ok (.iload 7, 2) := by decide +kernel
theorem dX6_isImaged_54 : decode cX6_isImaged 54 = .ok (.iadd, 1) := by decide +kernel
theorem dX6_isImaged_55 : decode cX6_isImaged 55 = .ok (.iaload, 1) := by decide +kernel
theorem dX6_isImaged_56 : decode cX6_isImaged 56 = .ok (.aload_n 0, 1) := by decide +kernel
theorem dX6_isImaged_57 : decode cX6_isImaged 57 = .ok (.getfield 7, 3) := by decide +kernel
theorem dX6_isImaged_60 : decode cX6_isImaged 60 = .ok (.iload_n 2, 1) := by decide +kernel
theorem dX6_isImaged_61 : decode cX6_isImaged 61 = .ok (.iload 7, 2) := by decide +kernel
theorem dX6_isImaged_63 : decode cX6_isImaged 63 = .ok (.iadd, 1) := by decide +kernel
theorem dX6_isImaged_64 : decode cX6_isImaged 64 = .ok (.iaload, 1) := by decide +kernel
theorem dX6_isImaged_65 : decode cX6_isImaged 65 = .ok (.if_icmp .ne 7, 3) := by decide +kernel
theorem dX6_isImaged_68 : decode cX6_isImaged 68 = .ok (.iconst 1, 1) := by decide +kernel
theorem dX6_isImaged_69 : decode cX6_isImaged 69 = .ok (.goto 4, 3) := by decide +kernel
theorem dX6_isImaged_72 : decode cX6_isImaged 72 = .ok (.iconst 0, 1) := by decide +kernel
theorem dX6_isImaged_73 : decode cX6_isImaged 73 = .ok (.istore 6, 2) := by decide +kernel
theorem dX6_isImaged_75 : decode cX6_isImaged 75 = .ok (.iinc 7 1, 3) := by decide +kernel
theorem dX6_isImaged_78 : decode cX6_isImaged 78 = .ok (.goto (-48), 3) := by decide +kernel
theorem dX6_isImaged_81 : decode cX6_isImaged 81 = .ok (.iload 6, 2) := by decide +kernel
theorem dX6_isImaged_83 : decode cX6_isImaged 83 = .ok (.istore 4, 2) := by decide +kernel
theorem dX6_isImaged_85 : decode cX6_isImaged 85 = .ok (.iinc 5 1, 3) := by decide +kernel
theorem dX6_isImaged_88 : decode cX6_isImaged 88 = .ok (.goto (-82), 3) := by decide +kernel
theorem dX6_isImaged_91 : decode cX6_isImaged 91 = .ok (.iload 4, 2) := by decide +kernel
theorem dX6_isImaged_93 : decode cX6_isImaged 93 = .ok (.ireturn, 1) := by decide +kernel
theorem dX6_common_0 : decode cX6_common 0 = .ok (.iload_n 1, 1) := by decide +kernel
theorem dX6_common_1 : decode cX6_common 1 = .ok (.i2l, 1) := by decide +kernel
theorem dX6_common_2 : decode cX6_common 2 = .ok (.lconst 0, 1) := by decide +kernel
theorem dX6_common_3 : decode cX6_common 3 = .ok (.lconst 1, 1) := by decide +kernel
theorem dX6_common_4 : decode cX6_common 4 = .ok (.invokestatic 90, 3) := by decide +kernel
theorem dX6_common_7 : decode cX6_common 7 = .ok (.ifCond .eq 13, 3) := by decide +kernel
theorem dX6_common_10 : decode cX6_common 10 = .ok (.iload_n 2, 1) := by decide +kernel
theorem dX6_common_11 : decode cX6_common 11 = .ok (.i2l, 1) := by decide +kernel
theorem dX6_common_12 : decode cX6_common 12 = .ok (.lconst 0, 1) := by decide +kernel
theorem dX6_common_13 : decode cX6_common 13 = .ok (.lconst 1, 1) := by decide +kernel
theorem dX6_common_14 : decode cX6_common 14 = .ok (.invokestatic 90, 3) := by decide +kernel
theorem dX6_common_17 : decode cX6_common 17 = .ok (.ifCond .ne 5, 3) := by decide +kernel
theorem dX6_common_20 : decode cX6_common 20 = .ok (.iconst (-1), 1) := by decide +kernel
theorem dX6_common_21 : decode cX6_common 21 = .ok (.ireturn, 1) := by decide +kernel
theorem dX6_common_22 : decode cX6_common 22 = .ok (.aload_n 0, 1) := by decide +kernel
theorem dX6_common_23 : decode cX6_common 23 = .ok (.getfield 19, 3) := by decide +kernel
theorem dX6_common_26 : decode cX6_common 26 = .ok (.iload_n 1, 1) := by decide +kernel
theorem dX6_common_27 : decode cX6_common 27 = .ok (.iaload, 1) := by decide +kernel
theorem dX6_common_28 : decode cX6_common 28 = .ok (.ifCond .ge 6, 3) := by decide +kernel
theorem dX6_common_31 : decode cX6_common 31 = .ok (.bipush (-2), 2) := by decide +kernel
theorem dX6_common_33 : decode cX6_common 33 = .ok (.ireturn, 1) := by decide +kernel
theorem dX6_common_34 : decode cX6_common 34 = .ok (.aload_n 0, 1) := by decide +kernel
theorem dX6_common_35 : decode cX6_common 35 = .ok (.invokevirtual 111, 3) := by decide +kernel
theorem dX6_common_38 : decode cX6_common 38 = .ok (.iconst 0, 1) := by decide +kernel
theorem dX6_common_39 : decode cX6_common 39 = .ok (.istore_n 3, 1) := by decide +kernel
theorem dX6_common_40 : decode cX6_common 40 = .ok (.iconst 0, 1) := by decide +kernel
theorem dX6_common_41 : decode cX6_common 41 = .ok (.istore 4, 2) := by decide +kernel
theorem dX6_common_43 : decode cX6_common 43 = .ok (.iconst 0, 1) := by decide +kernel
theorem dX6_common_44 : decode cX6_common 44 = .ok (.istore 5, 2) := by decide +kernel
theorem dX6_common_46 : decode cX6_common 46 = .ok (.iload 5, 2) := by decide +kernel
theorem dX6_common_48 : decode cX6_common 48 = .ok (.aload_n 0, 1) := by decide +kernel
theorem dX6_common_49 : decode cX6_common 49 = .ok (.getfield 65, 3) := by decide +kernel
theorem dX6_common_52 : decode cX6_common 52 = .ok (.if_icmp .ge 74, 3) := by decide +kernel
theorem dX6_common_55 : decode cX6_common 55 = .ok (.aload_n 0, 1) := by decide +kernel
theorem dX6_common_56 : decode cX6_common 56 = .ok (.iload_n 1, 1) := by decide +kernel
theorem dX6_common_57 : decode cX6_common 57 = .ok (.aload_n 0, 1) := by decide +kernel
theorem dX6_common_58 : decode cX6_common 58 = .ok (.getfield 38, 3) := by decide +kernel
theorem dX6_common_61 : decode cX6_common 61 = .ok (.iload 5, 2) := by decide +kernel
theorem dX6_common_63 : decode cX6_common 63 = .ok (.iaload, 1) := by decide +kernel
theorem dX6_common_64 : decode cX6_common 64 = .ok (.aload_n 0, 1) := by decide +kernel
theorem dX6_common_65 : decode cX6_common 65 = .ok (.getfield 41, 3) := by decide +kernel
theorem dX6_common_68 : decode cX6_common 68 = .ok (.iload 5, 2) := by decide +kernel
theorem dX6_common_70 : decode cX6_common 70 = .ok (.iaload, 1) := by decide +kernel
theorem dX6_common_71 : decode cX6_common 71 = .ok (.invokevirtual 123, 3) := by decide +kernel
theorem dX6_common_74 : decode cX6_common 74 = .ok (.istore 6, 2) := by decide +kernel
theorem dX6_common_76 : decode cX6_common 76 = .ok (.iload_n 3, 1) := by decide +kernel
theorem dX6_common_77 : decode cX6_common 77 = .ok (.iload 6, 2) := by decide +kernel
theorem dX6_common_79 : decode cX6_common 79 = .ok (.ifCond .eq 7, 3) := by decide +kernel
theorem dX6_common_82 : decode cX6_common 82 = .ok (.iconst 1, 1) := by decide +kernel
theorem dX6_common_83 : decode cX6_common 83 = .ok (.goto 4, 3) := by decide +kernel
theorem dX6_common_86 : decode cX6_common 86 = .ok (.iconst 0, 1) := by decide +kernel
theorem dX6_common_87 : decode cX6_common 87 = .ok (.iadd, 1) := by decide +kernel
theorem dX6_common_88 : decode cX6_common 88 = .ok (.istore_n 3, 1) := by decide +kernel
theorem dX6_common_89 : decode cX6_common 89 = .ok (.iload 6, 2) := by decide +kernel
theorem dX6_common_91 : decode cX6_common 91 = .ok (.ifCond .eq 25, 3) := by decide +kernel
theorem dX6_common_94 : decode cX6_common 94 = .ok (.aload_n 0, 1) := by decide +kernel
theorem dX6_common_95 : decode cX6_common 95 = .ok (.getfield 41, 3) := by decide +kernel
theorem dX6_common_98 : decode cX6_common 98 = .ok (.iload 5, 2) := by decide +kernel
theorem dX6_common_100 : decode cX6_common 100 = .ok (.iaload, 1) := by decide +kernel
theorem dX6_common_101 : decode cX6_common 101 = .ok (.iload 4, 2) := by decide +kernel
theorem dX6_common_103 : decode cX6_common 103 = .ok (.if_icmp .le 13, 3) := by decide +kernel
theorem dX6_common_106 : decode cX6_common 106 = .ok (.aload_n 0, 1) := by decide +kernel
theorem dX6_common_107 : decode cX6_common 107 = .ok (.getfield 41, 3) := by decide +kernel
theorem dX6_common_110 : decode cX6_common 110 = .ok (.iload 5, 2) := by decide +kernel
theorem dX6_common_112 : decode cX6_common 112 = .ok (.iaload, 1) := by decide +kernel
theorem dX6_common_113 : decode cX6_common 113 = .ok (.goto 5, 3) := by decide +kernel
theorem dX6_common_116 : decode cX6_common 116 = .ok (.iload 4, 2) := by decide +kernel
theorem dX6_common_118 : decode cX6_common 118 = .ok (.istore 4, 2) := by decide +kernel
theorem dX6_common_120 : decode cX6_common 120 = .ok (.iinc 5 1, 3) := by decide +kernel
theorem dX6_common_123 : decode cX6_common 123 = .ok (.goto (-77), 3) := by decide +kernel
theorem dX6_common_126 : decode cX6_common 126 = .ok (.iload_n 2, 1) := by decide +kernel
theorem dX6_common_127 : decode cX6_common 127 = .ok (.ifCond .ne 7, 3) := by decide +kernel
theorem dX6_common_130 : decode cX6_common 130 = .ok (.iload_n 3, 1) := by decide +kernel
theorem dX6_common_131 : decode cX6_common 131 = .ok (.goto 5, 3) := by decide +kernel
theorem dX6_common_134 : decode cX6_common 134 = .ok (.iload 4, 2) := by decide +kernel
theorem dX6_common_136 : decode cX6_common 136 = .ok (.ireturn, 1) := by decide +kernel
theorem dX6_ends_0 : decode cX6_ends 0 = .ok (.iload_n 1, 1) := by decide +kernel
theorem dX6_ends_1 : decode cX6_ends 1 = .ok (.i2l, 1) := by decide +kernel
theorem dX6_ends_2 : decode cX6_ends 2 = .ok (.lconst 0, 1) := by decide +kernel
theorem dX6_ends_3 : decode cX6_ends 3 = .ok (.aload_n 0, 1) := by decide +kernel
theorem dX6_ends_4 : decode cX6_ends 4 = .ok (.getfield 69, 3) := by decide +kernel
theorem dX6_ends_7 : decode cX6_ends 7 = .ok (.iconst 1, 1) := by decide +kernel
theorem dX6_ends_8 : decode cX6_ends 8 = .ok (.isub, 1) := by decide +kernel
theorem dX6_ends_9 : decode cX6_ends 9 = .ok (.i2l, 1) := by decide +kernel
theorem dX6_ends_10 : decode cX6_ends 10 = .ok (.invokestatic 90, 3) := by decide +kernel
theorem dX6_ends_13 : decode cX6_ends 13 = .ok (.ifCond .eq 8, 3) := by decide +kernel
theorem dX6_ends_16 : decode cX6_ends 16 = .ok (.iload_n 2, 1) := by decide +kernel
theorem dX6_ends_17 : decode cX6_ends 17 = .ok (.iconst (-1), 1) := by decide +kernel
theorem dX6_ends_18 : decode cX6_ends 18 = .ok (.if_icmp .ge 5, 3) := by decide +kernel
theorem dX6_ends_21 : decode cX6_ends 21 = .ok (.iconst (-1), 1) := by decide +kernel
theorem dX6_ends_22 : decode cX6_ends 22 = .ok (.ireturn, 1) := by decide +kernel
theorem dX6_ends_23 : decode cX6_ends 23 = .ok (.iconst 0, 1) := by decide +kernel
theorem dX6_ends_24 : decode cX6_ends 24 = .ok (.istore_n 3, 1) := by decide +kernel
theorem dX6_ends_25 : decode cX6_ends 25 = .ok (.aload_n 0, 1) := by decide +kernel
theorem dX6_ends_26 : decode cX6_ends 26 = .ok (.iload_n 1, 1) := by decide +kernel
theorem dX6_ends_27 : decode cX6_ends 27 = .ok (.bipush 49, 2) := by decide +kernel
theorem dX6_ends_29 : decode cX6_ends 29 = .ok (.invokevirtual 57, 3) := by decide +kernel
theorem dX6_ends_32 : decode cX6_ends 32 = .ok (.istore 4, 2) := by decide +kernel
theorem dX6_ends_34 : decode cX6_ends 34 = .ok (.iload 4, 2) := by decide +kernel
theorem dX6_ends_36 : decode cX6_ends 36 = .ok (.ifCond .le 26, 3) := by decide +kernel
theorem dX6_ends_39 : decode cX6_ends 39 = .ok (.iload_n 3, 1) := by decide +kernel
theorem dX6_ends_40 : decode cX6_ends 40 = .ok (.iload_n 2, 1) := by decide +kernel
theorem dX6_ends_41 : decode cX6_ends 41 = .ok (.if_icmp .ne 6, 3) := by decide +kernel
theorem dX6_ends_44 : decode cX6_ends 44 = .ok (.iload 4, 2) := by decide +kernel
theorem dX6_ends_46 : decode cX6_ends 46 = .ok (.ireturn, 1) := by decide +kernel
theorem dX6_ends_47 : decode cX6_ends 47 = .ok (.iinc 3 1, 3) := by decide +kernel
theorem dX6_ends_50 : decode cX6_ends 50 = .ok (.aload_n 0, 1) := by decide +kernel
theorem dX6_ends_51 : decode cX6_ends 51 = .ok (.iload_n 1, 1) := by decide +kernel
theorem dX6_ends_52 : decode cX6_ends 52 = .ok (.iload 4, 2) := by decide +kernel
theorem dX6_ends_54 : decode cX6_ends 54 = .ok (.invokevirtual 57, 3) := by decide +kernel
theorem dX6_ends_57 : decode cX6_ends 57 = .ok (.istore 4, 2) := by decide +kernel
theorem dX6_ends_59 : decode cX6_ends 59 = .ok (.goto (-25), 3) := by decide +kernel
theorem dX6_ends_62 : decode cX6_ends 62 = .ok (.iload_n 2, 1) := by decide +kernel
theorem dX6_ends_63 : decode cX6_ends 63 = .ok (.iconst (-1), 1) := by decide +kernel
theorem dX6_ends_64 : decode cX6_ends 64 = .ok (.if_icmp .ne 7, 3) := by decide +kernel
theorem dX6_ends_67 : decode cX6_ends 67 = .ok (.iload_n 3, 1) := by decide +kernel
theorem dX6_ends_68 : decode cX6_ends 68 = .ok (.goto 5, 3) := by decide +kernel
theorem dX6_ends_71 : decode cX6_ends 71 = .ok (.bipush (-4), 2) := by decide +kernel
theorem dX6_ends_73 : decode cX6_ends 73 = .ok (.ireturn, 1) := by decide +kernel
theorem dX6_groups_0 : decode cX6_groups 0 = .ok (.iload_n 1, 1) := by decide +kernel
theorem dX6_groups_1 : decode cX6_groups 1 = .ok (.i2l, 1) := by decide +kernel
theorem dX6_groups_2 : decode cX6_groups 2 = .ok (.lconst 0, 1) := by decide +kernel
theorem dX6_groups_3 : decode cX6_groups 3 = .ok (.aload_n 0, 1) := by decide +kernel
theorem dX6_groups_4 : decode cX6_groups 4 = .ok (.getfield 69, 3) := by decide +kernel
theorem dX6_groups_7 : decode cX6_groups 7 = .ok (.iconst 1, 1) := by decide +kernel
theorem dX6_groups_8 : decode cX6_groups 8 = .ok (.isub, 1) := by decide +kernel
theorem dX6_groups_9 : decode cX6_groups 9 = .ok (.i2l, 1) := by decide +kernel
theorem dX6_groups_10 : decode cX6_groups 10 = .ok (.invokestatic 90, 3) := by decide +kernel
theorem dX6_groups_13 : decode cX6_groups 13 = .ok (.ifCond .ne 5, 3) := by decide +kernel
theorem dX6_groups_16 : decode cX6_groups 16 = .ok (.iconst (-1), 1) := by decide +kernel
theorem dX6_groups_17 : decode cX6_groups 17 = .ok (.ireturn, 1) := by decide +kernel
theorem dX6_groups_18 : decode cX6_groups 18 = .ok (.aload_n 0, 1) := by decide +kernel
theorem dX6_groups_19 : decode cX6_groups 19 = .ok (.invokevirtual 111, 3) := by decide +kernel
theorem dX6_groups_22 : decode cX6_groups 22 = .ok (.aload_n 0, 1) := by decide +kernel
theorem dX6_groups_23 : decode cX6_groups 23 = .ok (.iload_n 1, 1) := by decide +kernel
theorem dX6_groups_24 : decode cX6_groups 24 = .ok (.bipush 49, 2) := by decide +kernel
theorem dX6_groups_26 : decode cX6_groups 26 = .ok (.invokevirtual 57, 3) := by decide +kernel
theorem dX6_groups_29 : decode cX6_groups 29 = .ok (.istore_n 2, 1) := by decide +kernel
theorem dX6_groups_30 : decode cX6_groups 30 = .ok (.aload_n 0, 1) := by decide +kernel
theorem dX6_groups_31 : decode cX6_groups 31 = .ok (.iload_n 1, 1) := by decide +kernel
theorem dX6_groups_32 : decode cX6_groups 32 = .ok (.iconst 1, 1) := by decide +kernel
theorem dX6_groups_33 : decode cX6_groups 33 = .ok (.iadd, 1) := by decide +kernel
theorem dX6_groups_34 : decode cX6_groups 34 = .ok (.iload_n 2, 1) := by decide +kernel
theorem dX6_groups_35 : decode cX6_groups 35 = .ok (.isub, 1) := by decide +kernel
theorem dX6_groups_36 : decode cX6_groups 36 = .ok (.iload_n 2, 1) := by decide +kernel
theorem dX6_groups_37 : decode cX6_groups 37 = .ok (.invokevirtual 76, 3) := by decide +kernel
theorem dX6_groups_40 : decode cX6_groups 40 = .ok (.istore_n 3, 1) := by decide +kernel
theorem dX6_groups_41 : decode cX6_groups 41 = .ok (.iconst 0, 1) := by decide +kernel
theorem dX6_groups_42 : decode cX6_groups 42 = .ok (.istore 4, 2) := by decide +kernel
theorem dX6_groups_44 : decode cX6_groups 44 = .ok (.iload_n 3, 1) := by decide +kernel
theorem dX6_groups_45 : decode cX6_groups 45 = .ok (.bipush (-4), 2) := by decide +kernel
theorem dX6_groups_47 : decode cX6_groups 47 = .ok (.if_icmp .eq 15, 3) := by decide +kernel
theorem dX6_groups_50 : decode cX6_groups 50 = .ok (.iinc 4 1, 3) := by decide +kernel
theorem dX6_groups_53 : decode cX6_groups 53 = .ok (.aload_n 0, 1) := by decide +kernel
theorem dX6_groups_54 : decode cX6_groups 54 = .ok (.iload_n 3, 1) := by decide +kernel
theorem dX6_groups_55 : decode cX6_groups 55 = .ok (.invokevirtual 120, 3) := by decide +kernel
theorem dX6_groups_58 : decode cX6_groups 58 = .ok (.istore_n 3, 1) := by decide +kernel
theorem dX6_groups_59 : decode cX6_groups 59 = .ok (.goto (-15), 3) := by decide +kernel
theorem dX6_groups_62 : decode cX6_groups 62 = .ok (.iload 4, 2) := by decide +kernel
theorem dX6_groups_64 : decode cX6_groups 64 = .ok (.ireturn, 1) := by decide +kernel
theorem dX6_layCuts_0 : decode cX6_layCuts 0 = .ok (.aload_n 0, 1) := by decide +kernel
theorem dX6_layCuts_1 : decode cX6_layCuts 1 = .ok (.getfield 44, 3) := by decide +kernel
theorem dX6_layCuts_4 : decode cX6_layCuts 4 = .ok (.iload_n 1, 1) := by decide +kernel
theorem dX6_layCuts_5 : decode cX6_layCuts 5 = .ok (.iconst 0, 1) := by decide +kernel
theorem dX6_layCuts_6 : decode cX6_layCuts 6 = .ok (.iastore, 1) := by decide +kernel
theorem dX6_layCuts_7 : decode cX6_layCuts 7 = .ok (.iload_n 1, 1) := by decide +kernel
theorem dX6_layCuts_8 : decode cX6_layCuts 8 = .ok (.iconst 1, 1) := by decide +kernel
theorem dX6_layCuts_9 : decode cX6_layCuts 9 = .ok (.isub, 1) := by decide +kernel
theorem dX6_layCuts_10 : decode cX6_layCuts 10 = .ok (.istore_n 3, 1) := by decide +kernel
theorem dX6_layCuts_11 : decode cX6_layCuts 11 = .ok (.iload_n 3, 1) := by decide +kernel
theorem dX6_layCuts_12 : decode cX6_layCuts 12 = .ok (.ifCond .lt 84, 3) := by decide +kernel
theorem dX6_layCuts_15 : decode cX6_layCuts 15 = .ok (.aload_n 0, 1) := by decide +kernel
theorem dX6_layCuts_16 : decode cX6_layCuts 16 = .ok (.getfield 44, 3) := by decide +kernel
theorem dX6_layCuts_19 : decode cX6_layCuts 19 = .ok (.iload_n 3, 1) := by decide +kernel
theorem dX6_layCuts_20 : decode cX6_layCuts 20 = .ok (.bipush 99, 2) := by decide +kernel
theorem dX6_layCuts_22 : decode cX6_layCuts 22 = .ok (.iastore, 1) := by decide +kernel
theorem dX6_layCuts_23 : decode cX6_layCuts 23 = .ok (.iload_n 2, 1) := by decide +kernel
theorem dX6_layCuts_24 : decode cX6_layCuts 24 = .ok (.istore 4, 2) := by decide +kernel
theorem dX6_layCuts_26 : decode cX6_layCuts 26 = .ok (.iload_n 3, 1) := by decide +kernel
theorem dX6_layCuts_27 : decode cX6_layCuts 27 = .ok (.iload 4, 2) := by decide +kernel
theorem dX6_layCuts_29 : decode cX6_layCuts 29 = .ok (.iadd, 1) := by decide +kernel
theorem dX6_layCuts_30 : decode cX6_layCuts 30 = .ok (.iload_n 1, 1) := by decide +kernel
theorem dX6_layCuts_31 : decode cX6_layCuts 31 = .ok (.if_icmp .gt 59, 3) := by decide +kernel
theorem dX6_layCuts_34 : decode cX6_layCuts 34 = .ok (.aload_n 0, 1) := by decide +kernel
theorem dX6_layCuts_35 : decode cX6_layCuts 35 = .ok (.iload_n 3, 1) := by decide +kernel
theorem dX6_layCuts_36 : decode cX6_layCuts 36 = .ok (.iload 4, 2) := by decide +kernel
theorem dX6_layCuts_38 : decode cX6_layCuts 38 = .ok (.invokevirtual 53, 3) := by decide +kernel
theorem dX6_layCuts_41 : decode cX6_layCuts 41 = .ok (.ifCond .eq 40, 3) := by decide +kernel
theorem dX6_layCuts_44 : decode cX6_layCuts 44 = .ok (.aload_n 0, 1) := by decide +kernel
theorem dX6_layCuts_45 : decode cX6_layCuts 45 = .ok (.getfield 44, 3) := by decide +kernel
theorem dX6_layCuts_48 : decode cX6_layCuts 48 = .ok (.iload_n 3, 1) := by decide +kernel
theorem dX6_layCuts_49 : decode cX6_layCuts 49 = .ok (.iload 4, 2) := by decide +kernel
theorem dX6_layCuts_51 : decode cX6_layCuts 51 = .ok (.iadd, 1) := by decide +kernel
theorem dX6_layCuts_52 : decode cX6_layCuts 52 = .ok (.iaload, 1) := by decide +kernel
theorem dX6_layCuts_53 : decode cX6_layCuts 53 = .ok (.iconst 1, 1) := by decide +kernel
theorem dX6_layCuts_54 : decode cX6_layCuts 54 = .ok (.iadd, 1) := by decide +kernel
theorem dX6_layCuts_55 : decode cX6_layCuts 55 = .ok (.aload_n 0, 1) := by decide +kernel
theorem dX6_layCuts_56 : decode cX6_layCuts 56 = .ok (.getfield 44, 3) := by decide +kernel
theorem dX6_layCuts_59 : decode cX6_layCuts 59 = .ok (.iload_n 3, 1) := by decide +kernel
theorem dX6_layCuts_60 : decode cX6_layCuts 60 = .ok (.iaload, 1) := by decide +kernel
theorem dX6_layCuts_61 : decode cX6_layCuts 61 = .ok (.if_icmp .ge 20, 3) := by decide +kernel
theorem dX6_layCuts_64 : decode cX6_layCuts 64 = .ok (.aload_n 0, 1) := by decide +kernel
theorem dX6_layCuts_65 : decode cX6_layCuts 65 = .ok (.getfield 44, 3) := by decide +kernel
theorem dX6_layCuts_68 : decode cX6_layCuts 68 = .ok (.iload_n 3, 1) := by decide +kernel
theorem dX6_layCuts_69 : decode cX6_layCuts 69 = .ok (.aload_n 0, 1) := by decide +kernel
theorem dX6_layCuts_70 : decode cX6_layCuts 70 = .ok (.getfield 44, 3) := by decide +kernel
theorem dX6_layCuts_73 : decode cX6_layCuts 73 = .ok (.iload_n 3, 1) := by decide +kernel
theorem dX6_layCuts_74 : decode cX6_layCuts 74 = .ok (.iload 4, 2) := by decide +kernel
theorem dX6_layCuts_76 : decode cX6_layCuts 76 = .ok (.iadd, 1) := by decide +kernel
theorem dX6_layCuts_77 : decode cX6_layCuts 77 = .ok (.iaload, 1) := by decide +kernel
theorem dX6_layCuts_78 : decode cX6_layCuts 78 = .ok (.iconst 1, 1) := by decide +kernel
theorem dX6_layCuts_79 : decode cX6_layCuts 79 = .ok (.iadd, 1) := by decide +kernel
theorem dX6_layCuts_80 : decode cX6_layCuts 80 = .ok (.iastore, 1) := by decide +kernel
theorem dX6_layCuts_81 : decode cX6_layCuts 81 = .ok (.iload 4, 2) := by decide +kernel
theorem dX6_layCuts_83 : decode cX6_layCuts 83 = .ok (.iload_n 2, 1) := by decide +kernel
theorem dX6_layCuts_84 : decode cX6_layCuts 84 = .ok (.iadd, 1) := by decide +kernel
theorem dX6_layCuts_85 : decode cX6_layCuts 85 = .ok (.istore 4, 2) := by decide +kernel
theorem dX6_layCuts_87 : decode cX6_layCuts 87 = .ok (.goto (-61), 3) := by decide +kernel
theorem dX6_layCuts_90 : decode cX6_layCuts 90 = .ok (.iinc 3 (-1), 3) := by decide +kernel
theorem dX6_layCuts_93 : decode cX6_layCuts 93 = .ok (.goto (-82), 3) := by decide +kernel
theorem dX6_layCuts_96 : decode cX6_layCuts 96 = .ok (.return_, 1) := by decide +kernel
theorem dX6_cuts_0 : decode cX6_cuts 0 = .ok (.iload_n 1, 1) := by decide +kernel
theorem dX6_cuts_1 : decode cX6_cuts 1 = .ok (.i2l, 1) := by decide +kernel
theorem dX6_cuts_2 : decode cX6_cuts 2 = .ok (.lconst 0, 1) := by decide +kernel
theorem dX6_cuts_3 : decode cX6_cuts 3 = .ok (.aload_n 0, 1) := by decide +kernel
theorem dX6_cuts_4 : decode cX6_cuts 4 = .ok (.getfield 69, 3) := by decide +kernel
theorem dX6_cuts_7 : decode cX6_cuts 7 = .ok (.i2l, 1) := by decide +kernel
theorem dX6_cuts_8 : decode cX6_cuts 8 = .ok (.invokestatic 90, 3) := by decide +kernel
theorem dX6_cuts_11 : decode cX6_cuts 11 = .ok (.ifCond .eq 8, 3) := by decide +kernel
theorem dX6_cuts_14 : decode cX6_cuts 14 = .ok (.iload_n 2, 1) := by decide +kernel
theorem dX6_cuts_15 : decode cX6_cuts 15 = .ok (.iconst (-1), 1) := by decide +kernel
theorem dX6_cuts_16 : decode cX6_cuts 16 = .ok (.if_icmp .ge 5, 3) := by decide +kernel
theorem dX6_cuts_19 : decode cX6_cuts 19 = .ok (.iconst (-1), 1) := by decide +kernel
theorem dX6_cuts_20 : decode cX6_cuts 20 = .ok (.ireturn, 1) := by decide +kernel
theorem dX6_cuts_21 : decode cX6_cuts 21 = .ok (.aload_n 0, 1) := by decide +kernel
theorem dX6_cuts_22 : decode cX6_cuts 22 = .ok (.iload_n 1, 1) := by decide +kernel
theorem dX6_cuts_23 : decode cX6_cuts 23 = .ok (.iconst 1, 1) := by decide +kernel
theorem dX6_cuts_24 : decode cX6_cuts 24 = .ok (.invokevirtual 126, 3) := by decide +kernel
theorem dX6_cuts_27 : decode cX6_cuts 27 = .ok (.iload_n 2, 1) := by decide +kernel
theorem dX6_cuts_28 : decode cX6_cuts 28 = .ok (.iconst (-1), 1) := by decide +kernel
theorem dX6_cuts_29 : decode cX6_cuts 29 = .ok (.if_icmp .eq 13, 3) := by decide +kernel
theorem dX6_cuts_32 : decode cX6_cuts 32 = .ok (.iload_n 2, 1) := by decide +kernel
theorem dX6_cuts_33 : decode cX6_cuts 33 = .ok (.aload_n 0, 1) := by decide +kernel
theorem dX6_cuts_34 : decode cX6_cuts 34 = .ok (.getfield 44, 3) := by decide +kernel
theorem dX6_cuts_37 : decode cX6_cuts 37 = .ok (.iconst 0, 1) := by decide +kernel
theorem dX6_cuts_38 : decode cX6_cuts 38 = .ok (.iaload, 1) := by decide +kernel
theorem dX6_cuts_39 : decode cX6_cuts 39 = .ok (.if_icmp .lt 20, 3) := by decide +kernel
theorem dX6_cuts_42 : decode cX6_cuts 42 = .ok (.iload_n 2, 1) := by decide +kernel
theorem dX6_cuts_43 : decode cX6_cuts 43 = .ok (.iconst (-1), 1) := by decide +kernel
theorem dX6_cuts_44 : decode cX6_cuts 44 = .ok (.if_icmp .ne 12, 3) := by decide +kernel
theorem dX6_cuts_47 : decode cX6_cuts 47 = .ok (.aload_n 0, 1) := by decide +kernel
theorem dX6_cuts_48 : decode cX6_cuts 48 = .ok (.getfield 44, 3) := by decide +kernel
theorem dX6_cuts_51 : decode cX6_cuts 51 = .ok (.iconst 0, 1) := by decide +kernel
theorem dX6_cuts_52 : decode cX6_cuts 52 = .ok (.iaload, 1) := by decide +kernel
theorem dX6_cuts_53 : decode cX6_cuts 53 = .ok (.goto 5, 3) := by decide +kernel
theorem dX6_cuts_56 : decode cX6_cuts 56 = .ok (.bipush (-4), 2) := by decide +kernel
theorem dX6_cuts_58 : decode cX6_cuts 58 = .ok (.ireturn, 1) := by decide +kernel
theorem dX6_cuts_59 : decode cX6_cuts 59 = .ok (.iconst 0, 1) := by decide +kernel
theorem dX6_cuts_60 : decode cX6_cuts 60 = .ok (.istore_n 3, 1) := by decide +kernel
theorem dX6_cuts_61 : decode cX6_cuts 61 = .ok (.iconst 0, 1) := by decide +kernel
theorem dX6_cuts_62 : decode cX6_cuts 62 = .ok (.istore 4, 2) := by decide +kernel
theorem dX6_cuts_64 : decode cX6_cuts 64 = .ok (.iconst 0, 1) := by decide +kernel
theorem dX6_cuts_65 : decode cX6_cuts 65 = .ok (.istore 5, 2) := by decide +kernel
theorem dX6_cuts_67 : decode cX6_cuts 67 = .ok (.iload 5, 2) := by decide +kernel
theorem dX6_cuts_69 : decode cX6_cuts 69 = .ok (.iload_n 2, 1) := by decide +kernel
theorem dX6_cuts_70 : decode cX6_cuts 70 = .ok (.if_icmp .gt 53, 3) := by decide +kernel
theorem dX6_cuts_73 : decode cX6_cuts 73 = .ok (.iload_n 3, 1) := by decide +kernel
theorem dX6_cuts_74 : decode cX6_cuts 74 = .ok (.iload 4, 2) := by decide +kernel
theorem dX6_cuts_76 : decode cX6_cuts 76 = .ok (.iadd, 1) := by decide +kernel
theorem dX6_cuts_77 : decode cX6_cuts 77 = .ok (.istore_n 3, 1) := by decide +kernel
theorem dX6_cuts_78 : decode cX6_cuts 78 = .ok (.iconst 1, 1) := by decide +kernel
theorem dX6_cuts_79 : decode cX6_cuts 79 = .ok (.istore 4, 2) := by decide +kernel
theorem dX6_cuts_81 : decode cX6_cuts 81 = .ok (.aload_n 0, 1) := by decide +kernel
theorem dX6_cuts_82 : decode cX6_cuts 82 = .ok (.iload_n 3, 1) := by decide +kernel
theorem dX6_cuts_83 : decode cX6_cuts 83 = .ok (.iload 4, 2) := by decide +kernel
theorem dX6_cuts_85 : decode cX6_cuts 85 = .ok (.invokevirtual 53, 3) := by decide +kernel
theorem dX6_cuts_88 : decode cX6_cuts 88 = .ok (.ifCond .eq 23, 3) := by decide +kernel
theorem dX6_cuts_91 : decode cX6_cuts 91 = .ok (.aload_n 0, 1) := by decide +kernel
theorem dX6_cuts_92 : decode cX6_cuts 92 = .ok (.getfield 44, 3) := by decide +kernel
theorem dX6_cuts_95 : decode cX6_cuts 95 = .ok (.iload_n 3, 1) := by decide +kernel
theorem dX6_cuts_96 : decode cX6_cuts 96 = .ok (.iload 4, 2) := by decide +kernel
theorem dX6_cuts_98 : decode cX6_cuts 98 = .ok (.iadd, 1) := by decide +kernel
theorem dX6_cuts_99 : decode cX6_cuts 99 = .ok (.iaload, 1) := by decide +kernel
theorem dX6_cuts_100 : decode cX6_cuts 100 = .ok (.aload_n 0, 1) := by decide +kernel
theorem dX6_cuts_101 : decode cX6_cuts 101 = .ok (.getfield 44, 3) := by decide +kernel
theorem dX6_cuts_104 : decode cX6_cuts 104 = .ok (.iload_n 3, 1) := by decide +kernel
theorem dX6_cuts_105 : decode cX6_cuts 105 = .ok (.iaload, 1) := by decide +kernel
theorem dX6_cuts_106 : decode cX6_cuts 106 = .ok (.iconst 1, 1) := by decide +kernel
theorem dX6_cuts_107 : decode cX6_cuts 107 = .ok (.isub, 1) := by decide +kernel
theorem dX6_cuts_108 : decode cX6_cuts 108 = .ok (.if_icmp .eq 9, 3) := by decide +kernel
theorem dX6_cuts_111 : decode cX6_cuts 111 = .ok (.iinc 4 1, 3) := by decide +kernel
theorem dX6_cuts_114 : decode cX6_cuts 114 = .ok (.goto (-33), 3) := by decide +kernel
theorem dX6_cuts_117 : decode cX6_cuts 117 = .ok (.iinc 5 1, 3) := by decide +kernel
theorem dX6_cuts_120 : decode cX6_cuts 120 = .ok (.goto (-53), 3) := by decide +kernel
theorem dX6_cuts_123 : decode cX6_cuts 123 = .ok (.iload 4, 2) := by decide +kernel
theorem dX6_cuts_125 : decode cX6_cuts 125 = .ok (.ireturn, 1) := by decide +kernel
theorem dX6_evens_0 : decode cX6_evens 0 = .ok (.iload_n 1, 1) := by decide +kernel
theorem dX6_evens_1 : decode cX6_evens 1 = .ok (.i2l, 1) := by decide +kernel
theorem dX6_evens_2 : decode cX6_evens 2 = .ok (.lconst 0, 1) := by decide +kernel
theorem dX6_evens_3 : decode cX6_evens 3 = .ok (.aload_n 0, 1) := by decide +kernel
theorem dX6_evens_4 : decode cX6_evens 4 = .ok (.getfield 69, 3) := by decide +kernel
theorem dX6_evens_7 : decode cX6_evens 7 = .ok (.i2l, 1) := by decide +kernel
theorem dX6_evens_8 : decode cX6_evens 8 = .ok (.invokestatic 90, 3) := by decide +kernel
theorem dX6_evens_11 : decode cX6_evens 11 = .ok (.ifCond .ne 5, 3) := by decide +kernel
theorem dX6_evens_14 : decode cX6_evens 14 = .ok (.iconst (-1), 1) := by decide +kernel
theorem dX6_evens_15 : decode cX6_evens 15 = .ok (.ireturn, 1) := by decide +kernel
theorem dX6_evens_16 : decode cX6_evens 16 = .ok (.aload_n 0, 1) := by decide +kernel
theorem dX6_evens_17 : decode cX6_evens 17 = .ok (.iload_n 1, 1) := by decide +kernel
theorem dX6_evens_18 : decode cX6_evens 18 = .ok (.iconst 2, 1) := by decide +kernel
theorem dX6_evens_19 : decode cX6_evens 19 = .ok (.invokevirtual 126, 3) := by decide +kernel
theorem dX6_evens_22 : decode cX6_evens 22 = .ok (.aload_n 0, 1) := by decide +kernel
theorem dX6_evens_23 : decode cX6_evens 23 = .ok (.getfield 44, 3) := by decide +kernel
theorem dX6_evens_26 : decode cX6_evens 26 = .ok (.iconst 0, 1) := by decide +kernel
theorem dX6_evens_27 : decode cX6_evens 27 = .ok (.iaload, 1) := by decide +kernel
theorem dX6_evens_28 : decode cX6_evens 28 = .ok (.bipush 99, 2) := by decide +kernel
theorem dX6_evens_30 : decode cX6_evens 30 = .ok (.if_icmp .ge 12, 3) := by decide +kernel
theorem dX6_evens_33 : decode cX6_evens 33 = .ok (.aload_n 0, 1) := by decide +kernel
theorem dX6_evens_34 : decode cX6_evens 34 = .ok (.getfield 44, 3) := by decide +kernel
theorem dX6_evens_37 : decode cX6_evens 37 = .ok (.iconst 0, 1) := by decide +kernel
theorem dX6_evens_38 : decode cX6_evens 38 = .ok (.iaload, 1) := by decide +kernel
theorem dX6_evens_39 : decode cX6_evens 39 = .ok (.goto 5, 3) := by decide +kernel
theorem dX6_evens_42 : decode cX6_evens 42 = .ok (.bipush (-4), 2) := by decide +kernel
theorem dX6_evens_44 : decode cX6_evens 44 = .ok (.ireturn, 1) := by decide +kernel
theorem dX6_unlike_0 : decode cX6_unlike 0 = .ok (.iconst 0, 1) := by decide +kernel
theorem dX6_unlike_1 : decode cX6_unlike 1 = .ok (.istore_n 3, 1) := by decide +kernel
theorem dX6_unlike_2 : decode cX6_unlike 2 = .ok (.iload_n 1, 1) := by decide +kernel
theorem dX6_unlike_3 : decode cX6_unlike 3 = .ok (.istore 4, 2) := by decide +kernel
theorem dX6_unlike_5 : decode cX6_unlike 5 = .ok (.iload 4, 2) := by decide +kernel
theorem dX6_unlike_7 : decode cX6_unlike 7 = .ok (.iload_n 2, 1) := by decide +kernel
theorem dX6_unlike_8 : decode cX6_unlike 8 = .ok (.if_icmp .ge 91, 3) := by decide +kernel
theorem dX6_unlike_11 : decode cX6_unlike 11 = .ok (.iconst 1, 1) := by decide +kernel
theorem dX6_unlike_12 : decode cX6_unlike 12 = .ok (.istore 5, 2) := by decide +kernel
theorem dX6_unlike_14 : decode cX6_unlike 14 = .ok (.iload 4, 2) := by decide +kernel
theorem dX6_unlike_16 : decode cX6_unlike 16 = .ok (.iload 5, 2) := by decide +kernel
theorem dX6_unlike_18 : decode cX6_unlike 18 = .ok (.iadd, 1) := by decide +kernel
theorem dX6_unlike_19 : decode cX6_unlike 19 = .ok (.iload_n 2, 1) := by decide +kernel
theorem dX6_unlike_20 : decode cX6_unlike 20 = .ok (.if_icmp .gt 73, 3) := by decide +kernel
theorem dX6_unlike_23 : decode cX6_unlike 23 = .ok (.aload_n 0, 1) := by decide +kernel
theorem dX6_unlike_24 : decode cX6_unlike 24 = .ok (.iload 4, 2) := by decide +kernel
theorem dX6_unlike_26 : decode cX6_unlike 26 = .ok (.iload 5, 2) := by decide +kernel
theorem dX6_unlike_28 : decode cX6_unlike 28 = .ok (.invokevirtual 53, 3) := by decide +kernel
theorem dX6_unlike_31 : decode cX6_unlike 31 = .ok (.istore 6, 2) := by decide +kernel
theorem dX6_unlike_33 : decode cX6_unlike 33 = .ok (.iload_n 1, 1) := by decide +kernel
theorem dX6_unlike_34 : decode cX6_unlike 34 = .ok (.istore 7, 2) := by decide +kernel
theorem dX6_unlike_36 : decode cX6_unlike 36 = .ok (.iload 7, 2) := by decide +kernel
theorem dX6_unlike_38 : decode cX6_unlike 38 = .ok (.iload 4, 2) := by decide +kernel
theorem dX6_unlike_40 : decode cX6_unlike 40 = .ok (.if_icmp .ge 34, 3) := by decide +kernel
theorem dX6_unlike_43 : decode cX6_unlike 43 = .ok (.iload 6, 2) := by decide +kernel
theorem dX6_unlike_45 : decode cX6_unlike 45 = .ok (.ifCond .eq 29, 3) := by decide +kernel
theorem dX6_unlike_48 : decode cX6_unlike 48 = .ok (.aload_n 0, 1) := by decide +kernel
theorem dX6_unlike_49 : decode cX6_unlike 49 = .ok (.iload 7, 2) := by decide +kernel
theorem dX6_unlike_51 : decode cX6_unlike 51 = .ok (.iload 4, 2) := by decide +kernel
theorem dX6_unlike_53 : decode cX6_unlike 53 = .ok (.iload 5, 2) := by decide +kernel
theorem dX6_unlike_55 : decode cX6_unlike 55 = .ok (.invokevirtual 61, 3) := by decide +kernel
theorem dX6_unlike_58 : decode cX6_unlike 58 = .ok (.ifCond .ne 7, 3) := by decide +kernel
theorem dX6_unlike_61 : decode cX6_unlike 61 = .ok (.iconst 1, 1) := by decide +kernel
theorem dX6_unlike_62 : decode cX6_unlike 62 = .ok (.goto 4, 3) := by decide +kernel
theorem dX6_unlike_65 : decode cX6_unlike 65 = .ok (.iconst 0, 1) := by decide +kernel
theorem dX6_unlike_66 : decode cX6_unlike 66 = .ok (.istore 6, 2) := by decide +kernel
theorem dX6_unlike_68 : decode cX6_unlike 68 = .ok (.iinc 7 1, 3) := by decide +kernel
theorem dX6_unlike_71 : decode cX6_unlike 71 = .ok (.goto (-35), 3) := by decide +kernel
theorem dX6_unlike_74 : decode cX6_unlike 74 = .ok (.iload_n 3, 1) := by decide +kernel
theorem dX6_unlike_75 : decode cX6_unlike 75 = .ok (.iload 6, 2) := by decide +kernel
theorem dX6_unlike_77 : decode cX6_unlike 77 = .ok (.ifCond .eq 7, 3) := by decide +kernel
theorem dX6_unlike_80 : decode cX6_unlike 80 = .ok (.iconst 1, 1) := by decide +kernel
theorem dX6_unlike_81 : decode cX6_unlike 81 = .ok (.goto 4, 3) := by decide +kernel
theorem dX6_unlike_84 : decode cX6_unlike 84 = .ok (.iconst 0, 1) := by decide +kernel
theorem dX6_unlike_85 : decode cX6_unlike 85 = .ok (.iadd, 1) := by decide +kernel
theorem dX6_unlike_86 : decode cX6_unlike 86 = .ok (.istore_n 3, 1) := by decide +kernel
theorem dX6_unlike_87 : decode cX6_unlike 87 = .ok (.iinc 5 1, 3) := by decide +kernel
theorem dX6_unlike_90 : decode cX6_unlike 90 = .ok (.goto (-76), 3) := by decide +kernel
theorem dX6_unlike_93 : decode cX6_unlike 93 = .ok (.iinc 4 1, 3) := by decide +kernel
theorem dX6_unlike_96 : decode cX6_unlike 96 = .ok (.goto (-91), 3) := by decide +kernel
theorem dX6_unlike_99 : decode cX6_unlike 99 = .ok (.iload_n 3, 1) := by decide +kernel
theorem dX6_unlike_100 : decode cX6_unlike 100 = .ok (.ireturn, 1) := by decide +kernel
theorem dX6_in_0 : decode cX6_in 0 = .ok (.iload_n 1, 1) := by decide +kernel
theorem dX6_in_1 : decode cX6_in 1 = .ok (.ifCond .lt 28, 3) := by decide +kernel
theorem dX6_in_4 : decode cX6_in 4 = .ok (.iload_n 2, 1) := by decide +kernel
theorem dX6_in_5 : decode cX6_in 5 = .ok (.iload_n 1, 1) := by decide +kernel
theorem dX6_in_6 : decode cX6_in 6 = .ok (.if_icmp .lt 23, 3) := by decide +kernel
theorem dX6_in_9 : decode cX6_in 9 = .ok (.iload_n 2, 1) := by decide +kernel
theorem dX6_in_10 : decode cX6_in 10 = .ok (.aload_n 0, 1) := by decide +kernel
theorem dX6_in_11 : decode cX6_in 11 = .ok (.getfield 69, 3) := by decide +kernel
theorem dX6_in_14 : decode cX6_in 14 = .ok (.if_icmp .gt 15, 3) := by decide +kernel
theorem dX6_in_17 : decode cX6_in 17 = .ok (.iload_n 3, 1) := by decide +kernel
theorem dX6_in_18 : decode cX6_in 18 = .ok (.i2l, 1) := by decide +kernel
theorem dX6_in_19 : decode cX6_in 19 = .ok (.lconst 0, 1) := by decide +kernel
theorem dX6_in_20 : decode cX6_in 20 = .ok (.ldc2_w 130, 3) := by decide +kernel
theorem dX6_in_23 : decode cX6_in 23 = .ok (.invokestatic 90, 3) := by decide +kernel
theorem dX6_in_26 : decode cX6_in 26 = .ok (.ifCond .ne 5, 3) := by decide +kernel
theorem dX6_in_29 : decode cX6_in 29 = .ok (.iconst (-1), 1) := by decide +kernel
theorem dX6_in_30 : decode cX6_in 30 = .ok (.ireturn, 1) := by decide +kernel
theorem dX6_in_31 : decode cX6_in 31 = .ok (.iload_n 3, 1) := by decide +kernel
theorem dX6_in_32 : decode cX6_in 32 = .ok (.iconst 2, 1) := by decide +kernel
theorem dX6_in_33 : decode cX6_in 33 = .ok (.if_icmp .ne 10, 3) := by decide +kernel
theorem dX6_in_36 : decode cX6_in 36 = .ok (.aload_n 0, 1) := by decide +kernel
theorem dX6_in_37 : decode cX6_in 37 = .ok (.iload_n 1, 1) := by decide +kernel
theorem dX6_in_38 : decode cX6_in 38 = .ok (.iload_n 2, 1) := by decide +kernel
theorem dX6_in_39 : decode cX6_in 39 = .ok (.invokevirtual 132, 3) := by decide +kernel
theorem dX6_in_42 : decode cX6_in 42 = .ok (.ireturn, 1) := by decide +kernel
theorem dX6_in_43 : decode cX6_in 43 = .ok (.iload_n 2, 1) := by decide +kernel
theorem dX6_in_44 : decode cX6_in 44 = .ok (.iload_n 1, 1) := by decide +kernel
theorem dX6_in_45 : decode cX6_in 45 = .ok (.isub, 1) := by decide +kernel
theorem dX6_in_46 : decode cX6_in 46 = .ok (.istore 4, 2) := by decide +kernel
theorem dX6_in_48 : decode cX6_in 48 = .ok (.iload 4, 2) := by decide +kernel
theorem dX6_in_50 : decode cX6_in 50 = .ok (.ifCond .le 50, 3) := by decide +kernel
theorem dX6_in_53 : decode cX6_in 53 = .ok (.iload_n 1, 1) := by decide +kernel
theorem dX6_in_54 : decode cX6_in 54 = .ok (.istore 5, 2) := by decide +kernel
theorem dX6_in_56 : decode cX6_in 56 = .ok (.iload 5, 2) := by decide +kernel
theorem dX6_in_58 : decode cX6_in 58 = .ok (.iload 4, 2) := by decide +kernel
theorem dX6_in_60 : decode cX6_in 60 = .ok (.iadd, 1) := by decide +kernel
theorem dX6_in_61 : decode cX6_in 61 = .ok (.iload_n 2, 1) := by decide +kernel
theorem dX6_in_62 : decode cX6_in 62 = .ok (.if_icmp .gt 32, 3) := by decide +kernel
theorem dX6_in_65 : decode cX6_in 65 = .ok (.aload_n 0, 1) := by decide +kernel
theorem dX6_in_66 : decode cX6_in 66 = .ok (.iload 5, 2) := by decide +kernel
theorem dX6_in_68 : decode cX6_in 68 = .ok (.iload 4, 2) := by decide +kernel
theorem dX6_in_70 : decode cX6_in 70 = .ok (.invokevirtual 53, 3) := by decide +kernel
theorem dX6_in_73 : decode cX6_in 73 = .ok (.ifCond .eq 15, 3) := by decide +kernel
theorem dX6_in_76 : decode cX6_in 76 = .ok (.iload_n 3, 1) := by decide +kernel
theorem dX6_in_77 : decode cX6_in 77 = .ok (.ifCond .ne 8, 3) := by decide +kernel
theorem dX6_in_80 : decode cX6_in 80 = .ok (.iload 4, 2) := by decide +kernel
theorem dX6_in_82 : decode cX6_in 82 = .ok (.goto 5, 3) := by decide +kernel
theorem dX6_in_85 : decode cX6_in 85 = .ok (.iload 5, 2) := by decide +kernel
theorem dX6_in_87 : decode cX6_in 87 = .ok (.ireturn, 1) := by decide +kernel
theorem dX6_in_88 : decode cX6_in 88 = .ok (.iinc 5 1, 3) := by decide +kernel
theorem dX6_in_91 : decode cX6_in 91 = .ok (.goto (-35), 3) := by decide +kernel
theorem dX6_in_94 : decode cX6_in 94 = .ok (.iinc 4 (-1), 3) := by decide +kernel
theorem dX6_in_97 : decode cX6_in 97 = .ok (.goto (-49), 3) := by decide +kernel
theorem dX6_in_100 : decode cX6_in 100 = .ok (.iload_n 3, 1) := by decide +kernel
theorem dX6_in_101 : decode cX6_in 101 = .ok (.ifCond .ne 7, 3) := by decide +kernel
theorem dX6_in_104 : decode cX6_in 104 = .ok (.iconst 0, 1) := by decide +kernel
theorem dX6_in_105 : decode cX6_in 105 = .ok (.goto 5, 3) := by decide +kernel
theorem dX6_in_108 : decode cX6_in 108 = .ok (.bipush (-4), 2) := by decide +kernel
theorem dX6_in_110 : decode cX6_in 110 = .ok (.ireturn, 1) := by decide +kernel
theorem dX6_fill_0 : decode cX6_fill 0 = .ok (.iconst 0, 1) := by decide +kernel
theorem dX6_fill_1 : decode cX6_fill 1 = .ok (.istore_n 1, 1) := by decide +kernel
theorem dX6_fill_2 : decode cX6_fill 2 = .ok (.iload_n 1, 1) := by decide +kernel
theorem dX6_fill_3 : decode cX6_fill 3 = .ok (.bipush 48, 2) := by decide +kernel
theorem dX6_fill_5 : decode cX6_fill 5 = .ok (.if_icmp .ge 23, 3) := by decide +kernel
theorem dX6_fill_8 : decode cX6_fill 8 = .ok (.aload_n 0, 1) := by decide +kernel
theorem dX6_fill_9 : decode cX6_fill 9 = .ok (.getfield 44, 3) := by decide +kernel
theorem dX6_fill_12 : decode cX6_fill 12 = .ok (.iload_n 1, 1) := by decide +kernel
theorem dX6_fill_13 : decode cX6_fill 13 = .ok (.iconst 0, 1) := by decide +kernel
theorem dX6_fill_14 : decode cX6_fill 14 = .ok (.iastore, 1) := by decide +kernel
theorem dX6_fill_15 : decode cX6_fill 15 = .ok (.aload_n 0, 1) := by decide +kernel
theorem dX6_fill_16 : decode cX6_fill 16 = .ok (.getfield 50, 3) := by decide +kernel
theorem dX6_fill_19 : decode cX6_fill 19 = .ok (.iload_n 1, 1) := by decide +kernel
theorem dX6_fill_20 : decode cX6_fill 20 = .ok (.iconst 0, 1) := by decide +kernel
theorem dX6_fill_21 : decode cX6_fill 21 = .ok (.iastore, 1) := by decide +kernel
theorem dX6_fill_22 : decode cX6_fill 22 = .ok (.iinc 1 1, 3) := by decide +kernel
theorem dX6_fill_25 : decode cX6_fill 25 = .ok (.goto (-23), 3) := by decide +kernel
theorem dX6_fill_28 : decode cX6_fill 28 = .ok (.iconst 0, 1) := by decide +kernel
theorem dX6_fill_29 : decode cX6_fill 29 = .ok (.istore_n 1, 1) := by decide +kernel
theorem dX6_fill_30 : decode cX6_fill 30 = .ok (.iconst 2, 1) := by decide +kernel
theorem dX6_fill_31 : decode cX6_fill 31 = .ok (.istore_n 2, 1) := by decide +kernel
theorem dX6_fill_32 : decode cX6_fill 32 = .ok (.iload_n 2, 1) := by decide +kernel
theorem dX6_fill_33 : decode cX6_fill 33 = .ok (.aload_n 0, 1) := by decide +kernel
theorem dX6_fill_34 : decode cX6_fill 34 = .ok (.getfield 69, 3) := by decide +kernel
theorem dX6_fill_37 : decode cX6_fill 37 = .ok (.if_icmp .gt 131, 3) := by decide +kernel
theorem dX6_fill_40 : decode cX6_fill 40 = .ok (.iconst 0, 1) := by decide +kernel
theorem dX6_fill_41 : decode cX6_fill 41 = .ok (.istore_n 3, 1) := by decide +kernel
theorem dX6_fill_42 : decode cX6_fill 42 = .ok (.iload_n 3, 1) := by decide +kernel
theorem dX6_fill_43 : decode cX6_fill 43 = .ok (.iload_n 2, 1) := by decide +kernel
theorem dX6_fill_44 : decode cX6_fill 44 = .ok (.iadd, 1) := by decide +kernel
theorem dX6_fill_45 : decode cX6_fill 45 = .ok (.aload_n 0, 1) := by decide +kernel
theorem dX6_fill_46 : decode cX6_fill 46 = .ok (.getfield 69, 3) := by decide +kernel
theorem dX6_fill_49 : decode cX6_fill 49 = .ok (.if_icmp .gt 113, 3) := by decide +kernel
theorem dX6_fill_52 : decode cX6_fill 52 = .ok (.aload_n 0, 1) := by decide +kernel
theorem dX6_fill_53 : decode cX6_fill 53 = .ok (.getfield 7, 3) := by decide +kernel
theorem dX6_fill_56 : decode cX6_fill 56 = .ok (.iload_n 3, 1) := by decide +kernel
theorem dX6_fill_57 : decode cX6_fill 57 = .ok (.iaload, 1) := by decide +kernel
theorem dX6_fill_58 : decode cX6_fill 58 = .ok (.aload_n 0, 1) := by decide +kernel
theorem dX6_fill_59 : decode cX6_fill 59 = .ok (.getfield 7, 3) := by decide +kernel
theorem dX6_fill_62 : decode cX6_fill 62 = .ok (.iload_n 3, 1) := by decide +kernel
theorem dX6_fill_63 : decode cX6_fill 63 = .ok (.iload_n 2, 1) := by decide +kernel
theorem dX6_fill_64 : decode cX6_fill 64 = .ok (.iadd, 1) := by decide +kernel
theorem dX6_fill_65 : decode cX6_fill 65 = .ok (.iconst 1, 1) := by decide +kernel
theorem dX6_fill_66 : decode cX6_fill 66 = .ok (.isub, 1) := by decide +kernel
theorem dX6_fill_67 : decode cX6_fill 67 = .ok (.iaload, 1) := by decide +kernel
theorem dX6_fill_68 : decode cX6_fill 68 = .ok (.if_icmp .ne 7, 3) := by decide +kernel
theorem dX6_fill_71 : decode cX6_fill 71 = .ok (.iconst 1, 1) := by decide +kernel
theorem dX6_fill_72 : decode cX6_fill 72 = .ok (.goto 4, 3) := by decide +kernel
theorem dX6_fill_75 : decode cX6_fill 75 = .ok (.iconst 0, 1) := by decide +kernel
theorem dX6_fill_76 : decode cX6_fill 76 = .ok (.istore 4, 2) := by decide +kernel
theorem dX6_fill_78 : decode cX6_fill 78 = .ok (.aload_n 0, 1) := by decide +kernel
theorem dX6_fill_79 : decode cX6_fill 79 = .ok (.getfield 44, 3) := by decide +kernel
theorem dX6_fill_82 : decode cX6_fill 82 = .ok (.iload_n 3, 1) := by decide +kernel
theorem dX6_fill_83 : decode cX6_fill 83 = .ok (.iaload, 1) := by decide +kernel
theorem dX6_fill_84 : decode cX6_fill 84 = .ok (.aload_n 0, 1) := by decide +kernel
theorem dX6_fill_85 : decode cX6_fill 85 = .ok (.getfield 44, 3) := by decide +kernel
theorem dX6_fill_88 : decode cX6_fill 88 = .ok (.iload_n 3, 1) := by decide +kernel
theorem dX6_fill_89 : decode cX6_fill 89 = .ok (.iconst 1, 1) := by decide +kernel
theorem dX6_fill_90 : decode cX6_fill 90 = .ok (.iadd, 1) := by decide +kernel
theorem dX6_fill_91 : decode cX6_fill 91 = .ok (.iaload, 1) := by decide +kernel
theorem dX6_fill_92 : decode cX6_fill 92 = .ok (.if_icmp .ge 14, 3) := by decide +kernel
theorem dX6_fill_95 : decode cX6_fill 95 = .ok (.aload_n 0, 1) := by decide +kernel
theorem dX6_fill_96 : decode cX6_fill 96 = .ok (.getfield 44, 3) := by decide +kernel
theorem dX6_fill_99 : decode cX6_fill 99 = .ok (.iload_n 3, 1) := by decide +kernel
theorem dX6_fill_100 : decode cX6_fill 100 = .ok (.iaload, 1) := by decide +kernel
theorem dX6_fill_101 : decode cX6_fill 101 = .ok (.iconst 1, 1) := by decide +kernel
theorem dX6_fill_102 : decode cX6_fill 102 = .ok (.iadd, 1) := by decide +kernel
theorem dX6_fill_103 : decode cX6_fill 103 = .ok (.goto 13, 3) := by decide +kernel
theorem dX6_fill_106 : decode cX6_fill 106 = .ok (.aload_n 0, 1) := by decide +kernel
theorem dX6_fill_107 : decode cX6_fill 107 = .ok (.getfield 44, 3) := by decide +kernel
theorem dX6_fill_110 : decode cX6_fill 110 = .ok (.iload_n 3, 1) := by decide +kernel
theorem dX6_fill_111 : decode cX6_fill 111 = .ok (.iconst 1, 1) := by decide +kernel
theorem dX6_fill_112 : decode cX6_fill 112 = .ok (.iadd, 1) := by decide +kernel
theorem dX6_fill_113 : decode cX6_fill 113 = .ok (.iaload, 1) := by decide +kernel
theorem dX6_fill_114 : decode cX6_fill 114 = .ok (.iconst 1, 1) := by decide +kernel
theorem dX6_fill_115 : decode cX6_fill 115 = .ok (.iadd, 1) := by decide +kernel
theorem dX6_fill_116 : decode cX6_fill 116 = .ok (.istore 5, 2) := by decide +kernel
theorem dX6_fill_118 : decode cX6_fill 118 = .ok (.iload 4, 2) := by decide +kernel
theorem dX6_fill_120 : decode cX6_fill 120 = .ok (.ifCond .eq 14, 3) := by decide +kernel
theorem dX6_fill_123 : decode cX6_fill 123 = .ok (.aload_n 0, 1) := by decide +kernel
theorem dX6_fill_124 : decode cX6_fill 124 = .ok (.getfield 50, 3) := by decide +kernel
theorem dX6_fill_127 : decode cX6_fill 127 = .ok (.iload_n 3, 1) := by decide +kernel
theorem dX6_fill_128 : decode cX6_fill 128 = .ok (.iconst 1, 1) := by decide +kernel
theorem dX6_fill_129 : decode cX6_fill 129 = .ok (.iadd, 1) := by decide +kernel
theorem dX6_fill_130 : decode cX6_fill 130 = .ok (.iaload, 1) := by decide +kernel
theorem dX6_fill_131 : decode cX6_fill 131 = .ok (.goto 5, 3) := by decide +kernel
theorem dX6_fill_134 : decode cX6_fill 134 = .ok (.iload 5, 2) := by decide +kernel
theorem dX6_fill_136 : decode cX6_fill 136 = .ok (.istore_n 1, 1) := by decide +kernel
theorem dX6_fill_137 : decode cX6_fill 137 = .ok (.aload_n 0, 1) := by decide +kernel
theorem dX6_fill_138 : decode cX6_fill 138 = .ok (.getfield 50, 3) := by decide +kernel
theorem dX6_fill_141 : decode cX6_fill 141 = .ok (.iload_n 3, 1) := by decide +kernel
theorem dX6_fill_142 : decode cX6_fill 142 = .ok (.aload_n 0, 1) := by decide +kernel
theorem dX6_fill_143 : decode cX6_fill 143 = .ok (.getfield 44, 3) := by decide +kernel
theorem dX6_fill_146 : decode cX6_fill 146 = .ok (.iload_n 3, 1) := by decide +kernel
theorem dX6_fill_147 : decode cX6_fill 147 = .ok (.iaload, 1) := by decide +kernel
theorem dX6_fill_148 : decode cX6_fill 148 = .ok (.iastore, 1) := by decide +kernel
theorem dX6_fill_149 : decode cX6_fill 149 = .ok (.aload_n 0, 1) := by decide +kernel
theorem dX6_fill_150 : decode cX6_fill 150 = .ok (.getfield 44, 3) := by decide +kernel
theorem dX6_fill_153 : decode cX6_fill 153 = .ok (.iload_n 3, 1) := by decide +kernel
theorem dX6_fill_154 : decode cX6_fill 154 = .ok (.iload_n 1, 1) := by decide +kernel
theorem dX6_fill_155 : decode cX6_fill 155 = .ok (.iastore, 1) := by decide +kernel
theorem dX6_fill_156 : decode cX6_fill 156 = .ok (.iinc 3 1, 3) := by decide +kernel
theorem dX6_fill_159 : decode cX6_fill 159 = .ok (.goto (-117), 3) := by decide +kernel
theorem dX6_fill_162 : decode cX6_fill 162 = .ok (.iinc 2 1, 3) := by decide +kernel
theorem dX6_fill_165 : decode cX6_fill 165 = .ok (.goto (-133), 3) := by decide +kernel
theorem dX6_fill_168 : decode cX6_fill 168 = .ok (.aload_n 0, 1) := by decide +kernel
theorem dX6_fill_169 : decode cX6_fill 169 = .ok (.getfield 69, 3) := by decide +kernel
theorem dX6_fill_172 : decode cX6_fill 172 = .ok (.ifCond .ne 7, 3) := by decide +kernel
theorem dX6_fill_175 : decode cX6_fill 175 = .ok (.iconst 0, 1) := by decide +kernel
theorem dX6_fill_176 : decode cX6_fill 176 = .ok (.goto 9, 3) := by decide +kernel
theorem dX6_fill_179 : decode cX6_fill 179 = .ok (.aload_n 0, 1) := by decide +kernel
theorem dX6_fill_180 : decode cX6_fill 180 = .ok (.getfield 44, 3) := by decide +kernel
theorem dX6_fill_183 : decode cX6_fill 183 = .ok (.iconst 0, 1) := by decide +kernel
theorem dX6_fill_184 : decode cX6_fill 184 = .ok (.iaload, 1) := by decide +kernel
theorem dX6_fill_185 : decode cX6_fill 185 = .ok (.ireturn, 1) := by decide +kernel
theorem dX6_mend_0 : decode cX6_mend 0 = .ok (.iload_n 1, 1) := by decide +kernel
theorem dX6_mend_1 : decode cX6_mend 1 = .ok (.i2l, 1) := by decide +kernel
theorem dX6_mend_2 : decode cX6_mend 2 = .ok (.lconst 0, 1) := by decide +kernel
theorem dX6_mend_3 : decode cX6_mend 3 = .ok (.lconst 1, 1) := by decide +kernel
theorem dX6_mend_4 : decode cX6_mend 4 = .ok (.invokestatic 90, 3) := by decide +kernel
theorem dX6_mend_7 : decode cX6_mend 7 = .ok (.ifCond .ne 5, 3) := by decide +kernel
theorem dX6_mend_10 : decode cX6_mend 10 = .ok (.iconst (-1), 1) := by decide +kernel
theorem dX6_mend_11 : decode cX6_mend 11 = .ok (.ireturn, 1) := by decide +kernel
theorem dX6_mend_12 : decode cX6_mend 12 = .ok (.iconst 0, 1) := by decide +kernel
theorem dX6_mend_13 : decode cX6_mend 13 = .ok (.istore_n 2, 1) := by decide +kernel
theorem dX6_mend_14 : decode cX6_mend 14 = .ok (.iconst 0, 1) := by decide +kernel
theorem dX6_mend_15 : decode cX6_mend 15 = .ok (.istore_n 3, 1) := by decide +kernel
theorem dX6_mend_16 : decode cX6_mend 16 = .ok (.iload_n 3, 1) := by decide +kernel
theorem dX6_mend_17 : decode cX6_mend 17 = .ok (.aload_n 0, 1) := by decide +kernel
theorem dX6_mend_18 : decode cX6_mend 18 = .ok (.getfield 69, 3) := by decide +kernel
theorem dX6_mend_21 : decode cX6_mend 21 = .ok (.iconst 2, 1) := by decide +kernel
theorem dX6_mend_22 : decode cX6_mend 22 = .ok (.idiv, 1) := by decide +kernel
theorem dX6_mend_23 : decode cX6_mend 23 = .ok (.if_icmp .ge 39, 3) := by decide +kernel
theorem dX6_mend_26 : decode cX6_mend 26 = .ok (.iload_n 2, 1) := by decide +kernel
theorem dX6_mend_27 : decode cX6_mend 27 = .ok (.aload_n 0, 1) := by decide +kernel
theorem dX6_mend_28 : decode cX6_mend 28 = .ok (.getfield 7, 3) := by decide +kernel
theorem dX6_mend_31 : decode cX6_mend 31 = .ok (.iload_n 3, 1) := by decide +kernel
theorem dX6_mend_32 : decode cX6_mend 32 = .ok (.iaload, 1) := by decide +kernel
theorem dX6_mend_33 : decode cX6_mend 33 = .ok (.aload_n 0, 1) := by decide +kernel
theorem dX6_mend_34 : decode cX6_mend 34 = .ok (.getfield 7, 3) := by decide +kernel
theorem dX6_mend_37 : decode cX6_mend 37 = .ok (.aload_n 0, 1) := by decide +kernel
theorem dX6_mend_38 : decode cX6_mend 38 = .ok (.getfield 69, 3) := by decide +kernel
theorem dX6_mend_41 : decode cX6_mend 41 = .ok (.iconst 1, 1) := by decide +kernel
theorem dX6_mend_42 : decode cX6_mend 42 = .ok (.isub, 1) := by decide +kernel
theorem dX6_mend_43 : decode cX6_mend 43 = .ok (.iload_n 3, 1) := by decide +kernel
theorem dX6_mend_44 : decode cX6_mend 44 = .ok (.isub, 1) := by decide +kernel
theorem dX6_mend_45 : decode cX6_mend 45 = .ok (.iaload, 1) := by decide +kernel
theorem dX6_mend_46 : decode cX6_mend 46 = .ok (.if_icmp .ne 7, 3) := by decide +kernel
theorem dX6_mend_49 : decode cX6_mend 49 = .ok (.iconst 0, 1) := by decide +kernel
theorem dX6_mend_50 : decode cX6_mend 50 = .ok (.goto 4, 3) := by decide +kernel
theorem dX6_mend_53 : decode cX6_mend 53 = .ok (.iconst 1, 1) := by decide +kernel
theorem dX6_mend_54 : decode cX6_mend 54 = .ok (.iadd, 1) := by decide +kernel
theorem dX6_mend_55 : decode cX6_mend 55 = .ok (.istore_n 2, 1) := by decide +kernel
theorem dX6_mend_56 : decode cX6_mend 56 = .ok (.iinc 3 1, 3) := by decide +kernel
theorem dX6_mend_59 : decode cX6_mend 59 = .ok (.goto (-43), 3) := by decide +kernel
theorem dX6_mend_62 : decode cX6_mend 62 = .ok (.iload_n 1, 1) := by decide +kernel
theorem dX6_mend_63 : decode cX6_mend 63 = .ok (.ifCond .ne 7, 3) := by decide +kernel
theorem dX6_mend_66 : decode cX6_mend 66 = .ok (.iload_n 2, 1) := by decide +kernel
theorem dX6_mend_67 : decode cX6_mend 67 = .ok (.goto 7, 3) := by decide +kernel
theorem dX6_mend_70 : decode cX6_mend 70 = .ok (.aload_n 0, 1) := by decide +kernel
theorem dX6_mend_71 : decode cX6_mend 71 = .ok (.invokevirtual 135, 3) := by decide +kernel
theorem dX6_mend_74 : decode cX6_mend 74 = .ok (.ireturn, 1) := by decide +kernel
theorem dX6_isTurned_0 : decode cX6_isTurned 0 = .ok (.iconst 1, 1) := by decide +kernel
theorem dX6_isTurned_1 : decode cX6_isTurned 1 = .ok (.istore_n 2, 1) := by decide +kernel
theorem dX6_isTurned_2 : decode cX6_isTurned 2 = .ok (.iconst 0, 1) := by decide +kernel
theorem dX6_isTurned_3 : decode cX6_isTurned 3 = .ok (.istore_n 3, 1) := by decide +kernel
theorem dX6_isTurned_4 : decode cX6_isTurned 4 = .ok (.iload_n 3, 1) := by decide +kernel
theorem dX6_isTurned_5 : decode cX6_isTurned 5 = .ok (.aload_n 0, 1) := by decide +kernel
theorem dX6_isTurned_6 : decode cX6_isTurned 6 = .ok (.getfield 69, 3) := by decide +kernel
theorem dX6_isTurned_9 : decode cX6_isTurned 9 = .ok (.iconst 2, 1) := by decide +kernel
theorem dX6_isTurned_10 : decode cX6_isTurned 10 = .ok (.idiv, 1) := by decide +kernel
theorem dX6_isTurned_11 : decode cX6_isTurned 11 = .ok (.if_icmp .ge 55, 3) := by decide +kernel
theorem dX6_isTurned_14 : decode cX6_isTurned 14 = .ok (.iload_n 2, 1) := by decide +kernel
theorem dX6_isTurned_15 : decode cX6_isTurned 15 = .ok (.ifCond .eq 51, 3) := by decide +kernel
theorem dX6_isTurned_18 : decode cX6_isTurned 18 = .ok (.aload_n 0, 1) := by decide +kernel
theorem dX6_isTurned_19 : decode cX6_isTurned 19 = .ok (.getfield 7, 3) := by decide +kernel
theorem dX6_isTurned_22 : decode cX6_isTurned 22 = .ok (.iload_n 1, 1) := by decide +kernel
theorem dX6_isTurned_23 : decode cX6_isTurned 23 = .ok (.iload_n 3, 1) := by decide +kernel
theorem dX6_isTurned_24 : decode cX6_isTurned 24 = .ok (.iadd, 1) := by decide +kernel
theorem dX6_isTurned_25 : decode cX6_isTurned 25 = .ok (.aload_n 0, 1) := by decide +kernel
theorem dX6_isTurned_26 : decode cX6_isTurned 26 = .ok (.getfield 69, 3) := by decide +kernel
theorem dX6_isTurned_29 : decode cX6_isTurned 29 = .ok (.irem, 1) := by decide +kernel
theorem dX6_isTurned_30 : decode cX6_isTurned 30 = .ok (.iaload, 1) := by decide +kernel
theorem dX6_isTurned_31 : decode cX6_isTurned 31 = .ok (.aload_n 0, 1) := by decide +kernel
theorem dX6_isTurned_32 : decode cX6_isTurned 32 = .ok (.getfield 7, 3) := by decide +kernel
theorem dX6_isTurned_35 : decode cX6_isTurned 35 = .ok (.iload_n 1, 1) := by decide +kernel
theorem dX6_isTurned_36 : decode cX6_isTurned 36 = .ok (.aload_n 0, 1) := by decide +kernel
theorem dX6_isTurned_37 : decode cX6_isTurned 37 = .ok (.getfield 69, 3) := by decide +kernel
theorem dX6_isTurned_40 : decode cX6_isTurned 40 = .ok (.iadd, 1) := by decide +kernel
theorem dX6_isTurned_41 : decode cX6_isTurned 41 = .ok (.iconst 1, 1) := by decide +kernel
theorem dX6_isTurned_42 : decode cX6_isTurned 42 = .ok (.isub, 1) := by decide +kernel
theorem dX6_isTurned_43 : decode cX6_isTurned 43 = .ok (.iload_n 3, 1) := by decide +kernel
theorem dX6_isTurned_44 : decode cX6_isTurned 44 = .ok (.isub, 1) := by decide +kernel
theorem dX6_isTurned_45 : decode cX6_isTurned 45 = .ok (.aload_n 0, 1) := by decide +kernel
theorem dX6_isTurned_46 : decode cX6_isTurned 46 = .ok (.getfield 69, 3) := by decide +kernel
theorem dX6_isTurned_49 : decode cX6_isTurned 49 = .ok (.irem, 1) := by decide +kernel
theorem dX6_isTurned_50 : decode cX6_isTurned 50 = .ok (.iaload, 1) := by decide +kernel
theorem dX6_isTurned_51 : decode cX6_isTurned 51 = .ok (.if_icmp .ne 7, 3) := by decide +kernel
theorem dX6_isTurned_54 : decode cX6_isTurned 54 = .ok (.iconst 1, 1) := by decide +kernel
theorem dX6_isTurned_55 : decode cX6_isTurned 55 = .ok (.goto 4, 3) := by decide +kernel
theorem dX6_isTurned_58 : decode cX6_isTurned 58 = .ok (.iconst 0, 1) := by decide +kernel
theorem dX6_isTurned_59 : decode cX6_isTurned 59 = .ok (.istore_n 2, 1) := by decide +kernel
theorem dX6_isTurned_60 : decode cX6_isTurned 60 = .ok (.iinc 3 1, 3) := by decide +kernel
theorem dX6_isTurned_63 : decode cX6_isTurned 63 = .ok (.goto (-59), 3) := by decide +kernel
theorem dX6_isTurned_66 : decode cX6_isTurned 66 = .ok (.iload_n 2, 1) := by decide +kernel
theorem dX6_isTurned_67 : decode cX6_isTurned 67 = .ok (.ireturn, 1) := by decide +kernel
theorem dX6_turned_0 : decode cX6_turned 0 = .ok (.iload_n 1, 1) := by decide +kernel
theorem dX6_turned_1 : decode cX6_turned 1 = .ok (.i2l, 1) := by decide +kernel
theorem dX6_turned_2 : decode cX6_turned 2 = .ok (.lconst 0, 1) := by decide +kernel
theorem dX6_turned_3 : decode cX6_turned 3 = .ok (.lconst 1, 1) := by decide +kernel
theorem dX6_turned_4 : decode cX6_turned 4 = .ok (.invokestatic 90, 3) := by decide +kernel
theorem dX6_turned_7 : decode cX6_turned 7 = .ok (.ifCond .ne 5, 3) := by decide +kernel
theorem dX6_turned_10 : decode cX6_turned 10 = .ok (.iconst (-1), 1) := by decide +kernel
theorem dX6_turned_11 : decode cX6_turned 11 = .ok (.ireturn, 1) := by decide +kernel
theorem dX6_turned_12 : decode cX6_turned 12 = .ok (.iconst 0, 1) := by decide +kernel
theorem dX6_turned_13 : decode cX6_turned 13 = .ok (.istore_n 2, 1) := by decide +kernel
theorem dX6_turned_14 : decode cX6_turned 14 = .ok (.bipush (-4), 2) := by decide +kernel
theorem dX6_turned_16 : decode cX6_turned 16 = .ok (.istore_n 3, 1) := by decide +kernel
theorem dX6_turned_17 : decode cX6_turned 17 = .ok (.aload_n 0, 1) := by decide +kernel
theorem dX6_turned_18 : decode cX6_turned 18 = .ok (.getfield 69, 3) := by decide +kernel
theorem dX6_turned_21 : decode cX6_turned 21 = .ok (.iconst 1, 1) := by decide +kernel
theorem dX6_turned_22 : decode cX6_turned 22 = .ok (.isub, 1) := by decide +kernel
theorem dX6_turned_23 : decode cX6_turned 23 = .ok (.istore 4, 2) := by decide +kernel
theorem dX6_turned_25 : decode cX6_turned 25 = .ok (.iload 4, 2) := by decide +kernel
theorem dX6_turned_27 : decode cX6_turned 27 = .ok (.ifCond .lt 42, 3) := by decide +kernel
theorem dX6_turned_30 : decode cX6_turned 30 = .ok (.iload_n 2, 1) := by decide +kernel
theorem dX6_turned_31 : decode cX6_turned 31 = .ok (.aload_n 0, 1) := by decide +kernel
theorem dX6_turned_32 : decode cX6_turned 32 = .ok (.iload 4, 2) := by decide +kernel
theorem dX6_turned_34 : decode cX6_turned 34 = .ok (.invokevirtual 139, 3) := by decide +kernel
theorem dX6_turned_37 : decode cX6_turned 37 = .ok (.ifCond .eq 7, 3) := by decide +kernel
theorem dX6_turned_40 : decode cX6_turned 40 = .ok (.iconst 1, 1) := by decide +kernel
theorem dX6_turned_41 : decode cX6_turned 41 = .ok (.goto 4, 3) := by decide +kernel
theorem dX6_turned_44 : decode cX6_turned 44 = .ok (.iconst 0, 1) := by decide +kernel
theorem dX6_turned_45 : decode cX6_turned 45 = .ok (.iadd, 1) := by decide +kernel
theorem dX6_turned_46 : decode cX6_turned 46 = .ok (.istore_n 2, 1) := by decide +kernel
theorem dX6_turned_47 : decode cX6_turned 47 = .ok (.aload_n 0, 1) := by decide +kernel
theorem dX6_turned_48 : decode cX6_turned 48 = .ok (.iload 4, 2) := by decide +kernel
theorem dX6_turned_50 : decode cX6_turned 50 = .ok (.invokevirtual 139, 3) := by decide +kernel
theorem dX6_turned_53 : decode cX6_turned 53 = .ok (.ifCond .eq 8, 3) := by decide +kernel
theorem dX6_turned_56 : decode cX6_turned 56 = .ok (.iload 4, 2) := by decide +kernel
theorem dX6_turned_58 : decode cX6_turned 58 = .ok (.goto 4, 3) := by decide +kernel
theorem dX6_turned_61 : decode cX6_turned 61 = .ok (.iload_n 3, 1) := by decide +kernel
theorem dX6_turned_62 : decode cX6_turned 62 = .ok (.istore_n 3, 1) := by decide +kernel
theorem dX6_turned_63 : decode cX6_turned 63 = .ok (.iinc 4 (-1), 3) := by decide +kernel
theorem dX6_turned_66 : decode cX6_turned 66 = .ok (.goto (-41), 3) := by decide +kernel
theorem dX6_turned_69 : decode cX6_turned 69 = .ok (.iload_n 1, 1) := by decide +kernel
theorem dX6_turned_70 : decode cX6_turned 70 = .ok (.ifCond .ne 7, 3) := by decide +kernel
theorem dX6_turned_73 : decode cX6_turned 73 = .ok (.iload_n 2, 1) := by decide +kernel
theorem dX6_turned_74 : decode cX6_turned 74 = .ok (.goto 4, 3) := by decide +kernel
theorem dX6_turned_77 : decode cX6_turned 77 = .ok (.iload_n 3, 1) := by decide +kernel
theorem dX6_turned_78 : decode cX6_turned 78 = .ok (.ireturn, 1) := by decide +kernel
theorem dX6_next_0 : decode cX6_next 0 = .ok (.iload_n 1, 1) := by decide +kernel
theorem dX6_next_1 : decode cX6_next 1 = .ok (.invokestatic 101, 3) := by decide +kernel
theorem dX6_next_4 : decode cX6_next 4 = .ok (.ifCond .eq 13, 3) := by decide +kernel
theorem dX6_next_7 : decode cX6_next 7 = .ok (.iload_n 2, 1) := by decide +kernel
theorem dX6_next_8 : decode cX6_next 8 = .ok (.i2l, 1) := by decide +kernel
theorem dX6_next_9 : decode cX6_next 9 = .ok (.lconst 0, 1) := by decide +kernel
theorem dX6_next_10 : decode cX6_next 10 = .ok (.lconst 1, 1) := by decide +kernel
theorem dX6_next_11 : decode cX6_next 11 = .ok (.invokestatic 90, 3) := by decide +kernel
theorem dX6_next_14 : decode cX6_next 14 = .ok (.ifCond .ne 5, 3) := by decide +kernel
theorem dX6_next_17 : decode cX6_next 17 = .ok (.iconst (-1), 1) := by decide +kernel
theorem dX6_next_18 : decode cX6_next 18 = .ok (.ireturn, 1) := by decide +kernel
theorem dX6_next_19 : decode cX6_next 19 = .ok (.aload_n 0, 1) := by decide +kernel
theorem dX6_next_20 : decode cX6_next 20 = .ok (.getfield 69, 3) := by decide +kernel
theorem dX6_next_23 : decode cX6_next 23 = .ok (.bipush 48, 2) := by decide +kernel
theorem dX6_next_25 : decode cX6_next 25 = .ok (.if_icmp .ne 6, 3) := by decide +kernel
theorem dX6_next_28 : decode cX6_next 28 = .ok (.bipush (-3), 2) := by decide +kernel
theorem dX6_next_30 : decode cX6_next 30 = .ok (.ireturn, 1) := by decide +kernel
theorem dX6_next_31 : decode cX6_next 31 = .ok (.aload_n 0, 1) := by decide +kernel
theorem dX6_next_32 : decode cX6_next 32 = .ok (.iload_n 1, 1) := by decide +kernel
theorem dX6_next_33 : decode cX6_next 33 = .ok (.bipush 97, 2) := by decide +kernel
theorem dX6_next_35 : decode cX6_next 35 = .ok (.isub, 1) := by decide +kernel
theorem dX6_next_36 : decode cX6_next 36 = .ok (.invokevirtual 108, 3) := by decide +kernel
theorem dX6_next_39 : decode cX6_next 39 = .ok (.iload_n 2, 1) := by decide +kernel
theorem dX6_next_40 : decode cX6_next 40 = .ok (.ifCond .ne 18, 3) := by decide +kernel
theorem dX6_next_43 : decode cX6_next 43 = .ok (.aload_n 0, 1) := by decide +kernel
theorem dX6_next_44 : decode cX6_next 44 = .ok (.aload_n 0, 1) := by decide +kernel
theorem dX6_next_45 : decode cX6_next 45 = .ok (.getfield 69, 3) := by decide +kernel
theorem dX6_next_48 : decode cX6_next 48 = .ok (.iconst 1, 1) := by decide +kernel
theorem dX6_next_49 : decode cX6_next 49 = .ok (.isub, 1) := by decide +kernel
theorem dX6_next_50 : decode cX6_next 50 = .ok (.bipush 49, 2) := by decide +kernel
theorem dX6_next_52 : decode cX6_next 52 = .ok (.invokevirtual 57, 3) := by decide +kernel
theorem dX6_next_55 : decode cX6_next 55 = .ok (.goto 21, 3) := by decide +kernel
theorem dX6_next_58 : decode cX6_next 58 = .ok (.aload_n 0, 1) := by decide +kernel
theorem dX6_next_59 : decode cX6_next 59 = .ok (.aload_n 0, 1) := by decide +kernel
theorem dX6_next_60 : decode cX6_next 60 = .ok (.getfield 69, 3) := by decide +kernel
theorem dX6_next_63 : decode cX6_next 63 = .ok (.iconst 1, 1) := by decide +kernel
theorem dX6_next_64 : decode cX6_next 64 = .ok (.isub, 1) := by decide +kernel
theorem dX6_next_65 : decode cX6_next 65 = .ok (.invokevirtual 72, 3) := by decide +kernel
theorem dX6_next_68 : decode cX6_next 68 = .ok (.ifCond .eq 7, 3) := by decide +kernel
theorem dX6_next_71 : decode cX6_next 71 = .ok (.iconst 1, 1) := by decide +kernel
theorem dX6_next_72 : decode cX6_next 72 = .ok (.goto 4, 3) := by decide +kernel
theorem dX6_next_75 : decode cX6_next 75 = .ok (.iconst 0, 1) := by decide +kernel
theorem dX6_next_76 : decode cX6_next 76 = .ok (.istore_n 3, 1) := by decide +kernel
theorem dX6_next_77 : decode cX6_next 77 = .ok (.aload_n 0, 1) := by decide +kernel
theorem dX6_next_78 : decode cX6_next 78 = .ok (.dup, 1) := by decide +kernel
theorem dX6_next_79 : decode cX6_next 79 = .ok (.getfield 69, 3) := by decide +kernel
theorem dX6_next_82 : decode cX6_next 82 = .ok (.iconst 1, 1) := by decide +kernel
theorem dX6_next_83 : decode cX6_next 83 = .ok (.isub, 1) := by decide +kernel
theorem dX6_next_84 : decode cX6_next 84 = .ok (.putfield 69, 3) := by decide +kernel
theorem dX6_next_87 : decode cX6_next 87 = .ok (.iload_n 3, 1) := by decide +kernel
theorem dX6_next_88 : decode cX6_next 88 = .ok (.ireturn, 1) := by decide +kernel
theorem dX6_power_0 : decode cX6_power 0 = .ok (.iconst 1, 1) := by decide +kernel
theorem dX6_power_1 : decode cX6_power 1 = .ok (.istore_n 1, 1) := by decide +kernel
theorem dX6_power_2 : decode cX6_power 2 = .ok (.iconst 0, 1) := by decide +kernel
theorem dX6_power_3 : decode cX6_power 3 = .ok (.istore_n 2, 1) := by decide +kernel
theorem dX6_power_4 : decode cX6_power 4 = .ok (.iload_n 2, 1) := by decide +kernel
theorem dX6_power_5 : decode cX6_power 5 = .ok (.iload_n 0, 1) := by decide +kernel
theorem dX6_power_6 : decode cX6_power 6 = .ok (.if_icmp .ge 14, 3) := by decide +kernel
theorem dX6_power_9 : decode cX6_power 9 = .ok (.iload_n 1, 1) := by decide +kernel
theorem dX6_power_10 : decode cX6_power 10 = .ok (.bipush 6, 2) := by decide +kernel
theorem dX6_power_12 : decode cX6_power 12 = .ok (.imul, 1) := by decide +kernel
theorem dX6_power_13 : decode cX6_power 13 = .ok (.istore_n 1, 1) := by decide +kernel
theorem dX6_power_14 : decode cX6_power 14 = .ok (.iinc 2 1, 3) := by decide +kernel
theorem dX6_power_17 : decode cX6_power 17 = .ok (.goto (-13), 3) := by decide +kernel
theorem dX6_power_20 : decode cX6_power 20 = .ok (.iload_n 1, 1) := by decide +kernel
theorem dX6_power_21 : decode cX6_power 21 = .ok (.ireturn, 1) := by decide +kernel
theorem dX6_more_0 : decode cX6_more 0 = .ok (.aload_n 0, 1) := by decide +kernel
theorem dX6_more_1 : decode cX6_more 1 = .ok (.getfield 69, 3) := by decide +kernel
theorem dX6_more_4 : decode cX6_more 4 = .ok (.istore_n 3, 1) := by decide +kernel
theorem dX6_more_5 : decode cX6_more 5 = .ok (.iconst 0, 1) := by decide +kernel
theorem dX6_more_6 : decode cX6_more 6 = .ok (.istore 4, 2) := by decide +kernel
theorem dX6_more_8 : decode cX6_more 8 = .ok (.iconst 0, 1) := by decide +kernel
theorem dX6_more_9 : decode cX6_more 9 = .ok (.istore 5, 2) := by decide +kernel
theorem dX6_more_11 : decode cX6_more 11 = .ok (.iload 5, 2) := by decide +kernel
theorem dX6_more_13 : decode cX6_more 13 = .ok (.iload_n 1, 1) := by decide +kernel
theorem dX6_more_14 : decode cX6_more 14 = .ok (.if_icmp .ge 50, 3) := by decide +kernel
theorem dX6_more_17 : decode cX6_more 17 = .ok (.aload_n 0, 1) := by decide +kernel
theorem dX6_more_18 : decode cX6_more 18 = .ok (.iload_n 2, 1) := by decide +kernel
theorem dX6_more_19 : decode cX6_more 19 = .ok (.iload_n 1, 1) := by decide +kernel
theorem dX6_more_20 : decode cX6_more 20 = .ok (.iconst 1, 1) := by decide +kernel
theorem dX6_more_21 : decode cX6_more 21 = .ok (.isub, 1) := by decide +kernel
theorem dX6_more_22 : decode cX6_more 22 = .ok (.iload 5, 2) := by decide +kernel
theorem dX6_more_24 : decode cX6_more 24 = .ok (.isub, 1) := by decide +kernel
theorem dX6_more_25 : decode cX6_more 25 = .ok (.invokestatic 142, 3) := by decide +kernel
theorem dX6_more_28 : decode cX6_more 28 = .ok (.idiv, 1) := by decide +kernel
theorem dX6_more_29 : decode cX6_more 29 = .ok (.bipush 6, 2) := by decide +kernel
theorem dX6_more_31 : decode cX6_more 31 = .ok (.irem, 1) := by decide +kernel
theorem dX6_more_32 : decode cX6_more 32 = .ok (.invokevirtual 108, 3) := by decide +kernel
theorem dX6_more_35 : decode cX6_more 35 = .ok (.iload 4, 2) := by decide +kernel
theorem dX6_more_37 : decode cX6_more 37 = .ok (.aload_n 0, 1) := by decide +kernel
theorem dX6_more_38 : decode cX6_more 38 = .ok (.aload_n 0, 1) := by decide +kernel
theorem dX6_more_39 : decode cX6_more 39 = .ok (.getfield 69, 3) := by decide +kernel
theorem dX6_more_42 : decode cX6_more 42 = .ok (.iconst 1, 1) := by decide +kernel
theorem dX6_more_43 : decode cX6_more 43 = .ok (.isub, 1) := by decide +kernel
theorem dX6_more_44 : decode cX6_more 44 = .ok (.invokevirtual 72, 3) := by decide +kernel
theorem dX6_more_47 : decode cX6_more 47 = .ok (.ifCond .eq 7, 3) := by decide +kernel
theorem dX6_more_50 : decode cX6_more 50 = .ok (.iconst 1, 1) := by decide +kernel
theorem dX6_more_51 : decode cX6_more 51 = .ok (.goto 4, 3) := by decide +kernel
theorem dX6_more_54 : decode cX6_more 54 = .ok (.iconst 0, 1) := by decide +kernel
theorem dX6_more_55 : decode cX6_more 55 = .ok (.iadd, 1) := by decide +kernel
theorem dX6_more_56 : decode cX6_more 56 = .ok (.istore 4, 2) := by decide +kernel
theorem dX6_more_58 : decode cX6_more 58 = .ok (.iinc 5 1, 3) := by decide +kernel
theorem dX6_more_61 : decode cX6_more 61 = .ok (.goto (-50), 3) := by decide +kernel
theorem dX6_more_64 : decode cX6_more 64 = .ok (.aload_n 0, 1) := by decide +kernel
theorem dX6_more_65 : decode cX6_more 65 = .ok (.iload_n 3, 1) := by decide +kernel
theorem dX6_more_66 : decode cX6_more 66 = .ok (.putfield 69, 3) := by decide +kernel
theorem dX6_more_69 : decode cX6_more 69 = .ok (.iload 4, 2) := by decide +kernel
theorem dX6_more_71 : decode cX6_more 71 = .ok (.ireturn, 1) := by decide +kernel
theorem dX6_grow_0 : decode cX6_grow 0 = .ok (.iload_n 1, 1) := by decide +kernel
theorem dX6_grow_1 : decode cX6_grow 1 = .ok (.i2l, 1) := by decide +kernel
theorem dX6_grow_2 : decode cX6_grow 2 = .ok (.lconst 0, 1) := by decide +kernel
theorem dX6_grow_3 : decode cX6_grow 3 = .ok (.ldc2_w 145, 3) := by decide +kernel
theorem dX6_grow_6 : decode cX6_grow 6 = .ok (.invokestatic 90, 3) := by decide +kernel
theorem dX6_grow_9 : decode cX6_grow 9 = .ok (.ifCond .eq 8, 3) := by decide +kernel
theorem dX6_grow_12 : decode cX6_grow 12 = .ok (.iload_n 2, 1) := by decide +kernel
theorem dX6_grow_13 : decode cX6_grow 13 = .ok (.iconst (-1), 1) := by decide +kernel
theorem dX6_grow_14 : decode cX6_grow 14 = .ok (.if_icmp .ge 5, 3) := by decide +kernel
theorem dX6_grow_17 : decode cX6_grow 17 = .ok (.iconst (-1), 1) := by decide +kernel
theorem dX6_grow_18 : decode cX6_grow 18 = .ok (.ireturn, 1) := by decide +kernel
theorem dX6_grow_19 : decode cX6_grow 19 = .ok (.aload_n 0, 1) := by decide +kernel
theorem dX6_grow_20 : decode cX6_grow 20 = .ok (.getfield 69, 3) := by decide +kernel
theorem dX6_grow_23 : decode cX6_grow 23 = .ok (.iload_n 1, 1) := by decide +kernel
theorem dX6_grow_24 : decode cX6_grow 24 = .ok (.iadd, 1) := by decide +kernel
theorem dX6_grow_25 : decode cX6_grow 25 = .ok (.bipush 48, 2) := by decide +kernel
theorem dX6_grow_27 : decode cX6_grow 27 = .ok (.if_icmp .le 6, 3) := by decide +kernel
theorem dX6_grow_30 : decode cX6_grow 30 = .ok (.bipush (-3), 2) := by decide +kernel
theorem dX6_grow_32 : decode cX6_grow 32 = .ok (.ireturn, 1) := by decide +kernel
theorem dX6_grow_33 : decode cX6_grow 33 = .ok (.iconst (-1), 1) := by decide +kernel
theorem dX6_grow_34 : decode cX6_grow 34 = .ok (.istore_n 3, 1) := by decide +kernel
theorem dX6_grow_35 : decode cX6_grow 35 = .ok (.iconst 0, 1) := by decide +kernel
theorem dX6_grow_36 : decode cX6_grow 36 = .ok (.istore 4, 2) := by decide +kernel
theorem dX6_grow_38 : decode cX6_grow 38 = .ok (.iconst 0, 1) := by decide +kernel
theorem dX6_grow_39 : decode cX6_grow 39 = .ok (.istore 5, 2) := by decide +kernel
theorem dX6_grow_41 : decode cX6_grow 41 = .ok (.iload 5, 2) := by decide +kernel
theorem dX6_grow_43 : decode cX6_grow 43 = .ok (.iload_n 1, 1) := by decide +kernel
theorem dX6_grow_44 : decode cX6_grow 44 = .ok (.invokestatic 142, 3) := by decide +kernel
theorem dX6_grow_47 : decode cX6_grow 47 = .ok (.if_icmp .ge 46, 3) := by decide +kernel
theorem dX6_grow_50 : decode cX6_grow 50 = .ok (.aload_n 0, 1) := by decide +kernel
theorem dX6_grow_51 : decode cX6_grow 51 = .ok (.iload_n 1, 1) := by decide +kernel
theorem dX6_grow_52 : decode cX6_grow 52 = .ok (.iload 5, 2) := by decide +kernel
theorem dX6_grow_54 : decode cX6_grow 54 = .ok (.invokevirtual 147, 3) := by decide +kernel
theorem dX6_grow_57 : decode cX6_grow 57 = .ok (.istore 6, 2) := by decide +kernel
theorem dX6_grow_59 : decode cX6_grow 59 = .ok (.iload 6, 2) := by decide +kernel
theorem dX6_grow_61 : decode cX6_grow 61 = .ok (.iload_n 3, 1) := by decide +kernel
theorem dX6_grow_62 : decode cX6_grow 62 = .ok (.if_icmp .le 8, 3) := by decide +kernel
theorem dX6_grow_65 : decode cX6_grow 65 = .ok (.iload 5, 2) := by decide +kernel
theorem dX6_grow_67 : decode cX6_grow 67 = .ok (.goto 5, 3) := by decide +kernel
theorem dX6_grow_70 : decode cX6_grow 70 = .ok (.iload 4, 2) := by decide +kernel
theorem dX6_grow_72 : decode cX6_grow 72 = .ok (.istore 4, 2) := by decide +kernel
theorem dX6_grow_74 : decode cX6_grow 74 = .ok (.iload 6, 2) := by decide +kernel
theorem dX6_grow_76 : decode cX6_grow 76 = .ok (.iload_n 3, 1) := by decide +kernel
theorem dX6_grow_77 : decode cX6_grow 77 = .ok (.if_icmp .le 8, 3) := by decide +kernel
theorem dX6_grow_80 : decode cX6_grow 80 = .ok (.iload 6, 2) := by decide +kernel
theorem dX6_grow_82 : decode cX6_grow 82 = .ok (.goto 4, 3) := by decide +kernel
theorem dX6_grow_85 : decode cX6_grow 85 = .ok (.iload_n 3, 1) := by decide +kernel
theorem dX6_grow_86 : decode cX6_grow 86 = .ok (.istore_n 3, 1) := by decide +kernel
theorem dX6_grow_87 : decode cX6_grow 87 = .ok (.iinc 5 1, 3) := by decide +kernel
theorem dX6_grow_90 : decode cX6_grow 90 = .ok (.goto (-49), 3) := by decide +kernel
theorem dX6_grow_93 : decode cX6_grow 93 = .ok (.aload_n 0, 1) := by decide +kernel
theorem dX6_grow_94 : decode cX6_grow 94 = .ok (.invokevirtual 111, 3) := by decide +kernel
theorem dX6_grow_97 : decode cX6_grow 97 = .ok (.iload_n 2, 1) := by decide +kernel
theorem dX6_grow_98 : decode cX6_grow 98 = .ok (.iconst (-1), 1) := by decide +kernel
theorem dX6_grow_99 : decode cX6_grow 99 = .ok (.if_icmp .ne 12, 3) := by decide +kernel
theorem dX6_grow_102 : decode cX6_grow 102 = .ok (.aload_n 0, 1) := by decide +kernel
theorem dX6_grow_103 : decode cX6_grow 103 = .ok (.getfield 65, 3) := by decide +kernel
theorem dX6_grow_106 : decode cX6_grow 106 = .ok (.iload_n 3, 1) := by decide +kernel
theorem dX6_grow_107 : decode cX6_grow 107 = .ok (.iadd, 1) := by decide +kernel
theorem dX6_grow_108 : decode cX6_grow 108 = .ok (.goto 30, 3) := by decide +kernel
theorem dX6_grow_111 : decode cX6_grow 111 = .ok (.iload_n 2, 1) := by decide +kernel
theorem dX6_grow_112 : decode cX6_grow 112 = .ok (.iload_n 1, 1) := by decide +kernel
theorem dX6_grow_113 : decode cX6_grow 113 = .ok (.if_icmp .ge 23, 3) := by decide +kernel
theorem dX6_grow_116 : decode cX6_grow 116 = .ok (.bipush 97, 2) := by decide +kernel
theorem dX6_grow_118 : decode cX6_grow 118 = .ok (.iload 4, 2) := by decide +kernel
theorem dX6_grow_120 : decode cX6_grow 120 = .ok (.iload_n 1, 1) := by decide +kernel
theorem dX6_grow_121 : decode cX6_grow 121 = .ok (.iconst 1, 1) := by decide +kernel
theorem dX6_grow_122 : decode cX6_grow 122 = .ok (.isub, 1) := by decide +kernel
theorem dX6_grow_123 : decode cX6_grow 123 = .ok (.iload_n 2, 1) := by decide +kernel
theorem dX6_grow_124 : decode cX6_grow 124 = .ok (.isub, 1) := by decide +kernel
theorem dX6_grow_125 : decode cX6_grow 125 = .ok (.invokestatic 142, 3) := by decide +kernel
theorem dX6_grow_128 : decode cX6_grow 128 = .ok (.idiv, 1) := by decide +kernel
theorem dX6_grow_129 : decode cX6_grow 129 = .ok (.bipush 6, 2) := by decide +kernel
theorem dX6_grow_131 : decode cX6_grow 131 = .ok (.irem, 1) := by decide +kernel
theorem dX6_grow_132 : decode cX6_grow 132 = .ok (.iadd, 1) := by decide +kernel
theorem dX6_grow_133 : decode cX6_grow 133 = .ok (.goto 5, 3) := by decide +kernel
theorem dX6_grow_136 : decode cX6_grow 136 = .ok (.bipush (-4), 2) := by decide +kernel
theorem dX6_grow_138 : decode cX6_grow 138 = .ok (.ireturn, 1) := by decide +kernel
theorem dX6_odds_0 : decode cX6_odds 0 = .ok (.iload_n 1, 1) := by decide +kernel
theorem dX6_odds_1 : decode cX6_odds 1 = .ok (.i2l, 1) := by decide +kernel
theorem dX6_odds_2 : decode cX6_odds 2 = .ok (.lconst 0, 1) := by decide +kernel
theorem dX6_odds_3 : decode cX6_odds 3 = .ok (.ldc2_w 150, 3) := by decide +kernel
theorem dX6_odds_6 : decode cX6_odds 6 = .ok (.invokestatic 90, 3) := by decide +kernel
theorem dX6_odds_9 : decode cX6_odds 9 = .ok (.ifCond .eq 25, 3) := by decide +kernel
theorem dX6_odds_12 : decode cX6_odds 12 = .ok (.iload_n 2, 1) := by decide +kernel
theorem dX6_odds_13 : decode cX6_odds 13 = .ok (.i2l, 1) := by decide +kernel
theorem dX6_odds_14 : decode cX6_odds 14 = .ok (.lconst 0, 1) := by decide +kernel
theorem dX6_odds_15 : decode cX6_odds 15 = .ok (.ldc2_w 152, 3) := by decide +kernel
theorem dX6_odds_18 : decode cX6_odds 18 = .ok (.invokestatic 90, 3) := by decide +kernel
theorem dX6_odds_21 : decode cX6_odds 21 = .ok (.ifCond .eq 13, 3) := by decide +kernel
theorem dX6_odds_24 : decode cX6_odds 24 = .ok (.iload_n 3, 1) := by decide +kernel
theorem dX6_odds_25 : decode cX6_odds 25 = .ok (.i2l, 1) := by decide +kernel
theorem dX6_odds_26 : decode cX6_odds 26 = .ok (.lconst 0, 1) := by decide +kernel
theorem dX6_odds_27 : decode cX6_odds 27 = .ok (.lconst 1, 1) := by decide +kernel
theorem dX6_odds_28 : decode cX6_odds 28 = .ok (.invokestatic 90, 3) := by decide +kernel
theorem dX6_odds_31 : decode cX6_odds 31 = .ok (.ifCond .ne 5, 3) := by decide +kernel
theorem dX6_odds_34 : decode cX6_odds 34 = .ok (.iconst (-1), 1) := by decide +kernel
theorem dX6_odds_35 : decode cX6_odds 35 = .ok (.ireturn, 1) := by decide +kernel
theorem dX6_odds_36 : decode cX6_odds 36 = .ok (.aload_n 0, 1) := by decide +kernel
theorem dX6_odds_37 : decode cX6_odds 37 = .ok (.getfield 69, 3) := by decide +kernel
theorem dX6_odds_40 : decode cX6_odds 40 = .ok (.iload_n 1, 1) := by decide +kernel
theorem dX6_odds_41 : decode cX6_odds 41 = .ok (.iadd, 1) := by decide +kernel
theorem dX6_odds_42 : decode cX6_odds 42 = .ok (.bipush 48, 2) := by decide +kernel
theorem dX6_odds_44 : decode cX6_odds 44 = .ok (.if_icmp .le 6, 3) := by decide +kernel
theorem dX6_odds_47 : decode cX6_odds 47 = .ok (.bipush (-3), 2) := by decide +kernel
theorem dX6_odds_49 : decode cX6_odds 49 = .ok (.ireturn, 1) := by decide +kernel
theorem dX6_odds_50 : decode cX6_odds 50 = .ok (.iconst 0, 1) := by decide +kernel
theorem dX6_odds_51 : decode cX6_odds 51 = .ok (.istore 4, 2) := by decide +kernel
theorem dX6_odds_53 : decode cX6_odds 53 = .ok (.iload_n 1, 1) := by decide +kernel
theorem dX6_odds_54 : decode cX6_odds 54 = .ok (.invokestatic 142, 3) := by decide +kernel
theorem dX6_odds_57 : decode cX6_odds 57 = .ok (.istore 5, 2) := by decide +kernel
theorem dX6_odds_59 : decode cX6_odds 59 = .ok (.iconst 0, 1) := by decide +kernel
theorem dX6_odds_60 : decode cX6_odds 60 = .ok (.istore 6, 2) := by decide +kernel
theorem dX6_odds_62 : decode cX6_odds 62 = .ok (.iload 6, 2) := by decide +kernel
theorem dX6_odds_64 : decode cX6_odds 64 = .ok (.iload 5, 2) := by decide +kernel
theorem dX6_odds_66 : decode cX6_odds 66 = .ok (.if_icmp .ge 30, 3) := by decide +kernel
theorem dX6_odds_69 : decode cX6_odds 69 = .ok (.iload 4, 2) := by decide +kernel
theorem dX6_odds_71 : decode cX6_odds 71 = .ok (.aload_n 0, 1) := by decide +kernel
theorem dX6_odds_72 : decode cX6_odds 72 = .ok (.iload_n 1, 1) := by decide +kernel
theorem dX6_odds_73 : decode cX6_odds 73 = .ok (.iload 6, 2) := by decide +kernel
theorem dX6_odds_75 : decode cX6_odds 75 = .ok (.invokevirtual 147, 3) := by decide +kernel
theorem dX6_odds_78 : decode cX6_odds 78 = .ok (.iload_n 2, 1) := by decide +kernel
theorem dX6_odds_79 : decode cX6_odds 79 = .ok (.if_icmp .lt 7, 3) := by decide +kernel
theorem dX6_odds_82 : decode cX6_odds 82 = .ok (.iconst 1, 1) := by decide +kernel
theorem dX6_odds_83 : decode cX6_odds 83 = .ok (.goto 4, 3) := by decide +kernel
theorem dX6_odds_86 : decode cX6_odds 86 = .ok (.iconst 0, 1) := by decide +kernel
theorem dX6_odds_87 : decode cX6_odds 87 = .ok (.iadd, 1) := by decide +kernel
theorem dX6_odds_88 : decode cX6_odds 88 = .ok (.istore 4, 2) := by decide +kernel
theorem dX6_odds_90 : decode cX6_odds 90 = .ok (.iinc 6 1, 3) := by decide +kernel
theorem dX6_odds_93 : decode cX6_odds 93 = .ok (.goto (-31), 3) := by decide +kernel
theorem dX6_odds_96 : decode cX6_odds 96 = .ok (.iload 4, 2) := by decide +kernel
theorem dX6_odds_98 : decode cX6_odds 98 = .ok (.istore 6, 2) := by decide +kernel
theorem dX6_odds_100 : decode cX6_odds 100 = .ok (.iload 5, 2) := by decide +kernel
theorem dX6_odds_102 : decode cX6_odds 102 = .ok (.istore 7, 2) := by decide +kernel
theorem dX6_odds_104 : decode cX6_odds 104 = .ok (.iload 7, 2) := by decide +kernel
theorem dX6_odds_106 : decode cX6_odds 106 = .ok (.ifCond .le 21, 3) := by decide +kernel
theorem dX6_odds_109 : decode cX6_odds 109 = .ok (.iload 6, 2) := by decide +kernel
theorem dX6_odds_111 : decode cX6_odds 111 = .ok (.iload 7, 2) := by decide +kernel
theorem dX6_odds_113 : decode cX6_odds 113 = .ok (.irem, 1) := by decide +kernel
theorem dX6_odds_114 : decode cX6_odds 114 = .ok (.istore 8, 2) := by decide +kernel
theorem dX6_odds_116 : decode cX6_odds 116 = .ok (.iload 7, 2) := by decide +kernel
theorem dX6_odds_118 : decode cX6_odds 118 = .ok (.istore 6, 2) := by decide +kernel
theorem dX6_odds_120 : decode cX6_odds 120 = .ok (.iload 8, 2) := by decide +kernel
theorem dX6_odds_122 : decode cX6_odds 122 = .ok (.istore 7, 2) := by decide +kernel
theorem dX6_odds_124 : decode cX6_odds 124 = .ok (.goto (-20), 3) := by decide +kernel
theorem dX6_odds_127 : decode cX6_odds 127 = .ok (.iload_n 3, 1) := by decide +kernel
theorem dX6_odds_128 : decode cX6_odds 128 = .ok (.ifCond .ne 11, 3) := by decide +kernel
theorem dX6_odds_131 : decode cX6_odds 131 = .ok (.iload 4, 2) := by decide +kernel
theorem dX6_odds_133 : decode cX6_odds 133 = .ok (.iload 6, 2) := by decide +kernel
theorem dX6_odds_135 : decode cX6_odds 135 = .ok (.idiv, 1) := by decide +kernel
theorem dX6_odds_136 : decode cX6_odds 136 = .ok (.goto 8, 3) := by decide +kernel
theorem dX6_odds_139 : decode cX6_odds 139 = .ok (.iload 5, 2) := by decide +kernel
theorem dX6_odds_141 : decode cX6_odds 141 = .ok (.iload 6, 2) := by decide +kernel
theorem dX6_odds_143 : decode cX6_odds 143 = .ok (.idiv, 1) := by decide +kernel
theorem dX6_odds_144 : decode cX6_odds 144 = .ok (.ireturn, 1) := by decide +kernel
theorem dX6_walks_0 : decode cX6_walks 0 = .ok (.iload_n 1, 1) := by decide +kernel
theorem dX6_walks_1 : decode cX6_walks 1 = .ok (.i2l, 1) := by decide +kernel
theorem dX6_walks_2 : decode cX6_walks 2 = .ok (.lconst 0, 1) := by decide +kernel
theorem dX6_walks_3 : decode cX6_walks 3 = .ok (.ldc2_w 154, 3) := by decide +kernel
theorem dX6_walks_6 : decode cX6_walks 6 = .ok (.invokestatic 90, 3) := by decide +kernel
theorem dX6_walks_9 : decode cX6_walks 9 = .ok (.ifCond .eq 25, 3) := by decide +kernel
theorem dX6_walks_12 : decode cX6_walks 12 = .ok (.iload_n 2, 1) := by decide +kernel
theorem dX6_walks_13 : decode cX6_walks 13 = .ok (.i2l, 1) := by decide +kernel
theorem dX6_walks_14 : decode cX6_walks 14 = .ok (.lconst 1, 1) := by decide +kernel
theorem dX6_walks_15 : decode cX6_walks 15 = .ok (.ldc2_w 156, 3) := by decide +kernel
theorem dX6_walks_18 : decode cX6_walks 18 = .ok (.invokestatic 90, 3) := by decide +kernel
theorem dX6_walks_21 : decode cX6_walks 21 = .ok (.ifCond .eq 13, 3) := by decide +kernel
theorem dX6_walks_24 : decode cX6_walks 24 = .ok (.iload_n 3, 1) := by decide +kernel
theorem dX6_walks_25 : decode cX6_walks 25 = .ok (.i2l, 1) := by decide +kernel
theorem dX6_walks_26 : decode cX6_walks 26 = .ok (.lconst 0, 1) := by decide +kernel
theorem dX6_walks_27 : decode cX6_walks 27 = .ok (.lconst 1, 1) := by decide +kernel
theorem dX6_walks_28 : decode cX6_walks 28 = .ok (.invokestatic 90, 3) := by decide +kernel
theorem dX6_walks_31 : decode cX6_walks 31 = .ok (.ifCond .ne 5, 3) := by decide +kernel
theorem dX6_walks_34 : decode cX6_walks 34 = .ok (.iconst (-1), 1) := by decide +kernel
theorem dX6_walks_35 : decode cX6_walks 35 = .ok (.ireturn, 1) := by decide +kernel
theorem dX6_walks_36 : decode cX6_walks 36 = .ok (.aload_n 0, 1) := by decide +kernel
theorem dX6_walks_37 : decode cX6_walks 37 = .ok (.getfield 69, 3) := by decide +kernel
theorem dX6_walks_40 : decode cX6_walks 40 = .ok (.istore 4, 2) := by decide +kernel
theorem dX6_walks_42 : decode cX6_walks 42 = .ok (.aload_n 0, 1) := by decide +kernel
theorem dX6_walks_43 : decode cX6_walks 43 = .ok (.getfield 7, 3) := by decide +kernel
theorem dX6_walks_46 : decode cX6_walks 46 = .ok (.iconst 0, 1) := by decide +kernel
theorem dX6_walks_47 : decode cX6_walks 47 = .ok (.aload_n 0, 1) := by decide +kernel
theorem dX6_walks_48 : decode cX6_walks 48 = .ok (.getfield 50, 3) := by decide +kernel
theorem dX6_walks_51 : decode cX6_walks 51 = .ok (.iconst 0, 1) := by decide +kernel
theorem dX6_walks_52 : decode cX6_walks 52 = .ok (.iload 4, 2) := by decide +kernel
theorem dX6_walks_54 : decode cX6_walks 54 = .ok (.invokestatic 97, 3) := by decide +kernel
theorem dX6_walks_57 : decode cX6_walks 57 = .ok (.iload_n 2, 1) := by decide +kernel
theorem dX6_walks_58 : decode cX6_walks 58 = .ok (.i2l, 1) := by decide +kernel
theorem dX6_walks_59 : decode cX6_walks 59 = .ok (.lstore 5, 2) := by decide +kernel
theorem dX6_walks_61 : decode cX6_walks 61 = .ok (.iconst 0, 1) := by decide +kernel
theorem dX6_walks_62 : decode cX6_walks 62 = .ok (.istore 7, 2) := by decide +kernel
theorem dX6_walks_64 : decode cX6_walks 64 = .ok (.iload 7, 2) := by decide +kernel
theorem dX6_walks_66 : decode cX6_walks 66 = .ok (.iload_n 1, 1) := by decide +kernel
theorem dX6_walks_67 : decode cX6_walks 67 = .ok (.if_icmp .ge 76, 3) := by decide +kernel
theorem dX6_walks_70 : decode cX6_walks 70 = .ok (.ldc2_w 158, 3) := by decide +kernel
theorem dX6_walks_73 : decode cX6_walks 73 = .ok (.lload 5, 2) := by decide +kernel
theorem dX6_walks_75 : decode cX6_walks 75 = .ok (.lmul, 1) := by decide +kernel
theorem dX6_walks_76 : decode cX6_walks 76 = .ok (.ldc2_w 160, 3) := by decide +kernel
theorem dX6_walks_79 : decode cX6_walks 79 = .ok (.lrem, 1) := by decide +kernel
theorem dX6_walks_80 : decode cX6_walks 80 = .ok (.lstore 5, 2) := by decide +kernel
theorem dX6_walks_82 : decode cX6_walks 82 = .ok (.lload 5, 2) := by decide +kernel
theorem dX6_walks_84 : decode cX6_walks 84 = .ok (.ldc2_w 162, 3) := by decide +kernel
theorem dX6_walks_87 : decode cX6_walks 87 = .ok (.ldiv, 1) := by decide +kernel
theorem dX6_walks_88 : decode cX6_walks 88 = .ok (.ldc2_w 150, 3) := by decide +kernel
theorem dX6_walks_91 : decode cX6_walks 91 = .ok (.lrem, 1) := by decide +kernel
theorem dX6_walks_92 : decode cX6_walks 92 = .ok (.lconst 0, 1) := by decide +kernel
theorem dX6_walks_93 : decode cX6_walks 93 = .ok (.lcmp, 1) := by decide +kernel
theorem dX6_walks_94 : decode cX6_walks 94 = .ok (.ifCond .ne 10, 3) := by decide +kernel
theorem dX6_walks_97 : decode cX6_walks 97 = .ok (.aload_n 0, 1) := by decide +kernel
theorem dX6_walks_98 : decode cX6_walks 98 = .ok (.getfield 69, 3) := by decide +kernel
theorem dX6_walks_101 : decode cX6_walks 101 = .ok (.ifCond .gt 12, 3) := by decide +kernel
theorem dX6_walks_104 : decode cX6_walks 104 = .ok (.aload_n 0, 1) := by decide +kernel
theorem dX6_walks_105 : decode cX6_walks 105 = .ok (.getfield 69, 3) := by decide +kernel
theorem dX6_walks_108 : decode cX6_walks 108 = .ok (.bipush 48, 2) := by decide +kernel
theorem dX6_walks_110 : decode cX6_walks 110 = .ok (.if_icmp .ne 16, 3) := by decide +kernel
theorem dX6_walks_113 : decode cX6_walks 113 = .ok (.aload_n 0, 1) := by decide +kernel
theorem dX6_walks_114 : decode cX6_walks 114 = .ok (.dup, 1) := by decide +kernel
theorem dX6_walks_115 : decode cX6_walks 115 = .ok (.getfield 69, 3) := by decide +kernel
theorem dX6_walks_118 : decode cX6_walks 118 = .ok (.iconst 1, 1) := by decide +kernel
theorem dX6_walks_119 : decode cX6_walks 119 = .ok (.isub, 1) := by decide +kernel
theorem dX6_walks_120 : decode cX6_walks 120 = .ok (.putfield 69, 3) := by decide +kernel
theorem dX6_walks_123 : decode cX6_walks 123 = .ok (.goto 14, 3) := by decide +kernel
theorem dX6_walks_126 : decode cX6_walks 126 = .ok (.aload_n 0, 1) := by decide +kernel
theorem dX6_walks_127 : decode cX6_walks 127 = .ok (.lload 5, 2) := by decide +kernel
theorem dX6_walks_129 : decode cX6_walks 129 = .ok (.ldc2_w 164, 3) := by decide +kernel
theorem dX6_walks_132 : decode cX6_walks 132 = .ok (.lrem, 1) := by decide +kernel
theorem dX6_walks_133 : decode cX6_walks 133 = .ok (.l2i, 1) := by decide +kernel
theorem dX6_walks_134 : decode cX6_walks 134 = .ok (.invokevirtual 108, 3) := by decide +kernel
theorem dX6_walks_137 : decode cX6_walks 137 = .ok (.iinc 7 1, 3) := by decide +kernel
theorem dX6_walks_140 : decode cX6_walks 140 = .ok (.goto (-76), 3) := by decide +kernel
theorem dX6_walks_143 : decode cX6_walks 143 = .ok (.aload_n 0, 1) := by decide +kernel
theorem dX6_walks_144 : decode cX6_walks 144 = .ok (.invokevirtual 111, 3) := by decide +kernel
theorem dX6_walks_147 : decode cX6_walks 147 = .ok (.iload_n 3, 1) := by decide +kernel
theorem dX6_walks_148 : decode cX6_walks 148 = .ok (.ifCond .ne 10, 3) := by decide +kernel
theorem dX6_walks_151 : decode cX6_walks 151 = .ok (.aload_n 0, 1) := by decide +kernel
theorem dX6_walks_152 : decode cX6_walks 152 = .ok (.getfield 65, 3) := by decide +kernel
theorem dX6_walks_155 : decode cX6_walks 155 = .ok (.goto 7, 3) := by decide +kernel
theorem dX6_walks_158 : decode cX6_walks 158 = .ok (.aload_n 0, 1) := by decide +kernel
theorem dX6_walks_159 : decode cX6_walks 159 = .ok (.getfield 69, 3) := by decide +kernel
theorem dX6_walks_162 : decode cX6_walks 162 = .ok (.istore 7, 2) := by decide +kernel
theorem dX6_walks_164 : decode cX6_walks 164 = .ok (.aload_n 0, 1) := by decide +kernel
theorem dX6_walks_165 : decode cX6_walks 165 = .ok (.iload 4, 2) := by decide +kernel
theorem dX6_walks_167 : decode cX6_walks 167 = .ok (.putfield 69, 3) := by decide +kernel
theorem dX6_walks_170 : decode cX6_walks 170 = .ok (.aload_n 0, 1) := by decide +kernel
theorem dX6_walks_171 : decode cX6_walks 171 = .ok (.getfield 50, 3) := by decide +kernel
theorem dX6_walks_174 : decode cX6_walks 174 = .ok (.iconst 0, 1) := by decide +kernel
theorem dX6_walks_175 : decode cX6_walks 175 = .ok (.aload_n 0, 1) := by decide +kernel
theorem dX6_walks_176 : decode cX6_walks 176 = .ok (.getfield 7, 3) := by decide +kernel
theorem dX6_walks_179 : decode cX6_walks 179 = .ok (.iconst 0, 1) := by decide +kernel
theorem dX6_walks_180 : decode cX6_walks 180 = .ok (.iload 4, 2) := by decide +kernel
theorem dX6_walks_182 : decode cX6_walks 182 = .ok (.invokestatic 97, 3) := by decide +kernel
theorem dX6_walks_185 : decode cX6_walks 185 = .ok (.iload 7, 2) := by decide +kernel
theorem dX6_walks_187 : decode cX6_walks 187 = .ok (.ireturn, 1) := by decide +kernel
theorem dX6_feed_0 : decode cX6_feed 0 = .ok (.iload_n 1, 1) := by decide +kernel
theorem dX6_feed_1 : decode cX6_feed 1 = .ok (.i2l, 1) := by decide +kernel
theorem dX6_feed_2 : decode cX6_feed 2 = .ok (.lconst 0, 1) := by decide +kernel
theorem dX6_feed_3 : decode cX6_feed 3 = .ok (.ldc2_w 166, 3) := by decide +kernel
theorem dX6_feed_6 : decode cX6_feed 6 = .ok (.invokestatic 90, 3) := by decide +kernel
theorem dX6_feed_9 : decode cX6_feed 9 = .ok (.ifCond .ne 5, 3) := by decide +kernel
theorem dX6_feed_12 : decode cX6_feed 12 = .ok (.iconst (-1), 1) := by decide +kernel
theorem dX6_feed_13 : decode cX6_feed 13 = .ok (.ireturn, 1) := by decide +kernel
theorem dX6_feed_14 : decode cX6_feed 14 = .ok (.aload_n 0, 1) := by decide +kernel
theorem dX6_feed_15 : decode cX6_feed 15 = .ok (.getfield 168, 3) := by decide +kernel
theorem dX6_feed_18 : decode cX6_feed 18 = .ok (.bipush 48, 2) := by decide +kernel
theorem dX6_feed_20 : decode cX6_feed 20 = .ok (.if_icmp .ne 6, 3) := by decide +kernel
theorem dX6_feed_23 : decode cX6_feed 23 = .ok (.bipush (-3), 2) := by decide +kernel
theorem dX6_feed_25 : decode cX6_feed 25 = .ok (.ireturn, 1) := by decide +kernel
theorem dX6_feed_26 : decode cX6_feed 26 = .ok (.aload_n 0, 1) := by decide +kernel
theorem dX6_feed_27 : decode cX6_feed 27 = .ok (.getfield 22, 3) := by decide +kernel
theorem dX6_feed_30 : decode cX6_feed 30 = .ok (.aload_n 0, 1) := by decide +kernel
theorem dX6_feed_31 : decode cX6_feed 31 = .ok (.getfield 168, 3) := by decide +kernel
theorem dX6_feed_34 : decode cX6_feed 34 = .ok (.iload_n 1, 1) := by decide +kernel
theorem dX6_feed_35 : decode cX6_feed 35 = .ok (.iastore, 1) := by decide +kernel
theorem dX6_feed_36 : decode cX6_feed 36 = .ok (.aload_n 0, 1) := by decide +kernel
theorem dX6_feed_37 : decode cX6_feed 37 = .ok (.dup, 1) := by decide +kernel
theorem dX6_feed_38 : decode cX6_feed 38 = .ok (.getfield 168, 3) := by decide +kernel
theorem dX6_feed_41 : decode cX6_feed 41 = .ok (.iconst 1, 1) := by decide +kernel
theorem dX6_feed_42 : decode cX6_feed 42 = .ok (.iadd, 1) := by decide +kernel
theorem dX6_feed_43 : decode cX6_feed 43 = .ok (.putfield 168, 3) := by decide +kernel
theorem dX6_feed_46 : decode cX6_feed 46 = .ok (.aload_n 0, 1) := by decide +kernel
theorem dX6_feed_47 : decode cX6_feed 47 = .ok (.getfield 168, 3) := by decide +kernel
theorem dX6_feed_50 : decode cX6_feed 50 = .ok (.ireturn, 1) := by decide +kernel
theorem dX6_clear_0 : decode cX6_clear 0 = .ok (.aload_n 0, 1) := by decide +kernel
theorem dX6_clear_1 : decode cX6_clear 1 = .ok (.getfield 168, 3) := by decide +kernel
theorem dX6_clear_4 : decode cX6_clear 4 = .ok (.istore_n 1, 1) := by decide +kernel
theorem dX6_clear_5 : decode cX6_clear 5 = .ok (.aload_n 0, 1) := by decide +kernel
theorem dX6_clear_6 : decode cX6_clear 6 = .ok (.iconst 0, 1) := by decide +kernel
