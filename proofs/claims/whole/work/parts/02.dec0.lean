theorem dX0_init_0 : decode cX0_init 0 = .ok (.aload_n 0, 1) := by decide +kernel
theorem dX0_init_1 : decode cX0_init 1 = .ok (.invokespecial 1, 3) := by decide +kernel
theorem dX0_init_4 : decode cX0_init 4 = .ok (.aload_n 0, 1) := by decide +kernel
theorem dX0_init_5 : decode cX0_init 5 = .ok (.bipush 24, 2) := by decide +kernel
theorem dX0_init_7 : decode cX0_init 7 = .ok (.newarray .int, 2) := by decide +kernel
theorem dX0_init_9 : decode cX0_init 9 = .ok (.putfield 9, 3) := by decide +kernel
theorem dX0_init_12 : decode cX0_init 12 = .ok (.aload_n 0, 1) := by decide +kernel
theorem dX0_init_13 : decode cX0_init 13 = .ok (.bipush 24, 2) := by decide +kernel
theorem dX0_init_15 : decode cX0_init 15 = .ok (.newarray .int, 2) := by decide +kernel
theorem dX0_init_17 : decode cX0_init 17 = .ok (.putfield 13, 3) := by decide +kernel
theorem dX0_init_20 : decode cX0_init 20 = .ok (.aload_n 0, 1) := by decide +kernel
theorem dX0_init_21 : decode cX0_init 21 = .ok (.bipush 24, 2) := by decide +kernel
theorem dX0_init_23 : decode cX0_init 23 = .ok (.newarray .int, 2) := by decide +kernel
theorem dX0_init_25 : decode cX0_init 25 = .ok (.putfield 16, 3) := by decide +kernel
theorem dX0_init_28 : decode cX0_init 28 = .ok (.return_, 1) := by decide +kernel
theorem dX0_note_0 : decode cX0_note 0 = .ok (.aload_n 0, 1) := by decide +kernel
theorem dX0_note_1 : decode cX0_note 1 = .ok (.getfield 19, 3) := by decide +kernel
theorem dX0_note_4 : decode cX0_note 4 = .ok (.bipush 24, 2) := by decide +kernel
theorem dX0_note_6 : decode cX0_note 6 = .ok (.if_icmp .ne 7, 3) := by decide +kernel
theorem dX0_note_9 : decode cX0_note 9 = .ok (.aload_n 0, 1) := by decide +kernel
theorem dX0_note_10 : decode cX0_note 10 = .ok (.invokevirtual 23, 3) := by decide +kernel
theorem dX0_note_13 : decode cX0_note 13 = .ok (.aload_n 0, 1) := by decide +kernel
theorem dX0_note_14 : decode cX0_note 14 = .ok (.getfield 9, 3) := by decide +kernel
theorem dX0_note_17 : decode cX0_note 17 = .ok (.aload_n 0, 1) := by decide +kernel
theorem dX0_note_18 : decode cX0_note 18 = .ok (.getfield 19, 3) := by decide +kernel
theorem dX0_note_21 : decode cX0_note 21 = .ok (.iload_n 1, 1) := by decide +kernel
theorem dX0_note_22 : decode cX0_note 22 = .ok (.iastore, 1) := by decide +kernel
theorem dX0_note_23 : decode cX0_note 23 = .ok (.aload_n 0, 1) := by decide +kernel
theorem dX0_note_24 : decode cX0_note 24 = .ok (.getfield 13, 3) := by decide +kernel
theorem dX0_note_27 : decode cX0_note 27 = .ok (.aload_n 0, 1) := by decide +kernel
theorem dX0_note_28 : decode cX0_note 28 = .ok (.getfield 19, 3) := by decide +kernel
theorem dX0_note_31 : decode cX0_note 31 = .ok (.iload_n 2, 1) := by decide +kernel
theorem dX0_note_32 : decode cX0_note 32 = .ok (.iastore, 1) := by decide +kernel
theorem dX0_note_33 : decode cX0_note 33 = .ok (.aload_n 0, 1) := by decide +kernel
theorem dX0_note_34 : decode cX0_note 34 = .ok (.getfield 16, 3) := by decide +kernel
theorem dX0_note_37 : decode cX0_note 37 = .ok (.aload_n 0, 1) := by decide +kernel
theorem dX0_note_38 : decode cX0_note 38 = .ok (.getfield 19, 3) := by decide +kernel
theorem dX0_note_41 : decode cX0_note 41 = .ok (.iload_n 3, 1) := by decide +kernel
theorem dX0_note_42 : decode cX0_note 42 = .ok (.iastore, 1) := by decide +kernel
theorem dX0_note_43 : decode cX0_note 43 = .ok (.aload_n 0, 1) := by decide +kernel
theorem dX0_note_44 : decode cX0_note 44 = .ok (.dup, 1) := by decide +kernel
theorem dX0_note_45 : decode cX0_note 45 = .ok (.getfield 19, 3) := by decide +kernel
theorem dX0_note_48 : decode cX0_note 48 = .ok (.iconst 1, 1) := by decide +kernel
theorem dX0_note_49 : decode cX0_note 49 = .ok (.iadd, 1) := by decide +kernel
theorem dX0_note_50 : decode cX0_note 50 = .ok (.putfield 19, 3) := by decide +kernel
theorem dX0_note_53 : decode cX0_note 53 = .ok (.return_, 1) := by decide +kernel
theorem dX0_forgetOldest_0 : decode cX0_forgetOldest 0 = .ok (.aload_n 0, 1) := by decide +kernel
theorem dX0_forgetOldest_1 : decode cX0_forgetOldest 1 = .ok (.dup, 1) := by decide +kernel
theorem dX0_forgetOldest_2 : decode cX0_forgetOldest 2 = .ok (.getfield 19, 3) := by decide +kernel
theorem dX0_forgetOldest_5 : decode cX0_forgetOldest 5 = .ok (.iconst 1, 1) := by decide +kernel
theorem dX0_forgetOldest_6 : decode cX0_forgetOldest 6 = .ok (.isub, 1) := by decide +kernel
theorem dX0_forgetOldest_7 : decode cX0_forgetOldest 7 = .ok (.putfield 19, 3) := by decide +kernel
theorem dX0_forgetOldest_10 : decode cX0_forgetOldest 10 = .ok (.aload_n 0, 1) := by decide +kernel
theorem dX0_forgetOldest_11 : decode cX0_forgetOldest 11 = .ok (.getfield 9, 3) := by decide +kernel
theorem dX0_forgetOldest_14 : decode cX0_forgetOldest 14 = .ok (.iconst 1, 1) := by decide +kernel
theorem dX0_forgetOldest_15 : decode cX0_forgetOldest 15 = .ok (.aload_n 0, 1) := by decide +kernel
theorem dX0_forgetOldest_16 : decode cX0_forgetOldest 16 = .ok (.getfield 9, 3) := by decide +kernel
theorem dX0_forgetOldest_19 : decode cX0_forgetOldest 19 = .ok (.iconst 0, 1) := by decide +kernel
theorem dX0_forgetOldest_20 : decode cX0_forgetOldest 20 = .ok (.aload_n 0, 1) := by decide +kernel
theorem dX0_forgetOldest_21 : decode cX0_forgetOldest 21 = .ok (.getfield 19, 3) := by decide +kernel
theorem dX0_forgetOldest_24 : decode cX0_forgetOldest 24 = .ok (.invokestatic 26, 3) := by decide +kernel
theorem dX0_forgetOldest_27 : decode cX0_forgetOldest 27 = .ok (.aload_n 0, 1) := by decide +kernel
theorem dX0_forgetOldest_28 : decode cX0_forgetOldest 28 = .ok (.getfield 13, 3) := by decide +kernel
theorem dX0_forgetOldest_31 : decode cX0_forgetOldest 31 = .ok (.iconst 1, 1) := by decide +kernel
theorem dX0_forgetOldest_32 : decode cX0_forgetOldest 32 = .ok (.aload_n 0, 1) := by decide +kernel
theorem dX0_forgetOldest_33 : decode cX0_forgetOldest 33 = .ok (.getfield 13, 3) := by decide +kernel
theorem dX0_forgetOldest_36 : decode cX0_forgetOldest 36 = .ok (.iconst 0, 1) := by decide +kernel
theorem dX0_forgetOldest_37 : decode cX0_forgetOldest 37 = .ok (.aload_n 0, 1) := by decide +kernel
theorem dX0_forgetOldest_38 : decode cX0_forgetOldest 38 = .ok (.getfield 19, 3) := by decide +kernel
theorem dX0_forgetOldest_41 : decode cX0_forgetOldest 41 = .ok (.invokestatic 26, 3) := by decide +kernel
theorem dX0_forgetOldest_44 : decode cX0_forgetOldest 44 = .ok (.aload_n 0, 1) := by decide +kernel
theorem dX0_forgetOldest_45 : decode cX0_forgetOldest 45 = .ok (.getfield 16, 3) := by decide +kernel
theorem dX0_forgetOldest_48 : decode cX0_forgetOldest 48 = .ok (.iconst 1, 1) := by decide +kernel
theorem dX0_forgetOldest_49 : decode cX0_forgetOldest 49 = .ok (.aload_n 0, 1) := by decide +kernel
theorem dX0_forgetOldest_50 : decode cX0_forgetOldest 50 = .ok (.getfield 16, 3) := by decide +kernel
theorem dX0_forgetOldest_53 : decode cX0_forgetOldest 53 = .ok (.iconst 0, 1) := by decide +kernel
theorem dX0_forgetOldest_54 : decode cX0_forgetOldest 54 = .ok (.aload_n 0, 1) := by decide +kernel
theorem dX0_forgetOldest_55 : decode cX0_forgetOldest 55 = .ok (.getfield 19, 3) := by decide +kernel
theorem dX0_forgetOldest_58 : decode cX0_forgetOldest 58 = .ok (.invokestatic 26, 3) := by decide +kernel
theorem dX0_forgetOldest_61 : decode cX0_forgetOldest 61 = .ok (.return_, 1) := by decide +kernel
theorem dX0_takeBackLatest_0 : decode cX0_takeBackLatest 0 = .ok (.aload_n 0, 1) := by decide +kernel
theorem dX0_takeBackLatest_1 : decode cX0_takeBackLatest 1 = .ok (.dup, 1) := by decide +kernel
theorem dX0_takeBackLatest_2 : decode cX0_takeBackLatest 2 = .ok (.getfield 19, 3) := by decide +kernel
theorem dX0_takeBackLatest_5 : decode cX0_takeBackLatest 5 = .ok (.iconst 1, 1) := by decide +kernel
theorem dX0_takeBackLatest_6 : decode cX0_takeBackLatest 6 = .ok (.isub, 1) := by decide +kernel
theorem dX0_takeBackLatest_7 : decode cX0_takeBackLatest 7 = .ok (.putfield 19, 3) := by decide +kernel
theorem dX0_takeBackLatest_10 : decode cX0_takeBackLatest 10 = .ok (.aload_n 0, 1) := by decide +kernel
theorem dX0_takeBackLatest_11 : decode cX0_takeBackLatest 11 = .ok (.getfield 9, 3) := by decide +kernel
theorem dX0_takeBackLatest_14 : decode cX0_takeBackLatest 14 = .ok (.aload_n 0, 1) := by decide +kernel
theorem dX0_takeBackLatest_15 : decode cX0_takeBackLatest 15 = .ok (.getfield 19, 3) := by decide +kernel
theorem dX0_takeBackLatest_18 : decode cX0_takeBackLatest 18 = .ok (.iaload, 1) := by decide +kernel
theorem dX0_takeBackLatest_19 : decode cX0_takeBackLatest 19 = .ok (.ifCond .ne 10, 3) := by decide +kernel
theorem dX0_takeBackLatest_22 : decode cX0_takeBackLatest 22 = .ok (.aload_n 1, 1) := by decide +kernel
theorem dX0_takeBackLatest_23 : decode cX0_takeBackLatest 23 = .ok (.invokevirtual 32, 3) := by decide +kernel
theorem dX0_takeBackLatest_26 : decode cX0_takeBackLatest 26 = .ok (.goto 55, 3) := by decide +kernel
theorem dX0_takeBackLatest_29 : decode cX0_takeBackLatest 29 = .ok (.aload_n 0, 1) := by decide +kernel
theorem dX0_takeBackLatest_30 : decode cX0_takeBackLatest 30 = .ok (.getfield 9, 3) := by decide +kernel
theorem dX0_takeBackLatest_33 : decode cX0_takeBackLatest 33 = .ok (.aload_n 0, 1) := by decide +kernel
theorem dX0_takeBackLatest_34 : decode cX0_takeBackLatest 34 = .ok (.getfield 19, 3) := by decide +kernel
theorem dX0_takeBackLatest_37 : decode cX0_takeBackLatest 37 = .ok (.iaload, 1) := by decide +kernel
theorem dX0_takeBackLatest_38 : decode cX0_takeBackLatest 38 = .ok (.iconst 1, 1) := by decide +kernel
theorem dX0_takeBackLatest_39 : decode cX0_takeBackLatest 39 = .ok (.if_icmp .ne 20, 3) := by decide +kernel
theorem dX0_takeBackLatest_42 : decode cX0_takeBackLatest 42 = .ok (.aload_n 1, 1) := by decide +kernel
theorem dX0_takeBackLatest_43 : decode cX0_takeBackLatest 43 = .ok (.aload_n 0, 1) := by decide +kernel
theorem dX0_takeBackLatest_44 : decode cX0_takeBackLatest 44 = .ok (.getfield 16, 3) := by decide +kernel
theorem dX0_takeBackLatest_47 : decode cX0_takeBackLatest 47 = .ok (.aload_n 0, 1) := by decide +kernel
theorem dX0_takeBackLatest_48 : decode cX0_takeBackLatest 48 = .ok (.getfield 19, 3) := by decide +kernel
theorem dX0_takeBackLatest_51 : decode cX0_takeBackLatest 51 = .ok (.iaload, 1) := by decide +kernel
theorem dX0_takeBackLatest_52 : decode cX0_takeBackLatest 52 = .ok (.invokevirtual 37, 3) := by decide +kernel
theorem dX0_takeBackLatest_55 : decode cX0_takeBackLatest 55 = .ok (.pop, 1) := by decide +kernel
theorem dX0_takeBackLatest_56 : decode cX0_takeBackLatest 56 = .ok (.goto 25, 3) := by decide +kernel
theorem dX0_takeBackLatest_59 : decode cX0_takeBackLatest 59 = .ok (.aload_n 1, 1) := by decide +kernel
theorem dX0_takeBackLatest_60 : decode cX0_takeBackLatest 60 = .ok (.aload_n 0, 1) := by decide +kernel
theorem dX0_takeBackLatest_61 : decode cX0_takeBackLatest 61 = .ok (.getfield 13, 3) := by decide +kernel
theorem dX0_takeBackLatest_64 : decode cX0_takeBackLatest 64 = .ok (.aload_n 0, 1) := by decide +kernel
theorem dX0_takeBackLatest_65 : decode cX0_takeBackLatest 65 = .ok (.getfield 19, 3) := by decide +kernel
theorem dX0_takeBackLatest_68 : decode cX0_takeBackLatest 68 = .ok (.iaload, 1) := by decide +kernel
theorem dX0_takeBackLatest_69 : decode cX0_takeBackLatest 69 = .ok (.aload_n 0, 1) := by decide +kernel
theorem dX0_takeBackLatest_70 : decode cX0_takeBackLatest 70 = .ok (.getfield 16, 3) := by decide +kernel
theorem dX0_takeBackLatest_73 : decode cX0_takeBackLatest 73 = .ok (.aload_n 0, 1) := by decide +kernel
theorem dX0_takeBackLatest_74 : decode cX0_takeBackLatest 74 = .ok (.getfield 19, 3) := by decide +kernel
theorem dX0_takeBackLatest_77 : decode cX0_takeBackLatest 77 = .ok (.iaload, 1) := by decide +kernel
theorem dX0_takeBackLatest_78 : decode cX0_takeBackLatest 78 = .ok (.invokevirtual 41, 3) := by decide +kernel
theorem dX0_takeBackLatest_81 : decode cX0_takeBackLatest 81 = .ok (.return_, 1) := by decide +kernel
theorem dX0_forget_0 : decode cX0_forget 0 = .ok (.aload_n 0, 1) := by decide +kernel
theorem dX0_forget_1 : decode cX0_forget 1 = .ok (.iconst 0, 1) := by decide +kernel
theorem dX0_forget_2 : decode cX0_forget 2 = .ok (.putfield 19, 3) := by decide +kernel
theorem dX0_forget_5 : decode cX0_forget 5 = .ok (.return_, 1) := by decide +kernel
theorem dX1_init_0 : decode cX1_init 0 = .ok (.aload_n 0, 1) := by decide +kernel
theorem dX1_init_1 : decode cX1_init 1 = .ok (.invokespecial 3, 3) := by decide +kernel
theorem dX1_init_4 : decode cX1_init 4 = .ok (.aload_n 0, 1) := by decide +kernel
theorem dX1_init_5 : decode cX1_init 5 = .ok (.bipush 48, 2) := by decide +kernel
theorem dX1_init_7 : decode cX1_init 7 = .ok (.newarray .int, 2) := by decide +kernel
theorem dX1_init_9 : decode cX1_init 9 = .ok (.putfield 9, 3) := by decide +kernel
theorem dX1_init_12 : decode cX1_init 12 = .ok (.aload_n 0, 1) := by decide +kernel
theorem dX1_init_13 : decode cX1_init 13 = .ok (.bipush 48, 2) := by decide +kernel
theorem dX1_init_15 : decode cX1_init 15 = .ok (.newarray .int, 2) := by decide +kernel
theorem dX1_init_17 : decode cX1_init 17 = .ok (.putfield 15, 3) := by decide +kernel
theorem dX1_init_20 : decode cX1_init 20 = .ok (.aload_n 0, 1) := by decide +kernel
theorem dX1_init_21 : decode cX1_init 21 = .ok (.bipush 50, 2) := by decide +kernel
theorem dX1_init_23 : decode cX1_init 23 = .ok (.newarray .int, 2) := by decide +kernel
theorem dX1_init_25 : decode cX1_init 25 = .ok (.putfield 18, 3) := by decide +kernel
theorem dX1_init_28 : decode cX1_init 28 = .ok (.aload_n 0, 1) := by decide +kernel
theorem dX1_init_29 : decode cX1_init 29 = .ok (.bipush 50, 2) := by decide +kernel
theorem dX1_init_31 : decode cX1_init 31 = .ok (.newarray .int, 2) := by decide +kernel
theorem dX1_init_33 : decode cX1_init 33 = .ok (.putfield 21, 3) := by decide +kernel
theorem dX1_init_36 : decode cX1_init 36 = .ok (.aload_n 0, 1) := by decide +kernel
theorem dX1_init_37 : decode cX1_init 37 = .ok (.bipush 50, 2) := by decide +kernel
theorem dX1_init_39 : decode cX1_init 39 = .ok (.newarray .int, 2) := by decide +kernel
theorem dX1_init_41 : decode cX1_init 41 = .ok (.putfield 24, 3) := by decide +kernel
theorem dX1_init_44 : decode cX1_init 44 = .ok (.aload_n 0, 1) := by decide +kernel
theorem dX1_init_45 : decode cX1_init 45 = .ok (.bipush 50, 2) := by decide +kernel
theorem dX1_init_47 : decode cX1_init 47 = .ok (.newarray .int, 2) := by decide +kernel
theorem dX1_init_49 : decode cX1_init 49 = .ok (.putfield 27, 3) := by decide +kernel
theorem dX1_init_52 : decode cX1_init 52 = .ok (.aload_n 0, 1) := by decide +kernel
theorem dX1_init_53 : decode cX1_init 53 = .ok (.bipush 50, 2) := by decide +kernel
theorem dX1_init_55 : decode cX1_init 55 = .ok (.newarray .int, 2) := by decide +kernel
theorem dX1_init_57 : decode cX1_init 57 = .ok (.putfield 30, 3) := by decide +kernel
theorem dX1_init_60 : decode cX1_init 60 = .ok (.aload_n 0, 1) := by decide +kernel
theorem dX1_init_61 : decode cX1_init 61 = .ok (.bipush 50, 2) := by decide +kernel
theorem dX1_init_63 : decode cX1_init 63 = .ok (.newarray .int, 2) := by decide +kernel
theorem dX1_init_65 : decode cX1_init 65 = .ok (.putfield 33, 3) := by decide +kernel
theorem dX1_init_68 : decode cX1_init 68 = .ok (.aload_n 0, 1) := by decide +kernel
theorem dX1_init_69 : decode cX1_init 69 = .ok (.sipush 300, 3) := by decide +kernel
theorem dX1_init_72 : decode cX1_init 72 = .ok (.newarray .int, 2) := by decide +kernel
theorem dX1_init_74 : decode cX1_init 74 = .ok (.putfield 36, 3) := by decide +kernel
theorem dX1_init_77 : decode cX1_init 77 = .ok (.aload_n 0, 1) := by decide +kernel
theorem dX1_init_78 : decode cX1_init 78 = .ok (.getfield 18, 3) := by decide +kernel
theorem dX1_init_81 : decode cX1_init 81 = .ok (.bipush 49, 2) := by decide +kernel
theorem dX1_init_83 : decode cX1_init 83 = .ok (.iconst (-1), 1) := by decide +kernel
theorem dX1_init_84 : decode cX1_init 84 = .ok (.iastore, 1) := by decide +kernel
theorem dX1_init_85 : decode cX1_init 85 = .ok (.aload_n 0, 1) := by decide +kernel
theorem dX1_init_86 : decode cX1_init 86 = .ok (.getfield 21, 3) := by decide +kernel
theorem dX1_init_89 : decode cX1_init 89 = .ok (.bipush 48, 2) := by decide +kernel
theorem dX1_init_91 : decode cX1_init 91 = .ok (.bipush 49, 2) := by decide +kernel
theorem dX1_init_93 : decode cX1_init 93 = .ok (.iastore, 1) := by decide +kernel
theorem dX1_init_94 : decode cX1_init 94 = .ok (.aload_n 0, 1) := by decide +kernel
theorem dX1_init_95 : decode cX1_init 95 = .ok (.getfield 21, 3) := by decide +kernel
theorem dX1_init_98 : decode cX1_init 98 = .ok (.bipush 49, 2) := by decide +kernel
theorem dX1_init_100 : decode cX1_init 100 = .ok (.bipush 49, 2) := by decide +kernel
theorem dX1_init_102 : decode cX1_init 102 = .ok (.iastore, 1) := by decide +kernel
theorem dX1_init_103 : decode cX1_init 103 = .ok (.aload_n 0, 1) := by decide +kernel
theorem dX1_init_104 : decode cX1_init 104 = .ok (.getfield 24, 3) := by decide +kernel
theorem dX1_init_107 : decode cX1_init 107 = .ok (.bipush 48, 2) := by decide +kernel
theorem dX1_init_109 : decode cX1_init 109 = .ok (.bipush 48, 2) := by decide +kernel
theorem dX1_init_111 : decode cX1_init 111 = .ok (.iastore, 1) := by decide +kernel
theorem dX1_init_112 : decode cX1_init 112 = .ok (.aload_n 0, 1) := by decide +kernel
theorem dX1_init_113 : decode cX1_init 113 = .ok (.getfield 24, 3) := by decide +kernel
theorem dX1_init_116 : decode cX1_init 116 = .ok (.bipush 49, 2) := by decide +kernel
theorem dX1_init_118 : decode cX1_init 118 = .ok (.bipush 48, 2) := by decide +kernel
theorem dX1_init_120 : decode cX1_init 120 = .ok (.iastore, 1) := by decide +kernel
theorem dX1_init_121 : decode cX1_init 121 = .ok (.aload_n 0, 1) := by decide +kernel
theorem dX1_init_122 : decode cX1_init 122 = .ok (.getfield 36, 3) := by decide +kernel
theorem dX1_init_125 : decode cX1_init 125 = .ok (.iconst (-1), 1) := by decide +kernel
theorem dX1_init_126 : decode cX1_init 126 = .ok (.invokestatic 39, 3) := by decide +kernel
theorem dX1_init_129 : decode cX1_init 129 = .ok (.return_, 1) := by decide +kernel
theorem dX1_add_0 : decode cX1_add 0 = .ok (.aload_n 0, 1) := by decide +kernel
theorem dX1_add_1 : decode cX1_add 1 = .ok (.getfield 9, 3) := by decide +kernel
theorem dX1_add_4 : decode cX1_add 4 = .ok (.aload_n 0, 1) := by decide +kernel
theorem dX1_add_5 : decode cX1_add 5 = .ok (.getfield 45, 3) := by decide +kernel
theorem dX1_add_8 : decode cX1_add 8 = .ok (.iload_n 1, 1) := by decide +kernel
theorem dX1_add_9 : decode cX1_add 9 = .ok (.iastore, 1) := by decide +kernel
theorem dX1_add_10 : decode cX1_add 10 = .ok (.aload_n 0, 1) := by decide +kernel
theorem dX1_add_11 : decode cX1_add 11 = .ok (.aload_n 0, 1) := by decide +kernel
theorem dX1_add_12 : decode cX1_add 12 = .ok (.getfield 45, 3) := by decide +kernel
theorem dX1_add_15 : decode cX1_add 15 = .ok (.ifCond .ne 8, 3) := by decide +kernel
theorem dX1_add_18 : decode cX1_add 18 = .ok (.bipush 48, 2) := by decide +kernel
theorem dX1_add_20 : decode cX1_add 20 = .ok (.goto 14, 3) := by decide +kernel
theorem dX1_add_23 : decode cX1_add 23 = .ok (.aload_n 0, 1) := by decide +kernel
theorem dX1_add_24 : decode cX1_add 24 = .ok (.getfield 15, 3) := by decide +kernel
theorem dX1_add_27 : decode cX1_add 27 = .ok (.aload_n 0, 1) := by decide +kernel
theorem dX1_add_28 : decode cX1_add 28 = .ok (.getfield 45, 3) := by decide +kernel
theorem dX1_add_31 : decode cX1_add 31 = .ok (.iconst 1, 1) := by decide +kernel
theorem dX1_add_32 : decode cX1_add 32 = .ok (.isub, 1) := by decide +kernel
theorem dX1_add_33 : decode cX1_add 33 = .ok (.iaload, 1) := by decide +kernel
theorem dX1_add_34 : decode cX1_add 34 = .ok (.iload_n 1, 1) := by decide +kernel
theorem dX1_add_35 : decode cX1_add 35 = .ok (.invokevirtual 49, 3) := by decide +kernel
theorem dX1_add_38 : decode cX1_add 38 = .ok (.istore_n 2, 1) := by decide +kernel
theorem dX1_add_39 : decode cX1_add 39 = .ok (.aload_n 0, 1) := by decide +kernel
theorem dX1_add_40 : decode cX1_add 40 = .ok (.getfield 36, 3) := by decide +kernel
theorem dX1_add_43 : decode cX1_add 43 = .ok (.iload_n 2, 1) := by decide +kernel
theorem dX1_add_44 : decode cX1_add 44 = .ok (.iload_n 1, 1) := by decide +kernel
theorem dX1_add_45 : decode cX1_add 45 = .ok (.invokestatic 53, 3) := by decide +kernel
theorem dX1_add_48 : decode cX1_add 48 = .ok (.iaload, 1) := by decide +kernel
theorem dX1_add_49 : decode cX1_add 49 = .ok (.istore_n 3, 1) := by decide +kernel
theorem dX1_add_50 : decode cX1_add 50 = .ok (.iload_n 3, 1) := by decide +kernel
theorem dX1_add_51 : decode cX1_add 51 = .ok (.iconst (-1), 1) := by decide +kernel
theorem dX1_add_52 : decode cX1_add 52 = .ok (.if_icmp .ne 10, 3) := by decide +kernel
theorem dX1_add_55 : decode cX1_add 55 = .ok (.aload_n 0, 1) := by decide +kernel
theorem dX1_add_56 : decode cX1_add 56 = .ok (.iload_n 2, 1) := by decide +kernel
theorem dX1_add_57 : decode cX1_add 57 = .ok (.iload_n 1, 1) := by decide +kernel
theorem dX1_add_58 : decode cX1_add 58 = .ok (.invokevirtual 56, 3) := by decide +kernel
theorem dX1_add_61 : decode cX1_add 61 = .ok (.istore_n 3, 1) := by decide +kernel
theorem dX1_add_62 : decode cX1_add 62 = .ok (.aload_n 0, 1) := by decide +kernel
theorem dX1_add_63 : decode cX1_add 63 = .ok (.getfield 15, 3) := by decide +kernel
theorem dX1_add_66 : decode cX1_add 66 = .ok (.aload_n 0, 1) := by decide +kernel
theorem dX1_add_67 : decode cX1_add 67 = .ok (.getfield 45, 3) := by decide +kernel
theorem dX1_add_70 : decode cX1_add 70 = .ok (.iload_n 3, 1) := by decide +kernel
theorem dX1_add_71 : decode cX1_add 71 = .ok (.iastore, 1) := by decide +kernel
theorem dX1_add_72 : decode cX1_add 72 = .ok (.aload_n 0, 1) := by decide +kernel
theorem dX1_add_73 : decode cX1_add 73 = .ok (.dup, 1) := by decide +kernel
theorem dX1_add_74 : decode cX1_add 74 = .ok (.getfield 45, 3) := by decide +kernel
theorem dX1_add_77 : decode cX1_add 77 = .ok (.iconst 1, 1) := by decide +kernel
theorem dX1_add_78 : decode cX1_add 78 = .ok (.iadd, 1) := by decide +kernel
theorem dX1_add_79 : decode cX1_add 79 = .ok (.putfield 45, 3) := by decide +kernel
theorem dX1_add_82 : decode cX1_add 82 = .ok (.aload_n 0, 1) := by decide +kernel
theorem dX1_add_83 : decode cX1_add 83 = .ok (.getfield 18, 3) := by decide +kernel
theorem dX1_add_86 : decode cX1_add 86 = .ok (.iload_n 3, 1) := by decide +kernel
theorem dX1_add_87 : decode cX1_add 87 = .ok (.iaload, 1) := by decide +kernel
theorem dX1_add_88 : decode cX1_add 88 = .ok (.ireturn, 1) := by decide +kernel
theorem dX1_longestBehind_0 : decode cX1_longestBehind 0 = .ok (.iload_n 1, 1) := by decide +kernel
theorem dX1_longestBehind_1 : decode cX1_longestBehind 1 = .ok (.istore_n 3, 1) := by decide +kernel
theorem dX1_longestBehind_2 : decode cX1_longestBehind 2 = .ok (.iconst 0, 1) := by decide +kernel
theorem dX1_longestBehind_3 : decode cX1_longestBehind 3 = .ok (.istore 4, 2) := by decide +kernel
theorem dX1_longestBehind_5 : decode cX1_longestBehind 5 = .ok (.iload 4, 2) := by decide +kernel
theorem dX1_longestBehind_7 : decode cX1_longestBehind 7 = .ok (.bipush 50, 2) := by decide +kernel
theorem dX1_longestBehind_9 : decode cX1_longestBehind 9 = .ok (.if_icmp .ge 49, 3) := by decide +kernel
theorem dX1_longestBehind_12 : decode cX1_longestBehind 12 = .ok (.aload_n 0, 1) := by decide +kernel
theorem dX1_longestBehind_13 : decode cX1_longestBehind 13 = .ok (.getfield 45, 3) := by decide +kernel
theorem dX1_longestBehind_16 : decode cX1_longestBehind 16 = .ok (.iconst 1, 1) := by decide +kernel
theorem dX1_longestBehind_17 : decode cX1_longestBehind 17 = .ok (.isub, 1) := by decide +kernel
theorem dX1_longestBehind_18 : decode cX1_longestBehind 18 = .ok (.aload_n 0, 1) := by decide +kernel
theorem dX1_longestBehind_19 : decode cX1_longestBehind 19 = .ok (.getfield 18, 3) := by decide +kernel
theorem dX1_longestBehind_22 : decode cX1_longestBehind 22 = .ok (.iload_n 3, 1) := by decide +kernel
theorem dX1_longestBehind_23 : decode cX1_longestBehind 23 = .ok (.iaload, 1) := by decide +kernel
theorem dX1_longestBehind_24 : decode cX1_longestBehind 24 = .ok (.isub, 1) := by decide +kernel
theorem dX1_longestBehind_25 : decode cX1_longestBehind 25 = .ok (.istore 5, 2) := by decide +kernel
theorem dX1_longestBehind_27 : decode cX1_longestBehind 27 = .ok (.iload 5, 2) := by decide +kernel
theorem dX1_longestBehind_29 : decode cX1_longestBehind 29 = .ok (.ifCond .lt 16, 3) := by decide +kernel
theorem dX1_longestBehind_32 : decode cX1_longestBehind 32 = .ok (.aload_n 0, 1) := by decide +kernel
theorem dX1_longestBehind_33 : decode cX1_longestBehind 33 = .ok (.getfield 9, 3) := by decide +kernel
theorem dX1_longestBehind_36 : decode cX1_longestBehind 36 = .ok (.iload 5, 2) := by decide +kernel
theorem dX1_longestBehind_38 : decode cX1_longestBehind 38 = .ok (.iaload, 1) := by decide +kernel
theorem dX1_longestBehind_39 : decode cX1_longestBehind 39 = .ok (.iload_n 2, 1) := by decide +kernel
theorem dX1_longestBehind_40 : decode cX1_longestBehind 40 = .ok (.if_icmp .ne 5, 3) := by decide +kernel
theorem dX1_longestBehind_43 : decode cX1_longestBehind 43 = .ok (.iload_n 3, 1) := by decide +kernel
theorem dX1_longestBehind_44 : decode cX1_longestBehind 44 = .ok (.ireturn, 1) := by decide +kernel
theorem dX1_longestBehind_45 : decode cX1_longestBehind 45 = .ok (.aload_n 0, 1) := by decide +kernel
theorem dX1_longestBehind_46 : decode cX1_longestBehind 46 = .ok (.getfield 21, 3) := by decide +kernel
theorem dX1_longestBehind_49 : decode cX1_longestBehind 49 = .ok (.iload_n 3, 1) := by decide +kernel
theorem dX1_longestBehind_50 : decode cX1_longestBehind 50 = .ok (.iaload, 1) := by decide +kernel
theorem dX1_longestBehind_51 : decode cX1_longestBehind 51 = .ok (.istore_n 3, 1) := by decide +kernel
theorem dX1_longestBehind_52 : decode cX1_longestBehind 52 = .ok (.iinc 4 1, 3) := by decide +kernel
theorem dX1_longestBehind_55 : decode cX1_longestBehind 55 = .ok (.goto (-50), 3) := by decide +kernel
theorem dX1_longestBehind_58 : decode cX1_longestBehind 58 = .ok (.bipush 49, 2) := by decide +kernel
theorem dX1_longestBehind_60 : decode cX1_longestBehind 60 = .ok (.ireturn, 1) := by decide +kernel
theorem dX1_create_0 : decode cX1_create 0 = .ok (.aload_n 0, 1) := by decide +kernel
theorem dX1_create_1 : decode cX1_create 1 = .ok (.getfield 59, 3) := by decide +kernel
theorem dX1_create_4 : decode cX1_create 4 = .ok (.istore_n 3, 1) := by decide +kernel
theorem dX1_create_5 : decode cX1_create 5 = .ok (.aload_n 0, 1) := by decide +kernel
theorem dX1_create_6 : decode cX1_create 6 = .ok (.getfield 18, 3) := by decide +kernel
theorem dX1_create_9 : decode cX1_create 9 = .ok (.iload_n 3, 1) := by decide +kernel
theorem dX1_create_10 : decode cX1_create 10 = .ok (.aload_n 0, 1) := by decide +kernel
theorem dX1_create_11 : decode cX1_create 11 = .ok (.getfield 18, 3) := by decide +kernel
theorem dX1_create_14 : decode cX1_create 14 = .ok (.iload_n 1, 1) := by decide +kernel
theorem dX1_create_15 : decode cX1_create 15 = .ok (.iaload, 1) := by decide +kernel
theorem dX1_create_16 : decode cX1_create 16 = .ok (.iconst 2, 1) := by decide +kernel
theorem dX1_create_17 : decode cX1_create 17 = .ok (.iadd, 1) := by decide +kernel
theorem dX1_create_18 : decode cX1_create 18 = .ok (.iastore, 1) := by decide +kernel
theorem dX1_create_19 : decode cX1_create 19 = .ok (.aload_n 0, 1) := by decide +kernel
theorem dX1_create_20 : decode cX1_create 20 = .ok (.getfield 27, 3) := by decide +kernel
theorem dX1_create_23 : decode cX1_create 23 = .ok (.iload_n 3, 1) := by decide +kernel
theorem dX1_create_24 : decode cX1_create 24 = .ok (.iload_n 1, 1) := by decide +kernel
theorem dX1_create_25 : decode cX1_create 25 = .ok (.iastore, 1) := by decide +kernel
theorem dX1_create_26 : decode cX1_create 26 = .ok (.aload_n 0, 1) := by decide +kernel
theorem dX1_create_27 : decode cX1_create 27 = .ok (.getfield 30, 3) := by decide +kernel
theorem dX1_create_30 : decode cX1_create 30 = .ok (.iload_n 3, 1) := by decide +kernel
theorem dX1_create_31 : decode cX1_create 31 = .ok (.aload_n 0, 1) := by decide +kernel
theorem dX1_create_32 : decode cX1_create 32 = .ok (.getfield 45, 3) := by decide +kernel
theorem dX1_create_35 : decode cX1_create 35 = .ok (.iastore, 1) := by decide +kernel
theorem dX1_create_36 : decode cX1_create 36 = .ok (.iload_n 1, 1) := by decide +kernel
theorem dX1_create_37 : decode cX1_create 37 = .ok (.bipush 49, 2) := by decide +kernel
theorem dX1_create_39 : decode cX1_create 39 = .ok (.if_icmp .ne 8, 3) := by decide +kernel
theorem dX1_create_42 : decode cX1_create 42 = .ok (.bipush 48, 2) := by decide +kernel
theorem dX1_create_44 : decode cX1_create 44 = .ok (.goto 23, 3) := by decide +kernel
theorem dX1_create_47 : decode cX1_create 47 = .ok (.aload_n 0, 1) := by decide +kernel
theorem dX1_create_48 : decode cX1_create 48 = .ok (.getfield 36, 3) := by decide +kernel
theorem dX1_create_51 : decode cX1_create 51 = .ok (.aload_n 0, 1) := by decide +kernel
theorem dX1_create_52 : decode cX1_create 52 = .ok (.aload_n 0, 1) := by decide +kernel
theorem dX1_create_53 : decode cX1_create 53 = .ok (.getfield 21, 3) := by decide +kernel
theorem dX1_create_56 : decode cX1_create 56 = .ok (.iload_n 1, 1) := by decide +kernel
theorem dX1_create_57 : decode cX1_create 57 = .ok (.iaload, 1) := by decide +kernel
theorem dX1_create_58 : decode cX1_create 58 = .ok (.iload_n 2, 1) := by decide +kernel
theorem dX1_create_59 : decode cX1_create 59 = .ok (.invokevirtual 49, 3) := by decide +kernel
theorem dX1_create_62 : decode cX1_create 62 = .ok (.iload_n 2, 1) := by decide +kernel
theorem dX1_create_63 : decode cX1_create 63 = .ok (.invokestatic 53, 3) := by decide +kernel
theorem dX1_create_66 : decode cX1_create 66 = .ok (.iaload, 1) := by decide +kernel
theorem dX1_create_67 : decode cX1_create 67 = .ok (.istore 4, 2) := by decide +kernel
theorem dX1_create_69 : decode cX1_create 69 = .ok (.aload_n 0, 1) := by decide +kernel
theorem dX1_create_70 : decode cX1_create 70 = .ok (.getfield 21, 3) := by decide +kernel
theorem dX1_create_73 : decode cX1_create 73 = .ok (.iload_n 3, 1) := by decide +kernel
theorem dX1_create_74 : decode cX1_create 74 = .ok (.iload 4, 2) := by decide +kernel
theorem dX1_create_76 : decode cX1_create 76 = .ok (.iastore, 1) := by decide +kernel
theorem dX1_create_77 : decode cX1_create 77 = .ok (.aload_n 0, 1) := by decide +kernel
theorem dX1_create_78 : decode cX1_create 78 = .ok (.getfield 33, 3) := by decide +kernel
theorem dX1_create_81 : decode cX1_create 81 = .ok (.iload_n 3, 1) := by decide +kernel
theorem dX1_create_82 : decode cX1_create 82 = .ok (.aload_n 0, 1) := by decide +kernel
theorem dX1_create_83 : decode cX1_create 83 = .ok (.getfield 33, 3) := by decide +kernel
theorem dX1_create_86 : decode cX1_create 86 = .ok (.iload 4, 2) := by decide +kernel
theorem dX1_create_88 : decode cX1_create 88 = .ok (.iaload, 1) := by decide +kernel
theorem dX1_create_89 : decode cX1_create 89 = .ok (.iconst 1, 1) := by decide +kernel
theorem dX1_create_90 : decode cX1_create 90 = .ok (.iadd, 1) := by decide +kernel
theorem dX1_create_91 : decode cX1_create 91 = .ok (.iastore, 1) := by decide +kernel
theorem dX1_create_92 : decode cX1_create 92 = .ok (.aload_n 0, 1) := by decide +kernel
theorem dX1_create_93 : decode cX1_create 93 = .ok (.getfield 24, 3) := by decide +kernel
theorem dX1_create_96 : decode cX1_create 96 = .ok (.iload_n 3, 1) := by decide +kernel
theorem dX1_create_97 : decode cX1_create 97 = .ok (.aload_n 0, 1) := by decide +kernel
theorem dX1_create_98 : decode cX1_create 98 = .ok (.iload_n 3, 1) := by decide +kernel
theorem dX1_create_99 : decode cX1_create 99 = .ok (.invokevirtual 62, 3) := by decide +kernel
theorem dX1_create_102 : decode cX1_create 102 = .ok (.aload_n 0, 1) := by decide +kernel
theorem dX1_create_103 : decode cX1_create 103 = .ok (.iload 4, 2) := by decide +kernel
theorem dX1_create_105 : decode cX1_create 105 = .ok (.invokevirtual 62, 3) := by decide +kernel
theorem dX1_create_108 : decode cX1_create 108 = .ok (.if_icmp .ne 13, 3) := by decide +kernel
theorem dX1_create_111 : decode cX1_create 111 = .ok (.aload_n 0, 1) := by decide +kernel
theorem dX1_create_112 : decode cX1_create 112 = .ok (.getfield 24, 3) := by decide +kernel
theorem dX1_create_115 : decode cX1_create 115 = .ok (.iload 4, 2) := by decide +kernel
theorem dX1_create_117 : decode cX1_create 117 = .ok (.iaload, 1) := by decide +kernel
theorem dX1_create_118 : decode cX1_create 118 = .ok (.goto 5, 3) := by decide +kernel
theorem dX1_create_121 : decode cX1_create 121 = .ok (.iload 4, 2) := by decide +kernel
theorem dX1_create_123 : decode cX1_create 123 = .ok (.iastore, 1) := by decide +kernel
theorem dX1_create_124 : decode cX1_create 124 = .ok (.aload_n 0, 1) := by decide +kernel
theorem dX1_create_125 : decode cX1_create 125 = .ok (.getfield 36, 3) := by decide +kernel
theorem dX1_create_128 : decode cX1_create 128 = .ok (.iload_n 1, 1) := by decide +kernel
theorem dX1_create_129 : decode cX1_create 129 = .ok (.iload_n 2, 1) := by decide +kernel
theorem dX1_create_130 : decode cX1_create 130 = .ok (.invokestatic 53, 3) := by decide +kernel
theorem dX1_create_133 : decode cX1_create 133 = .ok (.iload_n 3, 1) := by decide +kernel
theorem dX1_create_134 : decode cX1_create 134 = .ok (.iastore, 1) := by decide +kernel
theorem dX1_create_135 : decode cX1_create 135 = .ok (.aload_n 0, 1) := by decide +kernel
theorem dX1_create_136 : decode cX1_create 136 = .ok (.dup, 1) := by decide +kernel
theorem dX1_create_137 : decode cX1_create 137 = .ok (.getfield 59, 3) := by decide +kernel
theorem dX1_create_140 : decode cX1_create 140 = .ok (.iconst 1, 1) := by decide +kernel
theorem dX1_create_141 : decode cX1_create 141 = .ok (.iadd, 1) := by decide +kernel
theorem dX1_create_142 : decode cX1_create 142 = .ok (.putfield 59, 3) := by decide +kernel
theorem dX1_create_145 : decode cX1_create 145 = .ok (.iload_n 3, 1) := by decide +kernel
theorem dX1_create_146 : decode cX1_create 146 = .ok (.ireturn, 1) := by decide +kernel
theorem dX1_edge_0 : decode cX1_edge 0 = .ok (.iload_n 0, 1) := by decide +kernel
theorem dX1_edge_1 : decode cX1_edge 1 = .ok (.bipush 6, 2) := by decide +kernel
theorem dX1_edge_3 : decode cX1_edge 3 = .ok (.imul, 1) := by decide +kernel
theorem dX1_edge_4 : decode cX1_edge 4 = .ok (.iload_n 1, 1) := by decide +kernel
theorem dX1_edge_5 : decode cX1_edge 5 = .ok (.iadd, 1) := by decide +kernel
theorem dX1_edge_6 : decode cX1_edge 6 = .ok (.bipush 97, 2) := by decide +kernel
theorem dX1_edge_8 : decode cX1_edge 8 = .ok (.isub, 1) := by decide +kernel
theorem dX1_edge_9 : decode cX1_edge 9 = .ok (.ireturn, 1) := by decide +kernel
theorem dX1_removeLast_0 : decode cX1_removeLast 0 = .ok (.aload_n 0, 1) := by decide +kernel
theorem dX1_removeLast_1 : decode cX1_removeLast 1 = .ok (.dup, 1) := by decide +kernel
theorem dX1_removeLast_2 : decode cX1_removeLast 2 = .ok (.getfield 45, 3) := by decide +kernel
theorem dX1_removeLast_5 : decode cX1_removeLast 5 = .ok (.iconst 1, 1) := by decide +kernel
theorem dX1_removeLast_6 : decode cX1_removeLast 6 = .ok (.isub, 1) := by decide +kernel
theorem dX1_removeLast_7 : decode cX1_removeLast 7 = .ok (.putfield 45, 3) := by decide +kernel
theorem dX1_removeLast_10 : decode cX1_removeLast 10 = .ok (.aload_n 0, 1) := by decide +kernel
theorem dX1_removeLast_11 : decode cX1_removeLast 11 = .ok (.getfield 15, 3) := by decide +kernel
theorem dX1_removeLast_14 : decode cX1_removeLast 14 = .ok (.aload_n 0, 1) := by decide +kernel
theorem dX1_removeLast_15 : decode cX1_removeLast 15 = .ok (.getfield 45, 3) := by decide +kernel
theorem dX1_removeLast_18 : decode cX1_removeLast 18 = .ok (.iaload, 1) := by decide +kernel
theorem dX1_removeLast_19 : decode cX1_removeLast 19 = .ok (.istore_n 1, 1) := by decide +kernel
theorem dX1_removeLast_20 : decode cX1_removeLast 20 = .ok (.aload_n 0, 1) := by decide +kernel
theorem dX1_removeLast_21 : decode cX1_removeLast 21 = .ok (.getfield 30, 3) := by decide +kernel
theorem dX1_removeLast_24 : decode cX1_removeLast 24 = .ok (.iload_n 1, 1) := by decide +kernel
theorem dX1_removeLast_25 : decode cX1_removeLast 25 = .ok (.iaload, 1) := by decide +kernel
theorem dX1_removeLast_26 : decode cX1_removeLast 26 = .ok (.aload_n 0, 1) := by decide +kernel
theorem dX1_removeLast_27 : decode cX1_removeLast 27 = .ok (.getfield 45, 3) := by decide +kernel
theorem dX1_removeLast_30 : decode cX1_removeLast 30 = .ok (.if_icmp .ne 37, 3) := by decide +kernel
theorem dX1_removeLast_33 : decode cX1_removeLast 33 = .ok (.aload_n 0, 1) := by decide +kernel
theorem dX1_removeLast_34 : decode cX1_removeLast 34 = .ok (.getfield 36, 3) := by decide +kernel
theorem dX1_removeLast_37 : decode cX1_removeLast 37 = .ok (.aload_n 0, 1) := by decide +kernel
theorem dX1_removeLast_38 : decode cX1_removeLast 38 = .ok (.getfield 27, 3) := by decide +kernel
theorem dX1_removeLast_41 : decode cX1_removeLast 41 = .ok (.iload_n 1, 1) := by decide +kernel
theorem dX1_removeLast_42 : decode cX1_removeLast 42 = .ok (.iaload, 1) := by decide +kernel
theorem dX1_removeLast_43 : decode cX1_removeLast 43 = .ok (.aload_n 0, 1) := by decide +kernel
theorem dX1_removeLast_44 : decode cX1_removeLast 44 = .ok (.getfield 9, 3) := by decide +kernel
theorem dX1_removeLast_47 : decode cX1_removeLast 47 = .ok (.aload_n 0, 1) := by decide +kernel
theorem dX1_removeLast_48 : decode cX1_removeLast 48 = .ok (.getfield 45, 3) := by decide +kernel
theorem dX1_removeLast_51 : decode cX1_removeLast 51 = .ok (.iaload, 1) := by decide +kernel
theorem dX1_removeLast_52 : decode cX1_removeLast 52 = .ok (.invokestatic 53, 3) := by decide +kernel
theorem dX1_removeLast_55 : decode cX1_removeLast 55 = .ok (.iconst (-1), 1) := by decide +kernel
theorem dX1_removeLast_56 : decode cX1_removeLast 56 = .ok (.iastore, 1) := by decide +kernel
theorem dX1_removeLast_57 : decode cX1_removeLast 57 = .ok (.aload_n 0, 1) := by decide +kernel
theorem dX1_removeLast_58 : decode cX1_removeLast 58 = .ok (.dup, 1) := by decide +kernel
theorem dX1_removeLast_59 : decode cX1_removeLast 59 = .ok (.getfield 59, 3) := by decide +kernel
theorem dX1_removeLast_62 : decode cX1_removeLast 62 = .ok (.iconst 1, 1) := by decide +kernel
theorem dX1_removeLast_63 : decode cX1_removeLast 63 = .ok (.isub, 1) := by decide +kernel
theorem dX1_removeLast_64 : decode cX1_removeLast 64 = .ok (.putfield 59, 3) := by decide +kernel
theorem dX1_removeLast_67 : decode cX1_removeLast 67 = .ok (.return_, 1) := by decide +kernel
theorem dX1_load_0 : decode cX1_load 0 = .ok (.aload_n 0, 1) := by decide +kernel
theorem dX1_load_1 : decode cX1_load 1 = .ok (.iconst 0, 1) := by decide +kernel
theorem dX1_load_2 : decode cX1_load 2 = .ok (.invokevirtual 66, 3) := by decide +kernel
theorem dX1_load_5 : decode cX1_load 5 = .ok (.iload_n 2, 1) := by decide +kernel
theorem dX1_load_6 : decode cX1_load 6 = .ok (.istore 4, 2) := by decide +kernel
theorem dX1_load_8 : decode cX1_load 8 = .ok (.iload 4, 2) := by decide +kernel
theorem dX1_load_10 : decode cX1_load 10 = .ok (.iload_n 3, 1) := by decide +kernel
theorem dX1_load_11 : decode cX1_load 11 = .ok (.if_icmp .ge 18, 3) := by decide +kernel
theorem dX1_load_14 : decode cX1_load 14 = .ok (.aload_n 0, 1) := by decide +kernel
theorem dX1_load_15 : decode cX1_load 15 = .ok (.aload_n 1, 1) := by decide +kernel
theorem dX1_load_16 : decode cX1_load 16 = .ok (.iload 4, 2) := by decide +kernel
theorem dX1_load_18 : decode cX1_load 18 = .ok (.iaload, 1) := by decide +kernel
theorem dX1_load_19 : decode cX1_load 19 = .ok (.invokevirtual 70, 3) := by decide +kernel
theorem dX1_load_22 : decode cX1_load 22 = .ok (.pop, 1) := by decide +kernel
theorem dX1_load_23 : decode cX1_load 23 = .ok (.iinc 4 1, 3) := by decide +kernel
theorem dX1_load_26 : decode cX1_load 26 = .ok (.goto (-18), 3) := by decide +kernel
theorem dX1_load_29 : decode cX1_load 29 = .ok (.return_, 1) := by decide +kernel
theorem dX1_lengthen_0 : decode cX1_lengthen 0 = .ok (.iconst 0, 1) := by decide +kernel
theorem dX1_lengthen_1 : decode cX1_lengthen 1 = .ok (.istore_n 2, 1) := by decide +kernel
theorem dX1_lengthen_2 : decode cX1_lengthen 2 = .ok (.iload_n 2, 1) := by decide +kernel
theorem dX1_lengthen_3 : decode cX1_lengthen 3 = .ok (.iload_n 1, 1) := by decide +kernel
theorem dX1_lengthen_4 : decode cX1_lengthen 4 = .ok (.if_icmp .ge 16, 3) := by decide +kernel
theorem dX1_lengthen_7 : decode cX1_lengthen 7 = .ok (.aload_n 0, 1) := by decide +kernel
theorem dX1_lengthen_8 : decode cX1_lengthen 8 = .ok (.bipush 97, 2) := by decide +kernel
theorem dX1_lengthen_10 : decode cX1_lengthen 10 = .ok (.invokevirtual 70, 3) := by decide +kernel
theorem dX1_lengthen_13 : decode cX1_lengthen 13 = .ok (.pop, 1) := by decide +kernel
theorem dX1_lengthen_14 : decode cX1_lengthen 14 = .ok (.iinc 2 1, 3) := by decide +kernel
theorem dX1_lengthen_17 : decode cX1_lengthen 17 = .ok (.goto (-15), 3) := by decide +kernel
theorem dX1_lengthen_20 : decode cX1_lengthen 20 = .ok (.return_, 1) := by decide +kernel
theorem dX1_shorten_0 : decode cX1_shorten 0 = .ok (.aload_n 0, 1) := by decide +kernel
theorem dX1_shorten_1 : decode cX1_shorten 1 = .ok (.getfield 45, 3) := by decide +kernel
theorem dX1_shorten_4 : decode cX1_shorten 4 = .ok (.istore_n 2, 1) := by decide +kernel
theorem dX1_shorten_5 : decode cX1_shorten 5 = .ok (.iload_n 2, 1) := by decide +kernel
theorem dX1_shorten_6 : decode cX1_shorten 6 = .ok (.iload_n 1, 1) := by decide +kernel
theorem dX1_shorten_7 : decode cX1_shorten 7 = .ok (.if_icmp .le 13, 3) := by decide +kernel
theorem dX1_shorten_10 : decode cX1_shorten 10 = .ok (.aload_n 0, 1) := by decide +kernel
theorem dX1_shorten_11 : decode cX1_shorten 11 = .ok (.invokevirtual 73, 3) := by decide +kernel
theorem dX1_shorten_14 : decode cX1_shorten 14 = .ok (.iinc 2 (-1), 3) := by decide +kernel
theorem dX1_shorten_17 : decode cX1_shorten 17 = .ok (.goto (-12), 3) := by decide +kernel
theorem dX1_shorten_20 : decode cX1_shorten 20 = .ok (.return_, 1) := by decide +kernel
theorem dX1_replace_0 : decode cX1_replace 0 = .ok (.aload_n 0, 1) := by decide +kernel
theorem dX1_replace_1 : decode cX1_replace 1 = .ok (.getfield 45, 3) := by decide +kernel
theorem dX1_replace_4 : decode cX1_replace 4 = .ok (.istore_n 3, 1) := by decide +kernel
theorem dX1_replace_5 : decode cX1_replace 5 = .ok (.aload_n 0, 1) := by decide +kernel
theorem dX1_replace_6 : decode cX1_replace 6 = .ok (.iload_n 1, 1) := by decide +kernel
theorem dX1_replace_7 : decode cX1_replace 7 = .ok (.invokevirtual 66, 3) := by decide +kernel
theorem dX1_replace_10 : decode cX1_replace 10 = .ok (.aload_n 0, 1) := by decide +kernel
theorem dX1_replace_11 : decode cX1_replace 11 = .ok (.iload_n 2, 1) := by decide +kernel
theorem dX1_replace_12 : decode cX1_replace 12 = .ok (.invokevirtual 70, 3) := by decide +kernel
theorem dX1_replace_15 : decode cX1_replace 15 = .ok (.pop, 1) := by decide +kernel
theorem dX1_replace_16 : decode cX1_replace 16 = .ok (.iload_n 1, 1) := by decide +kernel
theorem dX1_replace_17 : decode cX1_replace 17 = .ok (.iconst 1, 1) := by decide +kernel
theorem dX1_replace_18 : decode cX1_replace 18 = .ok (.iadd, 1) := by decide +kernel
theorem dX1_replace_19 : decode cX1_replace 19 = .ok (.istore 4, 2) := by decide +kernel
theorem dX1_replace_21 : decode cX1_replace 21 = .ok (.iload 4, 2) := by decide +kernel
theorem dX1_replace_23 : decode cX1_replace 23 = .ok (.iload_n 3, 1) := by decide +kernel
theorem dX1_replace_24 : decode cX1_replace 24 = .ok (.if_icmp .ge 21, 3) := by decide +kernel
theorem dX1_replace_27 : decode cX1_replace 27 = .ok (.aload_n 0, 1) := by decide +kernel
theorem dX1_replace_28 : decode cX1_replace 28 = .ok (.aload_n 0, 1) := by decide +kernel
theorem dX1_replace_29 : decode cX1_replace 29 = .ok (.getfield 9, 3) := by decide +kernel
theorem dX1_replace_32 : decode cX1_replace 32 = .ok (.iload 4, 2) := by decide +kernel
theorem dX1_replace_34 : decode cX1_replace 34 = .ok (.iaload, 1) := by decide +kernel
theorem dX1_replace_35 : decode cX1_replace 35 = .ok (.invokevirtual 70, 3) := by decide +kernel
theorem dX1_replace_38 : decode cX1_replace 38 = .ok (.pop, 1) := by decide +kernel
theorem dX1_replace_39 : decode cX1_replace 39 = .ok (.iinc 4 1, 3) := by decide +kernel
theorem dX1_replace_42 : decode cX1_replace 42 = .ok (.goto (-21), 3) := by decide +kernel
theorem dX1_replace_45 : decode cX1_replace 45 = .ok (.return_, 1) := by decide +kernel
theorem dX1_lastLetter_0 : decode cX1_lastLetter 0 = .ok (.aload_n 0, 1) := by decide +kernel
theorem dX1_lastLetter_1 : decode cX1_lastLetter 1 = .ok (.getfield 45, 3) := by decide +kernel
theorem dX1_lastLetter_4 : decode cX1_lastLetter 4 = .ok (.ifCond .ne 7, 3) := by decide +kernel
theorem dX1_lastLetter_7 : decode cX1_lastLetter 7 = .ok (.iconst (-1), 1) := by decide +kernel
theorem dX1_lastLetter_8 : decode cX1_lastLetter 8 = .ok (.goto 14, 3) := by decide +kernel
theorem dX1_lastLetter_11 : decode cX1_lastLetter 11 = .ok (.aload_n 0, 1) := by decide +kernel
theorem dX1_lastLetter_12 : decode cX1_lastLetter 12 = .ok (.getfield 9, 3) := by decide +kernel
theorem dX1_lastLetter_15 : decode cX1_lastLetter 15 = .ok (.aload_n 0, 1) := by decide +kernel
theorem dX1_lastLetter_16 : decode cX1_lastLetter 16 = .ok (.getfield 45, 3) := by decide +kernel
theorem dX1_lastLetter_19 : decode cX1_lastLetter 19 = .ok (.iconst 1, 1) := by decide +kernel
theorem dX1_lastLetter_20 : decode cX1_lastLetter 20 = .ok (.isub, 1) := by decide +kernel
theorem dX1_lastLetter_21 : decode cX1_lastLetter 21 = .ok (.iaload, 1) := by decide +kernel
theorem dX1_lastLetter_22 : decode cX1_lastLetter 22 = .ok (.ireturn, 1) := by decide +kernel
theorem dX1_less_0 : decode cX1_less 0 = .ok (.aload_n 0, 1) := by decide +kernel
theorem dX1_less_1 : decode cX1_less 1 = .ok (.getfield 18, 3) := by decide +kernel
theorem dX1_less_4 : decode cX1_less 4 = .ok (.iload_n 1, 1) := by decide +kernel
theorem dX1_less_5 : decode cX1_less 5 = .ok (.iaload, 1) := by decide +kernel
theorem dX1_less_6 : decode cX1_less 6 = .ok (.aload_n 0, 1) := by decide +kernel
theorem dX1_less_7 : decode cX1_less 7 = .ok (.getfield 18, 3) := by decide +kernel
theorem dX1_less_10 : decode cX1_less 10 = .ok (.aload_n 0, 1) := by decide +kernel
theorem dX1_less_11 : decode cX1_less 11 = .ok (.getfield 21, 3) := by decide +kernel
theorem dX1_less_14 : decode cX1_less 14 = .ok (.iload_n 1, 1) := by decide +kernel
theorem dX1_less_15 : decode cX1_less 15 = .ok (.iaload, 1) := by decide +kernel
theorem dX1_less_16 : decode cX1_less 16 = .ok (.iaload, 1) := by decide +kernel
theorem dX1_less_17 : decode cX1_less 17 = .ok (.isub, 1) := by decide +kernel
theorem dX1_less_18 : decode cX1_less 18 = .ok (.ireturn, 1) := by decide +kernel
theorem dX1_firstPlace_0 : decode cX1_firstPlace 0 = .ok (.aload_n 0, 1) := by decide +kernel
theorem dX1_firstPlace_1 : decode cX1_firstPlace 1 = .ok (.getfield 30, 3) := by decide +kernel
theorem dX1_firstPlace_4 : decode cX1_firstPlace 4 = .ok (.iload_n 1, 1) := by decide +kernel
theorem dX1_firstPlace_5 : decode cX1_firstPlace 5 = .ok (.iaload, 1) := by decide +kernel
theorem dX1_firstPlace_6 : decode cX1_firstPlace 6 = .ok (.aload_n 0, 1) := by decide +kernel
theorem dX1_firstPlace_7 : decode cX1_firstPlace 7 = .ok (.getfield 18, 3) := by decide +kernel
theorem dX1_firstPlace_10 : decode cX1_firstPlace 10 = .ok (.iload_n 1, 1) := by decide +kernel
theorem dX1_firstPlace_11 : decode cX1_firstPlace 11 = .ok (.iaload, 1) := by decide +kernel
theorem dX1_firstPlace_12 : decode cX1_firstPlace 12 = .ok (.isub, 1) := by decide +kernel
theorem dX1_firstPlace_13 : decode cX1_firstPlace 13 = .ok (.iconst 1, 1) := by decide +kernel
theorem dX1_firstPlace_14 : decode cX1_firstPlace 14 = .ok (.iadd, 1) := by decide +kernel
theorem dX1_firstPlace_15 : decode cX1_firstPlace 15 = .ok (.ireturn, 1) := by decide +kernel
theorem dX1_lastPlace_0 : decode cX1_lastPlace 0 = .ok (.aload_n 0, 1) := by decide +kernel
theorem dX1_lastPlace_1 : decode cX1_lastPlace 1 = .ok (.iload_n 1, 1) := by decide +kernel
theorem dX1_lastPlace_2 : decode cX1_lastPlace 2 = .ok (.invokevirtual 76, 3) := by decide +kernel
theorem dX1_lastPlace_5 : decode cX1_lastPlace 5 = .ok (.istore_n 2, 1) := by decide +kernel
theorem dX1_lastPlace_6 : decode cX1_lastPlace 6 = .ok (.aload_n 0, 1) := by decide +kernel
theorem dX1_lastPlace_7 : decode cX1_lastPlace 7 = .ok (.getfield 45, 3) := by decide +kernel
theorem dX1_lastPlace_10 : decode cX1_lastPlace 10 = .ok (.aload_n 0, 1) := by decide +kernel
theorem dX1_lastPlace_11 : decode cX1_lastPlace 11 = .ok (.getfield 18, 3) := by decide +kernel
theorem dX1_lastPlace_14 : decode cX1_lastPlace 14 = .ok (.iload_n 1, 1) := by decide +kernel
theorem dX1_lastPlace_15 : decode cX1_lastPlace 15 = .ok (.iaload, 1) := by decide +kernel
theorem dX1_lastPlace_16 : decode cX1_lastPlace 16 = .ok (.isub, 1) := by decide +kernel
theorem dX1_lastPlace_17 : decode cX1_lastPlace 17 = .ok (.istore_n 3, 1) := by decide +kernel
theorem dX1_lastPlace_18 : decode cX1_lastPlace 18 = .ok (.iload_n 3, 1) := by decide +kernel
theorem dX1_lastPlace_19 : decode cX1_lastPlace 19 = .ok (.iload_n 2, 1) := by decide +kernel
theorem dX1_lastPlace_20 : decode cX1_lastPlace 20 = .ok (.if_icmp .le 30, 3) := by decide +kernel
theorem dX1_lastPlace_23 : decode cX1_lastPlace 23 = .ok (.aload_n 0, 1) := by decide +kernel
theorem dX1_lastPlace_24 : decode cX1_lastPlace 24 = .ok (.iload_n 3, 1) := by decide +kernel
theorem dX1_lastPlace_25 : decode cX1_lastPlace 25 = .ok (.aload_n 0, 1) := by decide +kernel
theorem dX1_lastPlace_26 : decode cX1_lastPlace 26 = .ok (.getfield 9, 3) := by decide +kernel
theorem dX1_lastPlace_29 : decode cX1_lastPlace 29 = .ok (.iload_n 2, 1) := by decide +kernel
theorem dX1_lastPlace_30 : decode cX1_lastPlace 30 = .ok (.aload_n 0, 1) := by decide +kernel
theorem dX1_lastPlace_31 : decode cX1_lastPlace 31 = .ok (.getfield 18, 3) := by decide +kernel
theorem dX1_lastPlace_34 : decode cX1_lastPlace 34 = .ok (.iload_n 1, 1) := by decide +kernel
theorem dX1_lastPlace_35 : decode cX1_lastPlace 35 = .ok (.iaload, 1) := by decide +kernel
theorem dX1_lastPlace_36 : decode cX1_lastPlace 36 = .ok (.invokevirtual 79, 3) := by decide +kernel
theorem dX1_lastPlace_39 : decode cX1_lastPlace 39 = .ok (.ifCond .eq 5, 3) := by decide +kernel
theorem dX1_lastPlace_42 : decode cX1_lastPlace 42 = .ok (.iload_n 3, 1) := by decide +kernel
theorem dX1_lastPlace_43 : decode cX1_lastPlace 43 = .ok (.ireturn, 1) := by decide +kernel
theorem dX1_lastPlace_44 : decode cX1_lastPlace 44 = .ok (.iinc 3 (-1), 3) := by decide +kernel
theorem dX1_lastPlace_47 : decode cX1_lastPlace 47 = .ok (.goto (-29), 3) := by decide +kernel
theorem dX1_lastPlace_50 : decode cX1_lastPlace 50 = .ok (.iload_n 2, 1) := by decide +kernel
theorem dX1_lastPlace_51 : decode cX1_lastPlace 51 = .ok (.ireturn, 1) := by decide +kernel
theorem dX1_standsAt_0 : decode cX1_standsAt 0 = .ok (.iconst 0, 1) := by decide +kernel
theorem dX1_standsAt_1 : decode cX1_standsAt 1 = .ok (.istore 5, 2) := by decide +kernel
theorem dX1_standsAt_3 : decode cX1_standsAt 3 = .ok (.iload 5, 2) := by decide +kernel
theorem dX1_standsAt_5 : decode cX1_standsAt 5 = .ok (.iload 4, 2) := by decide +kernel
theorem dX1_standsAt_7 : decode cX1_standsAt 7 = .ok (.if_icmp .ge 29, 3) := by decide +kernel
theorem dX1_standsAt_10 : decode cX1_standsAt 10 = .ok (.aload_n 0, 1) := by decide +kernel
theorem dX1_standsAt_11 : decode cX1_standsAt 11 = .ok (.getfield 9, 3) := by decide +kernel
theorem dX1_standsAt_14 : decode cX1_standsAt 14 = .ok (.iload_n 1, 1) := by decide +kernel
theorem dX1_standsAt_15 : decode cX1_standsAt 15 = .ok (.iload 5, 2) := by decide +kernel
theorem dX1_standsAt_17 : decode cX1_standsAt 17 = .ok (.iadd, 1) := by decide +kernel
theorem dX1_standsAt_18 : decode cX1_standsAt 18 = .ok (.iaload, 1) := by decide +kernel
theorem dX1_standsAt_19 : decode cX1_standsAt 19 = .ok (.aload_n 2, 1) := by decide +kernel
theorem dX1_standsAt_20 : decode cX1_standsAt 20 = .ok (.iload_n 3, 1) := by decide +kernel
theorem dX1_standsAt_21 : decode cX1_standsAt 21 = .ok (.iload 5, 2) := by decide +kernel
theorem dX1_standsAt_23 : decode cX1_standsAt 23 = .ok (.iadd, 1) := by decide +kernel
theorem dX1_standsAt_24 : decode cX1_standsAt 24 = .ok (.iaload, 1) := by decide +kernel
theorem dX1_standsAt_25 : decode cX1_standsAt 25 = .ok (.if_icmp .eq 5, 3) := by decide +kernel
theorem dX1_standsAt_28 : decode cX1_standsAt 28 = .ok (.iconst 0, 1) := by decide +kernel
theorem dX1_standsAt_29 : decode cX1_standsAt 29 = .ok (.ireturn, 1) := by decide +kernel
theorem dX1_standsAt_30 : decode cX1_standsAt 30 = .ok (.iinc 5 1, 3) := by decide +kernel
theorem dX1_standsAt_33 : decode cX1_standsAt 33 = .ok (.goto (-30), 3) := by decide +kernel
theorem dX1_standsAt_36 : decode cX1_standsAt 36 = .ok (.iconst 1, 1) := by decide +kernel
theorem dX1_standsAt_37 : decode cX1_standsAt 37 = .ok (.ireturn, 1) := by decide +kernel
theorem dX1_places_0 : decode cX1_places 0 = .ok (.iconst 0, 1) := by decide +kernel
theorem dX1_places_1 : decode cX1_places 1 = .ok (.istore 4, 2) := by decide +kernel
theorem dX1_places_3 : decode cX1_places 3 = .ok (.iconst 0, 1) := by decide +kernel
theorem dX1_places_4 : decode cX1_places 4 = .ok (.istore 5, 2) := by decide +kernel
theorem dX1_places_6 : decode cX1_places 6 = .ok (.iload 5, 2) := by decide +kernel
theorem dX1_places_8 : decode cX1_places 8 = .ok (.iload_n 3, 1) := by decide +kernel
theorem dX1_places_9 : decode cX1_places 9 = .ok (.iadd, 1) := by decide +kernel
theorem dX1_places_10 : decode cX1_places 10 = .ok (.aload_n 0, 1) := by decide +kernel
theorem dX1_places_11 : decode cX1_places 11 = .ok (.getfield 45, 3) := by decide +kernel
theorem dX1_places_14 : decode cX1_places 14 = .ok (.if_icmp .gt 24, 3) := by decide +kernel
theorem dX1_places_17 : decode cX1_places 17 = .ok (.aload_n 0, 1) := by decide +kernel
theorem dX1_places_18 : decode cX1_places 18 = .ok (.iload 5, 2) := by decide +kernel
theorem dX1_places_20 : decode cX1_places 20 = .ok (.aload_n 1, 1) := by decide +kernel
theorem dX1_places_21 : decode cX1_places 21 = .ok (.iload_n 2, 1) := by decide +kernel
theorem dX1_places_22 : decode cX1_places 22 = .ok (.iload_n 3, 1) := by decide +kernel
theorem dX1_places_23 : decode cX1_places 23 = .ok (.invokevirtual 79, 3) := by decide +kernel
theorem dX1_places_26 : decode cX1_places 26 = .ok (.ifCond .eq 6, 3) := by decide +kernel
theorem dX1_places_29 : decode cX1_places 29 = .ok (.iinc 4 1, 3) := by decide +kernel
theorem dX1_places_32 : decode cX1_places 32 = .ok (.iinc 5 1, 3) := by decide +kernel
theorem dX1_places_35 : decode cX1_places 35 = .ok (.goto (-29), 3) := by decide +kernel
theorem dX1_places_38 : decode cX1_places 38 = .ok (.iload 4, 2) := by decide +kernel
theorem dX1_places_40 : decode cX1_places 40 = .ok (.ireturn, 1) := by decide +kernel
theorem dX1_nodeOf_0 : decode cX1_nodeOf 0 = .ok (.iconst 0, 1) := by decide +kernel
theorem dX1_nodeOf_1 : decode cX1_nodeOf 1 = .ok (.istore 4, 2) := by decide +kernel
theorem dX1_nodeOf_3 : decode cX1_nodeOf 3 = .ok (.iload 4, 2) := by decide +kernel
theorem dX1_nodeOf_5 : decode cX1_nodeOf 5 = .ok (.aload_n 0, 1) := by decide +kernel
theorem dX1_nodeOf_6 : decode cX1_nodeOf 6 = .ok (.getfield 59, 3) := by decide +kernel
theorem dX1_nodeOf_9 : decode cX1_nodeOf 9 = .ok (.if_icmp .ge 39, 3) := by decide +kernel
theorem dX1_nodeOf_12 : decode cX1_nodeOf 12 = .ok (.aload_n 0, 1) := by decide +kernel
theorem dX1_nodeOf_13 : decode cX1_nodeOf 13 = .ok (.getfield 18, 3) := by decide +kernel
theorem dX1_nodeOf_16 : decode cX1_nodeOf 16 = .ok (.iload 4, 2) := by decide +kernel
theorem dX1_nodeOf_18 : decode cX1_nodeOf 18 = .ok (.iaload, 1) := by decide +kernel
theorem dX1_nodeOf_19 : decode cX1_nodeOf 19 = .ok (.iload_n 3, 1) := by decide +kernel
theorem dX1_nodeOf_20 : decode cX1_nodeOf 20 = .ok (.if_icmp .ne 22, 3) := by decide +kernel
theorem dX1_nodeOf_23 : decode cX1_nodeOf 23 = .ok (.aload_n 0, 1) := by decide +kernel
theorem dX1_nodeOf_24 : decode cX1_nodeOf 24 = .ok (.aload_n 0, 1) := by decide +kernel
theorem dX1_nodeOf_25 : decode cX1_nodeOf 25 = .ok (.iload 4, 2) := by decide +kernel
theorem dX1_nodeOf_27 : decode cX1_nodeOf 27 = .ok (.invokevirtual 76, 3) := by decide +kernel
theorem dX1_nodeOf_30 : decode cX1_nodeOf 30 = .ok (.aload_n 1, 1) := by decide +kernel
theorem dX1_nodeOf_31 : decode cX1_nodeOf 31 = .ok (.iload_n 2, 1) := by decide +kernel
theorem dX1_nodeOf_32 : decode cX1_nodeOf 32 = .ok (.iload_n 3, 1) := by decide +kernel
theorem dX1_nodeOf_33 : decode cX1_nodeOf 33 = .ok (.invokevirtual 79, 3) := by decide +kernel
theorem dX1_nodeOf_36 : decode cX1_nodeOf 36 = .ok (.ifCond .eq 6, 3) := by decide +kernel
theorem dX1_nodeOf_39 : decode cX1_nodeOf 39 = .ok (.iload 4, 2) := by decide +kernel
theorem dX1_nodeOf_41 : decode cX1_nodeOf 41 = .ok (.ireturn, 1) := by decide +kernel
theorem dX1_nodeOf_42 : decode cX1_nodeOf 42 = .ok (.iinc 4 1, 3) := by decide +kernel
theorem dX1_nodeOf_45 : decode cX1_nodeOf 45 = .ok (.goto (-42), 3) := by decide +kernel
theorem dX1_nodeOf_48 : decode cX1_nodeOf 48 = .ok (.iconst (-1), 1) := by decide +kernel
theorem dX1_nodeOf_49 : decode cX1_nodeOf 49 = .ok (.ireturn, 1) := by decide +kernel
theorem dX1_longestNode_0 : decode cX1_longestNode 0 = .ok (.iconst (-1), 1) := by decide +kernel
theorem dX1_longestNode_1 : decode cX1_longestNode 1 = .ok (.istore_n 1, 1) := by decide +kernel
theorem dX1_longestNode_2 : decode cX1_longestNode 2 = .ok (.iconst 0, 1) := by decide +kernel
theorem dX1_longestNode_3 : decode cX1_longestNode 3 = .ok (.istore_n 2, 1) := by decide +kernel
theorem dX1_longestNode_4 : decode cX1_longestNode 4 = .ok (.iload_n 2, 1) := by decide +kernel
theorem dX1_longestNode_5 : decode cX1_longestNode 5 = .ok (.aload_n 0, 1) := by decide +kernel
theorem dX1_longestNode_6 : decode cX1_longestNode 6 = .ok (.getfield 59, 3) := by decide +kernel
theorem dX1_longestNode_9 : decode cX1_longestNode 9 = .ok (.if_icmp .ge 31, 3) := by decide +kernel
theorem dX1_longestNode_12 : decode cX1_longestNode 12 = .ok (.iload_n 1, 1) := by decide +kernel
theorem dX1_longestNode_13 : decode cX1_longestNode 13 = .ok (.iconst (-1), 1) := by decide +kernel
theorem dX1_longestNode_14 : decode cX1_longestNode 14 = .ok (.if_icmp .eq 18, 3) := by decide +kernel
theorem dX1_longestNode_17 : decode cX1_longestNode 17 = .ok (.aload_n 0, 1) := by decide +kernel
theorem dX1_longestNode_18 : decode cX1_longestNode 18 = .ok (.getfield 18, 3) := by decide +kernel
theorem dX1_longestNode_21 : decode cX1_longestNode 21 = .ok (.iload_n 2, 1) := by decide +kernel
theorem dX1_longestNode_22 : decode cX1_longestNode 22 = .ok (.iaload, 1) := by decide +kernel
theorem dX1_longestNode_23 : decode cX1_longestNode 23 = .ok (.aload_n 0, 1) := by decide +kernel
theorem dX1_longestNode_24 : decode cX1_longestNode 24 = .ok (.getfield 18, 3) := by decide +kernel
theorem dX1_longestNode_27 : decode cX1_longestNode 27 = .ok (.iload_n 1, 1) := by decide +kernel
theorem dX1_longestNode_28 : decode cX1_longestNode 28 = .ok (.iaload, 1) := by decide +kernel
theorem dX1_longestNode_29 : decode cX1_longestNode 29 = .ok (.if_icmp .le 5, 3) := by decide +kernel
theorem dX1_longestNode_32 : decode cX1_longestNode 32 = .ok (.iload_n 2, 1) := by decide +kernel
theorem dX1_longestNode_33 : decode cX1_longestNode 33 = .ok (.istore_n 1, 1) := by decide +kernel
theorem dX1_longestNode_34 : decode cX1_longestNode 34 = .ok (.iinc 2 1, 3) := by decide +kernel
theorem dX1_longestNode_37 : decode cX1_longestNode 37 = .ok (.goto (-33), 3) := by decide +kernel
theorem dX1_longestNode_40 : decode cX1_longestNode 40 = .ok (.iload_n 1, 1) := by decide +kernel
theorem dX1_longestNode_41 : decode cX1_longestNode 41 = .ok (.ireturn, 1) := by decide +kernel
theorem dX1_evenNodes_0 : decode cX1_evenNodes 0 = .ok (.iconst 0, 1) := by decide +kernel
theorem dX1_evenNodes_1 : decode cX1_evenNodes 1 = .ok (.istore_n 1, 1) := by decide +kernel
theorem dX1_evenNodes_2 : decode cX1_evenNodes 2 = .ok (.iconst 0, 1) := by decide +kernel
theorem dX1_evenNodes_3 : decode cX1_evenNodes 3 = .ok (.istore_n 2, 1) := by decide +kernel
theorem dX1_evenNodes_4 : decode cX1_evenNodes 4 = .ok (.iload_n 2, 1) := by decide +kernel
theorem dX1_evenNodes_5 : decode cX1_evenNodes 5 = .ok (.aload_n 0, 1) := by decide +kernel
theorem dX1_evenNodes_6 : decode cX1_evenNodes 6 = .ok (.getfield 59, 3) := by decide +kernel
theorem dX1_evenNodes_9 : decode cX1_evenNodes 9 = .ok (.if_icmp .ge 23, 3) := by decide +kernel
theorem dX1_evenNodes_12 : decode cX1_evenNodes 12 = .ok (.aload_n 0, 1) := by decide +kernel
theorem dX1_evenNodes_13 : decode cX1_evenNodes 13 = .ok (.getfield 18, 3) := by decide +kernel
theorem dX1_evenNodes_16 : decode cX1_evenNodes 16 = .ok (.iload_n 2, 1) := by decide +kernel
theorem dX1_evenNodes_17 : decode cX1_evenNodes 17 = .ok (.iaload, 1) := by decide +kernel
theorem dX1_evenNodes_18 : decode cX1_evenNodes 18 = .ok (.iconst 2, 1) := by decide +kernel
theorem dX1_evenNodes_19 : decode cX1_evenNodes 19 = .ok (.irem, 1) := by decide +kernel
theorem dX1_evenNodes_20 : decode cX1_evenNodes 20 = .ok (.ifCond .ne 6, 3) := by decide +kernel
theorem dX1_evenNodes_23 : decode cX1_evenNodes 23 = .ok (.iinc 1 1, 3) := by decide +kernel
theorem dX1_evenNodes_26 : decode cX1_evenNodes 26 = .ok (.iinc 2 1, 3) := by decide +kernel
theorem dX1_evenNodes_29 : decode cX1_evenNodes 29 = .ok (.goto (-25), 3) := by decide +kernel
theorem dX1_evenNodes_32 : decode cX1_evenNodes 32 = .ok (.iload_n 1, 1) := by decide +kernel
theorem dX1_evenNodes_33 : decode cX1_evenNodes 33 = .ok (.ireturn, 1) := by decide +kernel
theorem dX1_allPlaces_0 : decode cX1_allPlaces 0 = .ok (.iconst 0, 1) := by decide +kernel
theorem dX1_allPlaces_1 : decode cX1_allPlaces 1 = .ok (.istore_n 1, 1) := by decide +kernel
theorem dX1_allPlaces_2 : decode cX1_allPlaces 2 = .ok (.iconst 0, 1) := by decide +kernel
theorem dX1_allPlaces_3 : decode cX1_allPlaces 3 = .ok (.istore_n 2, 1) := by decide +kernel
theorem dX1_allPlaces_4 : decode cX1_allPlaces 4 = .ok (.iload_n 2, 1) := by decide +kernel
theorem dX1_allPlaces_5 : decode cX1_allPlaces 5 = .ok (.aload_n 0, 1) := by decide +kernel
theorem dX1_allPlaces_6 : decode cX1_allPlaces 6 = .ok (.getfield 45, 3) := by decide +kernel
theorem dX1_allPlaces_9 : decode cX1_allPlaces 9 = .ok (.if_icmp .ge 23, 3) := by decide +kernel
theorem dX1_allPlaces_12 : decode cX1_allPlaces 12 = .ok (.iload_n 1, 1) := by decide +kernel
theorem dX1_allPlaces_13 : decode cX1_allPlaces 13 = .ok (.aload_n 0, 1) := by decide +kernel
theorem dX1_allPlaces_14 : decode cX1_allPlaces 14 = .ok (.getfield 33, 3) := by decide +kernel
theorem dX1_allPlaces_17 : decode cX1_allPlaces 17 = .ok (.aload_n 0, 1) := by decide +kernel
theorem dX1_allPlaces_18 : decode cX1_allPlaces 18 = .ok (.getfield 15, 3) := by decide +kernel
theorem dX1_allPlaces_21 : decode cX1_allPlaces 21 = .ok (.iload_n 2, 1) := by decide +kernel
theorem dX1_allPlaces_22 : decode cX1_allPlaces 22 = .ok (.iaload, 1) := by decide +kernel
theorem dX1_allPlaces_23 : decode cX1_allPlaces 23 = .ok (.iaload, 1) := by decide +kernel
theorem dX1_allPlaces_24 : decode cX1_allPlaces 24 = .ok (.iadd, 1) := by decide +kernel
theorem dX1_allPlaces_25 : decode cX1_allPlaces 25 = .ok (.istore_n 1, 1) := by decide +kernel
theorem dX1_allPlaces_26 : decode cX1_allPlaces 26 = .ok (.iinc 2 1, 3) := by decide +kernel
theorem dX1_allPlaces_29 : decode cX1_allPlaces 29 = .ok (.goto (-25), 3) := by decide +kernel
theorem dX1_allPlaces_32 : decode cX1_allPlaces 32 = .ok (.iload_n 1, 1) := by decide +kernel
theorem dX1_allPlaces_33 : decode cX1_allPlaces 33 = .ok (.ireturn, 1) := by decide +kernel
theorem dX1_unlikePairs_0 : decode cX1_unlikePairs 0 = .ok (.iconst 0, 1) := by decide +kernel
theorem dX1_unlikePairs_1 : decode cX1_unlikePairs 1 = .ok (.istore_n 1, 1) := by decide +kernel
theorem dX1_unlikePairs_2 : decode cX1_unlikePairs 2 = .ok (.iconst 0, 1) := by decide +kernel
theorem dX1_unlikePairs_3 : decode cX1_unlikePairs 3 = .ok (.istore_n 2, 1) := by decide +kernel
theorem dX1_unlikePairs_4 : decode cX1_unlikePairs 4 = .ok (.iload_n 2, 1) := by decide +kernel
theorem dX1_unlikePairs_5 : decode cX1_unlikePairs 5 = .ok (.aload_n 0, 1) := by decide +kernel
theorem dX1_unlikePairs_6 : decode cX1_unlikePairs 6 = .ok (.getfield 45, 3) := by decide +kernel
theorem dX1_unlikePairs_9 : decode cX1_unlikePairs 9 = .ok (.iconst 2, 1) := by decide +kernel
theorem dX1_unlikePairs_10 : decode cX1_unlikePairs 10 = .ok (.idiv, 1) := by decide +kernel
theorem dX1_unlikePairs_11 : decode cX1_unlikePairs 11 = .ok (.if_icmp .ge 34, 3) := by decide +kernel
theorem dX1_unlikePairs_14 : decode cX1_unlikePairs 14 = .ok (.aload_n 0, 1) := by decide +kernel
theorem dX1_unlikePairs_15 : decode cX1_unlikePairs 15 = .ok (.getfield 9, 3) := by decide +kernel
theorem dX1_unlikePairs_18 : decode cX1_unlikePairs 18 = .ok (.iload_n 2, 1) := by decide +kernel
theorem dX1_unlikePairs_19 : decode cX1_unlikePairs 19 = .ok (.iaload, 1) := by decide +kernel
theorem dX1_unlikePairs_20 : decode cX1_unlikePairs 20 = .ok (.aload_n 0, 1) := by decide +kernel
theorem dX1_unlikePairs_21 : decode cX1_unlikePairs 21 = .ok (.getfield 9, 3) := by decide +kernel
theorem dX1_unlikePairs_24 : decode cX1_unlikePairs 24 = .ok (.aload_n 0, 1) := by decide +kernel
theorem dX1_unlikePairs_25 : decode cX1_unlikePairs 25 = .ok (.getfield 45, 3) := by decide +kernel
theorem dX1_unlikePairs_28 : decode cX1_unlikePairs 28 = .ok (.iconst 1, 1) := by decide +kernel
theorem dX1_unlikePairs_29 : decode cX1_unlikePairs 29 = .ok (.isub, 1) := by decide +kernel
theorem dX1_unlikePairs_30 : decode cX1_unlikePairs 30 = .ok (.iload_n 2, 1) := by decide +kernel
theorem dX1_unlikePairs_31 : decode cX1_unlikePairs 31 = .ok (.isub, 1) := by decide +kernel
theorem dX1_unlikePairs_32 : decode cX1_unlikePairs 32 = .ok (.iaload, 1) := by decide +kernel
theorem dX1_unlikePairs_33 : decode cX1_unlikePairs 33 = .ok (.if_icmp .eq 6, 3) := by decide +kernel
theorem dX1_unlikePairs_36 : decode cX1_unlikePairs 36 = .ok (.iinc 1 1, 3) := by decide +kernel
theorem dX1_unlikePairs_39 : decode cX1_unlikePairs 39 = .ok (.iinc 2 1, 3) := by decide +kernel
theorem dX1_unlikePairs_42 : decode cX1_unlikePairs 42 = .ok (.goto (-38), 3) := by decide +kernel
theorem dX1_unlikePairs_45 : decode cX1_unlikePairs 45 = .ok (.iload_n 1, 1) := by decide +kernel
theorem dX1_unlikePairs_46 : decode cX1_unlikePairs 46 = .ok (.ireturn, 1) := by decide +kernel
theorem dX1_isMirrorTurned_0 : decode cX1_isMirrorTurned 0 = .ok (.iconst 0, 1) := by decide +kernel
theorem dX1_isMirrorTurned_1 : decode cX1_isMirrorTurned 1 = .ok (.istore_n 2, 1) := by decide +kernel
theorem dX1_isMirrorTurned_2 : decode cX1_isMirrorTurned 2 = .ok (.iload_n 2, 1) := by decide +kernel
theorem dX1_isMirrorTurned_3 : decode cX1_isMirrorTurned 3 = .ok (.aload_n 0, 1) := by decide +kernel
theorem dX1_isMirrorTurned_4 : decode cX1_isMirrorTurned 4 = .ok (.getfield 45, 3) := by decide +kernel
theorem dX1_isMirrorTurned_7 : decode cX1_isMirrorTurned 7 = .ok (.iconst 2, 1) := by decide +kernel
theorem dX1_isMirrorTurned_8 : decode cX1_isMirrorTurned 8 = .ok (.idiv, 1) := by decide +kernel
theorem dX1_isMirrorTurned_9 : decode cX1_isMirrorTurned 9 = .ok (.if_icmp .ge 45, 3) := by decide +kernel
theorem dX1_isMirrorTurned_12 : decode cX1_isMirrorTurned 12 = .ok (.aload_n 0, 1) := by decide +kernel
theorem dX1_isMirrorTurned_13 : decode cX1_isMirrorTurned 13 = .ok (.getfield 9, 3) := by decide +kernel
theorem dX1_isMirrorTurned_16 : decode cX1_isMirrorTurned 16 = .ok (.aload_n 0, 1) := by decide +kernel
theorem dX1_isMirrorTurned_17 : decode cX1_isMirrorTurned 17 = .ok (.iload_n 1, 1) := by decide +kernel
theorem dX1_isMirrorTurned_18 : decode cX1_isMirrorTurned 18 = .ok (.iload_n 2, 1) := by decide +kernel
theorem dX1_isMirrorTurned_19 : decode cX1_isMirrorTurned 19 = .ok (.iadd, 1) := by decide +kernel
theorem dX1_isMirrorTurned_20 : decode cX1_isMirrorTurned 20 = .ok (.invokevirtual 83, 3) := by decide +kernel
theorem dX1_isMirrorTurned_23 : decode cX1_isMirrorTurned 23 = .ok (.iaload, 1) := by decide +kernel
theorem dX1_isMirrorTurned_24 : decode cX1_isMirrorTurned 24 = .ok (.aload_n 0, 1) := by decide +kernel
theorem dX1_isMirrorTurned_25 : decode cX1_isMirrorTurned 25 = .ok (.getfield 9, 3) := by decide +kernel
theorem dX1_isMirrorTurned_28 : decode cX1_isMirrorTurned 28 = .ok (.aload_n 0, 1) := by decide +kernel
theorem dX1_isMirrorTurned_29 : decode cX1_isMirrorTurned 29 = .ok (.iload_n 1, 1) := by decide +kernel
theorem dX1_isMirrorTurned_30 : decode cX1_isMirrorTurned 30 = .ok (.aload_n 0, 1) := by decide +kernel
theorem dX1_isMirrorTurned_31 : decode cX1_isMirrorTurned 31 = .ok (.getfield 45, 3) := by decide +kernel
theorem dX1_isMirrorTurned_34 : decode cX1_isMirrorTurned 34 = .ok (.iadd, 1) := by decide +kernel
theorem dX1_isMirrorTurned_35 : decode cX1_isMirrorTurned 35 = .ok (.iconst 1, 1) := by decide +kernel
theorem dX1_isMirrorTurned_36 : decode cX1_isMirrorTurned 36 = .ok (.isub, 1) := by decide +kernel
theorem dX1_isMirrorTurned_37 : decode cX1_isMirrorTurned 37 = .ok (.iload_n 2, 1) := by decide +kernel
theorem dX1_isMirrorTurned_38 : decode cX1_isMirrorTurned 38 = .ok (.isub, 1) := by decide +kernel
theorem dX1_isMirrorTurned_39 : decode cX1_isMirrorTurned 39 = .ok (.invokevirtual 83, 3) := by decide +kernel
theorem dX1_isMirrorTurned_42 : decode cX1_isMirrorTurned 42 = .ok (.iaload, 1) := by decide +kernel
theorem dX1_isMirrorTurned_43 : decode cX1_isMirrorTurned 43 = .ok (.if_icmp .eq 5, 3) := by decide +kernel
theorem dX1_isMirrorTurned_46 : decode cX1_isMirrorTurned 46 = .ok (.iconst 0, 1) := by decide +kernel
theorem dX1_isMirrorTurned_47 : decode cX1_isMirrorTurned 47 = .ok (.ireturn, 1) := by decide +kernel
theorem dX1_isMirrorTurned_48 : decode cX1_isMirrorTurned 48 = .ok (.iinc 2 1, 3) := by decide +kernel
theorem dX1_isMirrorTurned_51 : decode cX1_isMirrorTurned 51 = .ok (.goto (-49), 3) := by decide +kernel
theorem dX1_isMirrorTurned_54 : decode cX1_isMirrorTurned 54 = .ok (.iconst 1, 1) := by decide +kernel
theorem dX1_isMirrorTurned_55 : decode cX1_isMirrorTurned 55 = .ok (.ireturn, 1) := by decide +kernel
theorem dX1_around_0 : decode cX1_around 0 = .ok (.iload_n 1, 1) := by decide +kernel
theorem dX1_around_1 : decode cX1_around 1 = .ok (.aload_n 0, 1) := by decide +kernel
theorem dX1_around_2 : decode cX1_around 2 = .ok (.getfield 45, 3) := by decide +kernel
theorem dX1_around_5 : decode cX1_around 5 = .ok (.if_icmp .ge 7, 3) := by decide +kernel
theorem dX1_around_8 : decode cX1_around 8 = .ok (.iload_n 1, 1) := by decide +kernel
theorem dX1_around_9 : decode cX1_around 9 = .ok (.goto 9, 3) := by decide +kernel
theorem dX1_around_12 : decode cX1_around 12 = .ok (.iload_n 1, 1) := by decide +kernel
theorem dX1_around_13 : decode cX1_around 13 = .ok (.aload_n 0, 1) := by decide +kernel
theorem dX1_around_14 : decode cX1_around 14 = .ok (.getfield 45, 3) := by decide +kernel
theorem dX1_around_17 : decode cX1_around 17 = .ok (.isub, 1) := by decide +kernel
theorem dX1_around_18 : decode cX1_around 18 = .ok (.ireturn, 1) := by decide +kernel
theorem dX2_init_0 : decode cX2_init 0 = .ok (.aload_n 0, 1) := by decide +kernel
theorem dX2_init_1 : decode cX2_init 1 = .ok (.invokespecial 3, 3) := by decide +kernel
theorem dX2_init_4 : decode cX2_init 4 = .ok (.aload_n 0, 1) := by decide +kernel
theorem dX2_init_5 : decode cX2_init 5 = .ok (.bipush 49, 2) := by decide +kernel
theorem dX2_init_7 : decode cX2_init 7 = .ok (.newarray .int, 2) := by decide +kernel
theorem dX2_init_9 : decode cX2_init 9 = .ok (.putfield 9, 3) := by decide +kernel
theorem dX2_init_12 : decode cX2_init 12 = .ok (.aload_n 0, 1) := by decide +kernel
theorem dX2_init_13 : decode cX2_init 13 = .ok (.bipush 49, 2) := by decide +kernel
theorem dX2_init_15 : decode cX2_init 15 = .ok (.newarray .int, 2) := by decide +kernel
theorem dX2_init_17 : decode cX2_init 17 = .ok (.putfield 15, 3) := by decide +kernel
theorem dX2_init_20 : decode cX2_init 20 = .ok (.return_, 1) := by decide +kernel
theorem dX2_cut_0 : decode cX2_cut 0 = .ok (.aload_n 0, 1) := by decide +kernel
theorem dX2_cut_1 : decode cX2_cut 1 = .ok (.getfield 9, 3) := by decide +kernel
theorem dX2_cut_4 : decode cX2_cut 4 = .ok (.sipush 1000, 3) := by decide +kernel
theorem dX2_cut_7 : decode cX2_cut 7 = .ok (.invokestatic 18, 3) := by decide +kernel
theorem dX2_cut_10 : decode cX2_cut 10 = .ok (.aload_n 0, 1) := by decide +kernel
theorem dX2_cut_11 : decode cX2_cut 11 = .ok (.getfield 9, 3) := by decide +kernel
theorem dX2_cut_14 : decode cX2_cut 14 = .ok (.iload_n 2, 1) := by decide +kernel
theorem dX2_cut_15 : decode cX2_cut 15 = .ok (.iconst 0, 1) := by decide +kernel
theorem dX2_cut_16 : decode cX2_cut 16 = .ok (.iastore, 1) := by decide +kernel
theorem dX2_cut_17 : decode cX2_cut 17 = .ok (.iload_n 2, 1) := by decide +kernel
theorem dX2_cut_18 : decode cX2_cut 18 = .ok (.istore 4, 2) := by decide +kernel
theorem dX2_cut_20 : decode cX2_cut 20 = .ok (.iload 4, 2) := by decide +kernel
theorem dX2_cut_22 : decode cX2_cut 22 = .ok (.ifCond .le 30, 3) := by decide +kernel
theorem dX2_cut_25 : decode cX2_cut 25 = .ok (.aload_n 0, 1) := by decide +kernel
theorem dX2_cut_26 : decode cX2_cut 26 = .ok (.getfield 9, 3) := by decide +kernel
theorem dX2_cut_29 : decode cX2_cut 29 = .ok (.iload 4, 2) := by decide +kernel
theorem dX2_cut_31 : decode cX2_cut 31 = .ok (.iaload, 1) := by decide +kernel
theorem dX2_cut_32 : decode cX2_cut 32 = .ok (.sipush 1000, 3) := by decide +kernel
theorem dX2_cut_35 : decode cX2_cut 35 = .ok (.if_icmp .ge 11, 3) := by decide +kernel
theorem dX2_cut_38 : decode cX2_cut 38 = .ok (.aload_n 0, 1) := by decide +kernel
theorem dX2_cut_39 : decode cX2_cut 39 = .ok (.iload 4, 2) := by decide +kernel
theorem dX2_cut_41 : decode cX2_cut 41 = .ok (.aload_n 1, 1) := by decide +kernel
theorem dX2_cut_42 : decode cX2_cut 42 = .ok (.iload_n 3, 1) := by decide +kernel
theorem dX2_cut_43 : decode cX2_cut 43 = .ok (.invokevirtual 24, 3) := by decide +kernel
theorem dX2_cut_46 : decode cX2_cut 46 = .ok (.iinc 4 (-1), 3) := by decide +kernel
theorem dX2_cut_49 : decode cX2_cut 49 = .ok (.goto (-29), 3) := by decide +kernel
theorem dX2_cut_52 : decode cX2_cut 52 = .ok (.return_, 1) := by decide +kernel
theorem dX2_reachFrom_0 : decode cX2_reachFrom 0 = .ok (.aload_n 0, 1) := by decide +kernel
theorem dX2_reachFrom_1 : decode cX2_reachFrom 1 = .ok (.getfield 9, 3) := by decide +kernel
theorem dX2_reachFrom_4 : decode cX2_reachFrom 4 = .ok (.iload_n 1, 1) := by decide +kernel
theorem dX2_reachFrom_5 : decode cX2_reachFrom 5 = .ok (.iaload, 1) := by decide +kernel
theorem dX2_reachFrom_6 : decode cX2_reachFrom 6 = .ok (.iconst 1, 1) := by decide +kernel
theorem dX2_reachFrom_7 : decode cX2_reachFrom 7 = .ok (.iadd, 1) := by decide +kernel
theorem dX2_reachFrom_8 : decode cX2_reachFrom 8 = .ok (.istore 4, 2) := by decide +kernel
theorem dX2_reachFrom_10 : decode cX2_reachFrom 10 = .ok (.aload_n 2, 1) := by decide +kernel
theorem dX2_reachFrom_11 : decode cX2_reachFrom 11 = .ok (.getfield 28, 3) := by decide +kernel
theorem dX2_reachFrom_14 : decode cX2_reachFrom 14 = .ok (.iload_n 1, 1) := by decide +kernel
theorem dX2_reachFrom_15 : decode cX2_reachFrom 15 = .ok (.iconst 1, 1) := by decide +kernel
theorem dX2_reachFrom_16 : decode cX2_reachFrom 16 = .ok (.isub, 1) := by decide +kernel
theorem dX2_reachFrom_17 : decode cX2_reachFrom 17 = .ok (.iaload, 1) := by decide +kernel
theorem dX2_reachFrom_18 : decode cX2_reachFrom 18 = .ok (.istore 5, 2) := by decide +kernel
theorem dX2_reachFrom_20 : decode cX2_reachFrom 20 = .ok (.aload_n 2, 1) := by decide +kernel
theorem dX2_reachFrom_21 : decode cX2_reachFrom 21 = .ok (.getfield 33, 3) := by decide +kernel
theorem dX2_reachFrom_24 : decode cX2_reachFrom 24 = .ok (.iload 5, 2) := by decide +kernel
theorem dX2_reachFrom_26 : decode cX2_reachFrom 26 = .ok (.iaload, 1) := by decide +kernel
theorem dX2_reachFrom_27 : decode cX2_reachFrom 27 = .ok (.istore 6, 2) := by decide +kernel
theorem dX2_reachFrom_29 : decode cX2_reachFrom 29 = .ok (.iload 6, 2) := by decide +kernel
theorem dX2_reachFrom_31 : decode cX2_reachFrom 31 = .ok (.ifCond .le 86, 3) := by decide +kernel
theorem dX2_reachFrom_34 : decode cX2_reachFrom 34 = .ok (.aload_n 2, 1) := by decide +kernel
theorem dX2_reachFrom_35 : decode cX2_reachFrom 35 = .ok (.getfield 36, 3) := by decide +kernel
theorem dX2_reachFrom_38 : decode cX2_reachFrom 38 = .ok (.iload 5, 2) := by decide +kernel
theorem dX2_reachFrom_40 : decode cX2_reachFrom 40 = .ok (.iaload, 1) := by decide +kernel
theorem dX2_reachFrom_41 : decode cX2_reachFrom 41 = .ok (.istore 7, 2) := by decide +kernel
theorem dX2_reachFrom_43 : decode cX2_reachFrom 43 = .ok (.iload_n 1, 1) := by decide +kernel
theorem dX2_reachFrom_44 : decode cX2_reachFrom 44 = .ok (.iload 7, 2) := by decide +kernel
theorem dX2_reachFrom_46 : decode cX2_reachFrom 46 = .ok (.isub, 1) := by decide +kernel
theorem dX2_reachFrom_47 : decode cX2_reachFrom 47 = .ok (.istore 8, 2) := by decide +kernel
theorem dX2_reachFrom_49 : decode cX2_reachFrom 49 = .ok (.iload_n 3, 1) := by decide +kernel
theorem dX2_reachFrom_50 : decode cX2_reachFrom 50 = .ok (.ifCond .eq 10, 3) := by decide +kernel
theorem dX2_reachFrom_53 : decode cX2_reachFrom 53 = .ok (.iload 7, 2) := by decide +kernel
theorem dX2_reachFrom_55 : decode cX2_reachFrom 55 = .ok (.iconst 2, 1) := by decide +kernel
theorem dX2_reachFrom_56 : decode cX2_reachFrom 56 = .ok (.irem, 1) := by decide +kernel
theorem dX2_reachFrom_57 : decode cX2_reachFrom 57 = .ok (.ifCond .ne 7, 3) := by decide +kernel
theorem dX2_reachFrom_60 : decode cX2_reachFrom 60 = .ok (.iconst 1, 1) := by decide +kernel
theorem dX2_reachFrom_61 : decode cX2_reachFrom 61 = .ok (.goto 4, 3) := by decide +kernel
theorem dX2_reachFrom_64 : decode cX2_reachFrom 64 = .ok (.iconst 0, 1) := by decide +kernel
theorem dX2_reachFrom_65 : decode cX2_reachFrom 65 = .ok (.istore 9, 2) := by decide +kernel
theorem dX2_reachFrom_67 : decode cX2_reachFrom 67 = .ok (.iload 9, 2) := by decide +kernel
theorem dX2_reachFrom_69 : decode cX2_reachFrom 69 = .ok (.ifCond .eq 33, 3) := by decide +kernel
theorem dX2_reachFrom_72 : decode cX2_reachFrom 72 = .ok (.iload 4, 2) := by decide +kernel
theorem dX2_reachFrom_74 : decode cX2_reachFrom 74 = .ok (.aload_n 0, 1) := by decide +kernel
theorem dX2_reachFrom_75 : decode cX2_reachFrom 75 = .ok (.getfield 9, 3) := by decide +kernel
theorem dX2_reachFrom_78 : decode cX2_reachFrom 78 = .ok (.iload 8, 2) := by decide +kernel
theorem dX2_reachFrom_80 : decode cX2_reachFrom 80 = .ok (.iaload, 1) := by decide +kernel
theorem dX2_reachFrom_81 : decode cX2_reachFrom 81 = .ok (.if_icmp .gt 21, 3) := by decide +kernel
theorem dX2_reachFrom_84 : decode cX2_reachFrom 84 = .ok (.aload_n 0, 1) := by decide +kernel
theorem dX2_reachFrom_85 : decode cX2_reachFrom 85 = .ok (.getfield 9, 3) := by decide +kernel
theorem dX2_reachFrom_88 : decode cX2_reachFrom 88 = .ok (.iload 8, 2) := by decide +kernel
theorem dX2_reachFrom_90 : decode cX2_reachFrom 90 = .ok (.iload 4, 2) := by decide +kernel
theorem dX2_reachFrom_92 : decode cX2_reachFrom 92 = .ok (.iastore, 1) := by decide +kernel
theorem dX2_reachFrom_93 : decode cX2_reachFrom 93 = .ok (.aload_n 0, 1) := by decide +kernel
theorem dX2_reachFrom_94 : decode cX2_reachFrom 94 = .ok (.getfield 15, 3) := by decide +kernel
theorem dX2_reachFrom_97 : decode cX2_reachFrom 97 = .ok (.iload 8, 2) := by decide +kernel
theorem dX2_reachFrom_99 : decode cX2_reachFrom 99 = .ok (.iload 7, 2) := by decide +kernel
theorem dX2_reachFrom_101 : decode cX2_reachFrom 101 = .ok (.iastore, 1) := by decide +kernel
theorem dX2_reachFrom_102 : decode cX2_reachFrom 102 = .ok (.aload_n 2, 1) := by decide +kernel
theorem dX2_reachFrom_103 : decode cX2_reachFrom 103 = .ok (.getfield 39, 3) := by decide +kernel
theorem dX2_reachFrom_106 : decode cX2_reachFrom 106 = .ok (.iload 5, 2) := by decide +kernel
theorem dX2_reachFrom_108 : decode cX2_reachFrom 108 = .ok (.iaload, 1) := by decide +kernel
theorem dX2_reachFrom_109 : decode cX2_reachFrom 109 = .ok (.istore 5, 2) := by decide +kernel
theorem dX2_reachFrom_111 : decode cX2_reachFrom 111 = .ok (.iinc 6 (-1), 3) := by decide +kernel
theorem dX2_reachFrom_114 : decode cX2_reachFrom 114 = .ok (.goto (-85), 3) := by decide +kernel
theorem dX2_reachFrom_117 : decode cX2_reachFrom 117 = .ok (.return_, 1) := by decide +kernel
theorem dX2_pieces_0 : decode cX2_pieces 0 = .ok (.aload_n 0, 1) := by decide +kernel
theorem dX2_pieces_1 : decode cX2_pieces 1 = .ok (.getfield 9, 3) := by decide +kernel
theorem dX2_pieces_4 : decode cX2_pieces 4 = .ok (.iconst 0, 1) := by decide +kernel
theorem dX2_pieces_5 : decode cX2_pieces 5 = .ok (.iaload, 1) := by decide +kernel
theorem dX2_pieces_6 : decode cX2_pieces 6 = .ok (.ireturn, 1) := by decide +kernel
theorem dX2_pieceLength_0 : decode cX2_pieceLength 0 = .ok (.iconst 0, 1) := by decide +kernel
theorem dX2_pieceLength_1 : decode cX2_pieceLength 1 = .ok (.istore_n 2, 1) := by decide +kernel
theorem dX2_pieceLength_2 : decode cX2_pieceLength 2 = .ok (.iconst 0, 1) := by decide +kernel
theorem dX2_pieceLength_3 : decode cX2_pieceLength 3 = .ok (.istore_n 3, 1) := by decide +kernel
theorem dX2_pieceLength_4 : decode cX2_pieceLength 4 = .ok (.iload_n 3, 1) := by decide +kernel
theorem dX2_pieceLength_5 : decode cX2_pieceLength 5 = .ok (.iload_n 1, 1) := by decide +kernel
theorem dX2_pieceLength_6 : decode cX2_pieceLength 6 = .ok (.if_icmp .ge 18, 3) := by decide +kernel
theorem dX2_pieceLength_9 : decode cX2_pieceLength 9 = .ok (.iload_n 2, 1) := by decide +kernel
theorem dX2_pieceLength_10 : decode cX2_pieceLength 10 = .ok (.aload_n 0, 1) := by decide +kernel
theorem dX2_pieceLength_11 : decode cX2_pieceLength 11 = .ok (.getfield 15, 3) := by decide +kernel
theorem dX2_pieceLength_14 : decode cX2_pieceLength 14 = .ok (.iload_n 2, 1) := by decide +kernel
theorem dX2_pieceLength_15 : decode cX2_pieceLength 15 = .ok (.iaload, 1) := by decide +kernel
theorem dX2_pieceLength_16 : decode cX2_pieceLength 16 = .ok (.iadd, 1) := by decide +kernel
theorem dX2_pieceLength_17 : decode cX2_pieceLength 17 = .ok (.istore_n 2, 1) := by decide +kernel
theorem dX2_pieceLength_18 : decode cX2_pieceLength 18 = .ok (.iinc 3 1, 3) := by decide +kernel
theorem dX2_pieceLength_21 : decode cX2_pieceLength 21 = .ok (.goto (-17), 3) := by decide +kernel
theorem dX2_pieceLength_24 : decode cX2_pieceLength 24 = .ok (.aload_n 0, 1) := by decide +kernel
theorem dX2_pieceLength_25 : decode cX2_pieceLength 25 = .ok (.getfield 15, 3) := by decide +kernel
theorem dX2_pieceLength_28 : decode cX2_pieceLength 28 = .ok (.iload_n 2, 1) := by decide +kernel
theorem dX2_pieceLength_29 : decode cX2_pieceLength 29 = .ok (.iaload, 1) := by decide +kernel
theorem dX2_pieceLength_30 : decode cX2_pieceLength 30 = .ok (.ireturn, 1) := by decide +kernel
theorem dX3_init_0 : decode cX3_init 0 = .ok (.aload_n 0, 1) := by decide +kernel
theorem dX3_init_1 : decode cX3_init 1 = .ok (.invokespecial 3, 3) := by decide +kernel
theorem dX3_init_4 : decode cX3_init 4 = .ok (.aload_n 0, 1) := by decide +kernel
theorem dX3_init_5 : decode cX3_init 5 = .ok (.bipush 48, 2) := by decide +kernel
theorem dX3_init_7 : decode cX3_init 7 = .ok (.newarray .int, 2) := by decide +kernel
theorem dX3_init_9 : decode cX3_init 9 = .ok (.putfield 9, 3) := by decide +kernel
theorem dX3_init_12 : decode cX3_init 12 = .ok (.aload_n 0, 1) := by decide +kernel
theorem dX3_init_13 : decode cX3_init 13 = .ok (.iload_n 1, 1) := by decide +kernel
theorem dX3_init_14 : decode cX3_init 14 = .ok (.putfield 15, 3) := by decide +kernel
theorem dX3_init_17 : decode cX3_init 17 = .ok (.return_, 1) := by decide +kernel
theorem dX3_hold_0 : decode cX3_hold 0 = .ok (.aload_n 1, 1) := by decide +kernel
theorem dX3_hold_1 : decode cX3_hold 1 = .ok (.iconst 0, 1) := by decide +kernel
theorem dX3_hold_2 : decode cX3_hold 2 = .ok (.aload_n 0, 1) := by decide +kernel
theorem dX3_hold_3 : decode cX3_hold 3 = .ok (.getfield 9, 3) := by decide +kernel
theorem dX3_hold_6 : decode cX3_hold 6 = .ok (.iconst 0, 1) := by decide +kernel
theorem dX3_hold_7 : decode cX3_hold 7 = .ok (.iload_n 2, 1) := by decide +kernel
theorem dX3_hold_8 : decode cX3_hold 8 = .ok (.invokestatic 19, 3) := by decide +kernel
theorem dX3_hold_11 : decode cX3_hold 11 = .ok (.aload_n 0, 1) := by decide +kernel
theorem dX3_hold_12 : decode cX3_hold 12 = .ok (.iload_n 2, 1) := by decide +kernel
theorem dX3_hold_13 : decode cX3_hold 13 = .ok (.putfield 15, 3) := by decide +kernel
theorem dX3_hold_16 : decode cX3_hold 16 = .ok (.return_, 1) := by decide +kernel
theorem dX3_append_0 : decode cX3_append 0 = .ok (.aload_n 0, 1) := by decide +kernel
theorem dX3_append_1 : decode cX3_append 1 = .ok (.getfield 9, 3) := by decide +kernel
theorem dX3_append_4 : decode cX3_append 4 = .ok (.aload_n 0, 1) := by decide +kernel
theorem dX3_append_5 : decode cX3_append 5 = .ok (.getfield 15, 3) := by decide +kernel
theorem dX3_append_8 : decode cX3_append 8 = .ok (.iload_n 1, 1) := by decide +kernel
theorem dX3_append_9 : decode cX3_append 9 = .ok (.iastore, 1) := by decide +kernel
theorem dX3_append_10 : decode cX3_append 10 = .ok (.aload_n 0, 1) := by decide +kernel
theorem dX3_append_11 : decode cX3_append 11 = .ok (.dup, 1) := by decide +kernel
theorem dX3_append_12 : decode cX3_append 12 = .ok (.getfield 15, 3) := by decide +kernel
theorem dX3_append_15 : decode cX3_append 15 = .ok (.iconst 1, 1) := by decide +kernel
theorem dX3_append_16 : decode cX3_append 16 = .ok (.iadd, 1) := by decide +kernel
theorem dX3_append_17 : decode cX3_append 17 = .ok (.putfield 15, 3) := by decide +kernel
theorem dX3_append_20 : decode cX3_append 20 = .ok (.return_, 1) := by decide +kernel
theorem dX4_init_0 : decode cX4_init 0 = .ok (.aload_n 0, 1) := by decide +kernel
theorem dX4_init_1 : decode cX4_init 1 = .ok (.invokespecial 3, 3) := by decide +kernel
theorem dX4_init_4 : decode cX4_init 4 = .ok (.aload_n 0, 1) := by decide +kernel
theorem dX4_init_5 : decode cX4_init 5 = .ok (.bipush 48, 2) := by decide +kernel
theorem dX4_init_7 : decode cX4_init 7 = .ok (.newarray .long, 2) := by decide +kernel
theorem dX4_init_9 : decode cX4_init 9 = .ok (.putfield 9, 3) := by decide +kernel
theorem dX4_init_12 : decode cX4_init 12 = .ok (.aload_n 0, 1) := by decide +kernel
theorem dX4_init_13 : decode cX4_init 13 = .ok (.iconst (-1), 1) := by decide +kernel
theorem dX4_init_14 : decode cX4_init 14 = .ok (.putfield 15, 3) := by decide +kernel
theorem dX4_init_17 : decode cX4_init 17 = .ok (.return_, 1) := by decide +kernel
theorem dX4_begin_0 : decode cX4_begin 0 = .ok (.aload_n 0, 1) := by decide +kernel
theorem dX4_begin_1 : decode cX4_begin 1 = .ok (.getfield 9, 3) := by decide +kernel
theorem dX4_begin_4 : decode cX4_begin 4 = .ok (.lconst 0, 1) := by decide +kernel
theorem dX4_begin_5 : decode cX4_begin 5 = .ok (.invokestatic 19, 3) := by decide +kernel
theorem dX4_begin_8 : decode cX4_begin 8 = .ok (.aload_n 0, 1) := by decide +kernel
theorem dX4_begin_9 : decode cX4_begin 9 = .ok (.iload_n 1, 1) := by decide +kernel
theorem dX4_begin_10 : decode cX4_begin 10 = .ok (.putfield 25, 3) := by decide +kernel
theorem dX4_begin_13 : decode cX4_begin 13 = .ok (.aload_n 0, 1) := by decide +kernel
theorem dX4_begin_14 : decode cX4_begin 14 = .ok (.iload_n 2, 1) := by decide +kernel
theorem dX4_begin_15 : decode cX4_begin 15 = .ok (.putfield 15, 3) := by decide +kernel
theorem dX4_begin_18 : decode cX4_begin 18 = .ok (.return_, 1) := by decide +kernel
theorem dX4_refusal_0 : decode cX4_refusal 0 = .ok (.aload_n 0, 1) := by decide +kernel
theorem dX4_refusal_1 : decode cX4_refusal 1 = .ok (.getfield 15, 3) := by decide +kernel
theorem dX4_refusal_4 : decode cX4_refusal 4 = .ok (.iconst (-1), 1) := by decide +kernel
theorem dX4_refusal_5 : decode cX4_refusal 5 = .ok (.if_icmp .ne 6, 3) := by decide +kernel
theorem dX4_refusal_8 : decode cX4_refusal 8 = .ok (.bipush (-11), 2) := by decide +kernel
theorem dX4_refusal_10 : decode cX4_refusal 10 = .ok (.ireturn, 1) := by decide +kernel
theorem dX4_refusal_11 : decode cX4_refusal 11 = .ok (.aload_n 0, 1) := by decide +kernel
theorem dX4_refusal_12 : decode cX4_refusal 12 = .ok (.getfield 25, 3) := by decide +kernel
theorem dX4_refusal_15 : decode cX4_refusal 15 = .ok (.iload_n 1, 1) := by decide +kernel
theorem dX4_refusal_16 : decode cX4_refusal 16 = .ok (.if_icmp .eq 6, 3) := by decide +kernel
theorem dX4_refusal_19 : decode cX4_refusal 19 = .ok (.bipush (-12), 2) := by decide +kernel
theorem dX4_refusal_21 : decode cX4_refusal 21 = .ok (.ireturn, 1) := by decide +kernel
theorem dX4_refusal_22 : decode cX4_refusal 22 = .ok (.iload_n 2, 1) := by decide +kernel
theorem dX4_refusal_23 : decode cX4_refusal 23 = .ok (.ifCond .lt 17, 3) := by decide +kernel
theorem dX4_refusal_26 : decode cX4_refusal 26 = .ok (.iload_n 3, 1) := by decide +kernel
theorem dX4_refusal_27 : decode cX4_refusal 27 = .ok (.ifCond .lt 13, 3) := by decide +kernel
theorem dX4_refusal_30 : decode cX4_refusal 30 = .ok (.iload_n 2, 1) := by decide +kernel
theorem dX4_refusal_31 : decode cX4_refusal 31 = .ok (.aload_n 0, 1) := by decide +kernel
theorem dX4_refusal_32 : decode cX4_refusal 32 = .ok (.getfield 15, 3) := by decide +kernel
theorem dX4_refusal_35 : decode cX4_refusal 35 = .ok (.iload_n 3, 1) := by decide +kernel
theorem dX4_refusal_36 : decode cX4_refusal 36 = .ok (.isub, 1) := by decide +kernel
theorem dX4_refusal_37 : decode cX4_refusal 37 = .ok (.if_icmp .le 8, 3) := by decide +kernel
theorem dX4_refusal_40 : decode cX4_refusal 40 = .ok (.bipush (-13), 2) := by decide +kernel
theorem dX4_refusal_42 : decode cX4_refusal 42 = .ok (.goto 4, 3) := by decide +kernel
theorem dX4_refusal_45 : decode cX4_refusal 45 = .ok (.iconst 0, 1) := by decide +kernel
theorem dX4_refusal_46 : decode cX4_refusal 46 = .ok (.ireturn, 1) := by decide +kernel
theorem dX4_store_0 : decode cX4_store 0 = .ok (.aload_n 0, 1) := by decide +kernel
theorem dX4_store_1 : decode cX4_store 1 = .ok (.getfield 9, 3) := by decide +kernel
theorem dX4_store_4 : decode cX4_store 4 = .ok (.iload_n 1, 1) := by decide +kernel
theorem dX4_store_5 : decode cX4_store 5 = .ok (.aload_n 0, 1) := by decide +kernel
theorem dX4_store_6 : decode cX4_store 6 = .ok (.lload_n 2, 1) := by decide +kernel
theorem dX4_store_7 : decode cX4_store 7 = .ok (.invokevirtual 28, 3) := by decide +kernel
theorem dX4_store_10 : decode cX4_store 10 = .ok (.lastore, 1) := by decide +kernel
theorem dX4_store_11 : decode cX4_store 11 = .ok (.aload_n 0, 1) := by decide +kernel
theorem dX4_store_12 : decode cX4_store 12 = .ok (.getfield 9, 3) := by decide +kernel
theorem dX4_store_15 : decode cX4_store 15 = .ok (.iload_n 1, 1) := by decide +kernel
theorem dX4_store_16 : decode cX4_store 16 = .ok (.laload, 1) := by decide +kernel
theorem dX4_store_17 : decode cX4_store 17 = .ok (.lreturn, 1) := by decide +kernel
theorem dX4_narrowed_0 : decode cX4_narrowed 0 = .ok (.aload_n 0, 1) := by decide +kernel
theorem dX4_narrowed_1 : decode cX4_narrowed 1 = .ok (.getfield 25, 3) := by decide +kernel
theorem dX4_narrowed_4 : decode cX4_narrowed 4 = .ok (.tableswitch 42 0 2 #[28, 33, 38], 28) := by decide +kernel
theorem dX4_narrowed_32 : decode cX4_narrowed 32 = .ok (.lload_n 1, 1) := by decide +kernel
theorem dX4_narrowed_33 : decode cX4_narrowed 33 = .ok (.l2i, 1) := by decide +kernel
theorem dX4_narrowed_34 : decode cX4_narrowed 34 = .ok (.i2c, 1) := by decide +kernel
theorem dX4_narrowed_35 : decode cX4_narrowed 35 = .ok (.i2l, 1) := by decide +kernel
theorem dX4_narrowed_36 : decode cX4_narrowed 36 = .ok (.lreturn, 1) := by decide +kernel
theorem dX4_narrowed_37 : decode cX4_narrowed 37 = .ok (.lload_n 1, 1) := by decide +kernel
theorem dX4_narrowed_38 : decode cX4_narrowed 38 = .ok (.l2i, 1) := by decide +kernel
theorem dX4_narrowed_39 : decode cX4_narrowed 39 = .ok (.i2s, 1) := by decide +kernel
theorem dX4_narrowed_40 : decode cX4_narrowed 40 = .ok (.i2l, 1) := by decide +kernel
theorem dX4_narrowed_41 : decode cX4_narrowed 41 = .ok (.lreturn, 1) := by decide +kernel
theorem dX4_narrowed_42 : decode cX4_narrowed 42 = .ok (.lload_n 1, 1) := by decide +kernel
theorem dX4_narrowed_43 : decode cX4_narrowed 43 = .ok (.l2i, 1) := by decide +kernel
theorem dX4_narrowed_44 : decode cX4_narrowed 44 = .ok (.i2l, 1) := by decide +kernel
theorem dX4_narrowed_45 : decode cX4_narrowed 45 = .ok (.lreturn, 1) := by decide +kernel
theorem dX4_narrowed_46 : decode cX4_narrowed 46 = .ok (.lload_n 1, 1) := by decide +kernel
theorem dX4_narrowed_47 : decode cX4_narrowed 47 = .ok (.lreturn, 1) := by decide +kernel
theorem dX4_holdsBytes_0 : decode cX4_holdsBytes 0 = .ok (.iconst 0, 1) := by decide +kernel
theorem dX4_holdsBytes_1 : decode cX4_holdsBytes 1 = .ok (.istore_n 3, 1) := by decide +kernel
theorem dX4_holdsBytes_2 : decode cX4_holdsBytes 2 = .ok (.iload_n 3, 1) := by decide +kernel
theorem dX4_holdsBytes_3 : decode cX4_holdsBytes 3 = .ok (.iload_n 2, 1) := by decide +kernel
theorem dX4_holdsBytes_4 : decode cX4_holdsBytes 4 = .ok (.if_icmp .ge 25, 3) := by decide +kernel
theorem dX4_holdsBytes_7 : decode cX4_holdsBytes 7 = .ok (.aload_n 0, 1) := by decide +kernel
theorem dX4_holdsBytes_8 : decode cX4_holdsBytes 8 = .ok (.getfield 9, 3) := by decide +kernel
theorem dX4_holdsBytes_11 : decode cX4_holdsBytes 11 = .ok (.iload_n 1, 1) := by decide +kernel
theorem dX4_holdsBytes_12 : decode cX4_holdsBytes 12 = .ok (.iload_n 3, 1) := by decide +kernel
theorem dX4_holdsBytes_13 : decode cX4_holdsBytes 13 = .ok (.iadd, 1) := by decide +kernel
theorem dX4_holdsBytes_14 : decode cX4_holdsBytes 14 = .ok (.laload, 1) := by decide +kernel
theorem dX4_holdsBytes_15 : decode cX4_holdsBytes 15 = .ok (.invokestatic 32, 3) := by decide +kernel
theorem dX4_holdsBytes_18 : decode cX4_holdsBytes 18 = .ok (.ifCond .ne 5, 3) := by decide +kernel
theorem dX4_holdsBytes_21 : decode cX4_holdsBytes 21 = .ok (.iconst 0, 1) := by decide +kernel
theorem dX4_holdsBytes_22 : decode cX4_holdsBytes 22 = .ok (.ireturn, 1) := by decide +kernel
theorem dX4_holdsBytes_23 : decode cX4_holdsBytes 23 = .ok (.iinc 3 1, 3) := by decide +kernel
theorem dX4_holdsBytes_26 : decode cX4_holdsBytes 26 = .ok (.goto (-24), 3) := by decide +kernel
theorem dX4_holdsBytes_29 : decode cX4_holdsBytes 29 = .ok (.iconst 1, 1) := by decide +kernel
theorem dX4_holdsBytes_30 : decode cX4_holdsBytes 30 = .ok (.ireturn, 1) := by decide +kernel
theorem dX5_init_0 : decode cX5_init 0 = .ok (.aload_n 0, 1) := by decide +kernel
theorem dX5_init_1 : decode cX5_init 1 = .ok (.invokespecial 3, 3) := by decide +kernel
theorem dX5_init_4 : decode cX5_init 4 = .ok (.aload_n 0, 1) := by decide +kernel
theorem dX5_init_5 : decode cX5_init 5 = .ok (.new 9, 3) := by decide +kernel
theorem dX5_init_8 : decode cX5_init 8 = .ok (.dup, 1) := by decide +kernel
theorem dX5_init_9 : decode cX5_init 9 = .ok (.invokespecial 11, 3) := by decide +kernel
theorem dX5_init_12 : decode cX5_init 12 = .ok (.putfield 12, 3) := by decide +kernel
theorem dX5_init_15 : decode cX5_init 15 = .ok (.aload_n 0, 1) := by decide +kernel
theorem dX5_init_16 : decode cX5_init 16 = .ok (.new 9, 3) := by decide +kernel
theorem dX5_init_19 : decode cX5_init 19 = .ok (.dup, 1) := by decide +kernel
theorem dX5_init_20 : decode cX5_init 20 = .ok (.invokespecial 11, 3) := by decide +kernel
theorem dX5_init_23 : decode cX5_init 23 = .ok (.putfield 16, 3) := by decide +kernel
theorem dX5_init_26 : decode cX5_init 26 = .ok (.aload_n 0, 1) := by decide +kernel
theorem dX5_init_27 : decode cX5_init 27 = .ok (.new 19, 3) := by decide +kernel
theorem dX5_init_30 : decode cX5_init 30 = .ok (.dup, 1) := by decide +kernel
theorem dX5_init_31 : decode cX5_init 31 = .ok (.invokespecial 21, 3) := by decide +kernel
theorem dX5_init_34 : decode cX5_init 34 = .ok (.putfield 22, 3) := by decide +kernel
theorem dX5_init_37 : decode cX5_init 37 = .ok (.aload_n 0, 1) := by decide +kernel
theorem dX5_init_38 : decode cX5_init 38 = .ok (.new 26, 3) := by decide +kernel
theorem dX5_init_41 : decode cX5_init 41 = .ok (.dup, 1) := by decide +kernel
theorem dX5_init_42 : decode cX5_init 42 = .ok (.invokespecial 28, 3) := by decide +kernel
theorem dX5_init_45 : decode cX5_init 45 = .ok (.putfield 29, 3) := by decide +kernel
theorem dX5_init_48 : decode cX5_init 48 = .ok (.aload_n 0, 1) := by decide +kernel
theorem dX5_init_49 : decode cX5_init 49 = .ok (.iconst 2, 1) := by decide +kernel
theorem dX5_init_50 : decode cX5_init 50 = .ok (.anewarray 33, 3) := by decide +kernel
theorem dX5_init_53 : decode cX5_init 53 = .ok (.putfield 35, 3) := by decide +kernel
theorem dX5_init_56 : decode cX5_init 56 = .ok (.iconst 0, 1) := by decide +kernel
theorem dX5_init_57 : decode cX5_init 57 = .ok (.istore_n 1, 1) := by decide +kernel
theorem dX5_init_58 : decode cX5_init 58 = .ok (.iload_n 1, 1) := by decide +kernel
theorem dX5_init_59 : decode cX5_init 59 = .ok (.iconst 2, 1) := by decide +kernel
theorem dX5_init_60 : decode cX5_init 60 = .ok (.if_icmp .ge 23, 3) := by decide +kernel
theorem dX5_init_63 : decode cX5_init 63 = .ok (.aload_n 0, 1) := by decide +kernel
theorem dX5_init_64 : decode cX5_init 64 = .ok (.getfield 35, 3) := by decide +kernel
theorem dX5_init_67 : decode cX5_init 67 = .ok (.iload_n 1, 1) := by decide +kernel
theorem dX5_init_68 : decode cX5_init 68 = .ok (.new 33, 3) := by decide +kernel
theorem dX5_init_71 : decode cX5_init 71 = .ok (.dup, 1) := by decide +kernel
theorem dX5_init_72 : decode cX5_init 72 = .ok (.iconst (-1), 1) := by decide +kernel
theorem dX5_init_73 : decode cX5_init 73 = .ok (.invokespecial 39, 3) := by decide +kernel
theorem dX5_init_76 : decode cX5_init 76 = .ok (.aastore, 1) := by decide +kernel
theorem dX5_init_77 : decode cX5_init 77 = .ok (.iinc 1 1, 3) := by decide +kernel
theorem dX5_init_80 : decode cX5_init 80 = .ok (.goto (-22), 3) := by decide +kernel
theorem dX5_init_83 : decode cX5_init 83 = .ok (.aload_n 0, 1) := by decide +kernel
theorem dX5_init_84 : decode cX5_init 84 = .ok (.new 33, 3) := by decide +kernel
theorem dX5_init_87 : decode cX5_init 87 = .ok (.dup, 1) := by decide +kernel
theorem dX5_init_88 : decode cX5_init 88 = .ok (.iconst 0, 1) := by decide +kernel
theorem dX5_init_89 : decode cX5_init 89 = .ok (.invokespecial 39, 3) := by decide +kernel
theorem dX5_init_92 : decode cX5_init 92 = .ok (.putfield 42, 3) := by decide +kernel
theorem dX5_init_95 : decode cX5_init 95 = .ok (.aload_n 0, 1) := by decide +kernel
theorem dX5_init_96 : decode cX5_init 96 = .ok (.iconst 4, 1) := by decide +kernel
theorem dX5_init_97 : decode cX5_init 97 = .ok (.anewarray 46, 3) := by decide +kernel
theorem dX5_init_100 : decode cX5_init 100 = .ok (.putfield 48, 3) := by decide +kernel
theorem dX5_init_103 : decode cX5_init 103 = .ok (.iconst 0, 1) := by decide +kernel
theorem dX5_init_104 : decode cX5_init 104 = .ok (.istore_n 1, 1) := by decide +kernel
theorem dX5_init_105 : decode cX5_init 105 = .ok (.iload_n 1, 1) := by decide +kernel
theorem dX5_init_106 : decode cX5_init 106 = .ok (.iconst 4, 1) := by decide +kernel
theorem dX5_init_107 : decode cX5_init 107 = .ok (.if_icmp .ge 22, 3) := by decide +kernel
theorem dX5_init_110 : decode cX5_init 110 = .ok (.aload_n 0, 1) := by decide +kernel
theorem dX5_init_111 : decode cX5_init 111 = .ok (.getfield 48, 3) := by decide +kernel
theorem dX5_init_114 : decode cX5_init 114 = .ok (.iload_n 1, 1) := by decide +kernel
theorem dX5_init_115 : decode cX5_init 115 = .ok (.new 46, 3) := by decide +kernel
theorem dX5_init_118 : decode cX5_init 118 = .ok (.dup, 1) := by decide +kernel
theorem dX5_init_119 : decode cX5_init 119 = .ok (.invokespecial 52, 3) := by decide +kernel
theorem dX5_init_122 : decode cX5_init 122 = .ok (.aastore, 1) := by decide +kernel
theorem dX5_init_123 : decode cX5_init 123 = .ok (.iinc 1 1, 3) := by decide +kernel
theorem dX5_init_126 : decode cX5_init 126 = .ok (.goto (-21), 3) := by decide +kernel
theorem dX5_init_129 : decode cX5_init 129 = .ok (.aload_n 0, 1) := by decide +kernel
theorem dX5_init_130 : decode cX5_init 130 = .ok (.iconst 3, 1) := by decide +kernel
theorem dX5_init_131 : decode cX5_init 131 = .ok (.newarray .int, 2) := by decide +kernel
theorem dX5_init_133 : decode cX5_init 133 = .ok (.putfield 53, 3) := by decide +kernel
theorem dX5_init_136 : decode cX5_init 136 = .ok (.aload_n 0, 1) := by decide +kernel
theorem dX5_init_137 : decode cX5_init 137 = .ok (.bipush 48, 2) := by decide +kernel
theorem dX5_init_139 : decode cX5_init 139 = .ok (.newarray .int, 2) := by decide +kernel
theorem dX5_init_141 : decode cX5_init 141 = .ok (.putfield 57, 3) := by decide +kernel
theorem dX5_init_144 : decode cX5_init 144 = .ok (.return_, 1) := by decide +kernel
theorem dX5_put_0 : decode cX5_put 0 = .ok (.iload_n 1, 1) := by decide +kernel
theorem dX5_put_1 : decode cX5_put 1 = .ok (.invokestatic 60, 3) := by decide +kernel
theorem dX5_put_4 : decode cX5_put 4 = .ok (.ifCond .ne 5, 3) := by decide +kernel
theorem dX5_put_7 : decode cX5_put 7 = .ok (.iconst (-1), 1) := by decide +kernel
theorem dX5_put_8 : decode cX5_put 8 = .ok (.ireturn, 1) := by decide +kernel
theorem dX5_put_9 : decode cX5_put 9 = .ok (.aload_n 0, 1) := by decide +kernel
theorem dX5_put_10 : decode cX5_put 10 = .ok (.getfield 12, 3) := by decide +kernel
theorem dX5_put_13 : decode cX5_put 13 = .ok (.getfield 64, 3) := by decide +kernel
theorem dX5_put_16 : decode cX5_put 16 = .ok (.bipush 48, 2) := by decide +kernel
theorem dX5_put_18 : decode cX5_put 18 = .ok (.if_icmp .ne 6, 3) := by decide +kernel
theorem dX5_put_21 : decode cX5_put 21 = .ok (.bipush (-3), 2) := by decide +kernel
theorem dX5_put_23 : decode cX5_put 23 = .ok (.ireturn, 1) := by decide +kernel
theorem dX5_put_24 : decode cX5_put 24 = .ok (.aload_n 0, 1) := by decide +kernel
theorem dX5_put_25 : decode cX5_put 25 = .ok (.getfield 22, 3) := by decide +kernel
theorem dX5_put_28 : decode cX5_put 28 = .ok (.iconst 0, 1) := by decide +kernel
theorem dX5_put_29 : decode cX5_put 29 = .ok (.aload_n 0, 1) := by decide +kernel
theorem dX5_put_30 : decode cX5_put 30 = .ok (.getfield 12, 3) := by decide +kernel
theorem dX5_put_33 : decode cX5_put 33 = .ok (.getfield 64, 3) := by decide +kernel
theorem dX5_put_36 : decode cX5_put 36 = .ok (.iload_n 1, 1) := by decide +kernel
theorem dX5_put_37 : decode cX5_put 37 = .ok (.invokevirtual 68, 3) := by decide +kernel
theorem dX5_put_40 : decode cX5_put 40 = .ok (.aload_n 0, 1) := by decide +kernel
theorem dX5_put_41 : decode cX5_put 41 = .ok (.getfield 12, 3) := by decide +kernel
theorem dX5_put_44 : decode cX5_put 44 = .ok (.iload_n 1, 1) := by decide +kernel
theorem dX5_put_45 : decode cX5_put 45 = .ok (.invokevirtual 72, 3) := by decide +kernel
theorem dX5_put_48 : decode cX5_put 48 = .ok (.ireturn, 1) := by decide +kernel
theorem dX5_pop_0 : decode cX5_pop 0 = .ok (.aload_n 0, 1) := by decide +kernel
theorem dX5_pop_1 : decode cX5_pop 1 = .ok (.getfield 12, 3) := by decide +kernel
theorem dX5_pop_4 : decode cX5_pop 4 = .ok (.getfield 64, 3) := by decide +kernel
theorem dX5_pop_7 : decode cX5_pop 7 = .ok (.ifCond .ne 6, 3) := by decide +kernel
theorem dX5_pop_10 : decode cX5_pop 10 = .ok (.bipush (-2), 2) := by decide +kernel
theorem dX5_pop_12 : decode cX5_pop 12 = .ok (.ireturn, 1) := by decide +kernel
theorem dX5_pop_13 : decode cX5_pop 13 = .ok (.aload_n 0, 1) := by decide +kernel
theorem dX5_pop_14 : decode cX5_pop 14 = .ok (.getfield 12, 3) := by decide +kernel
theorem dX5_pop_17 : decode cX5_pop 17 = .ok (.invokevirtual 76, 3) := by decide +kernel
theorem dX5_pop_20 : decode cX5_pop 20 = .ok (.istore_n 1, 1) := by decide +kernel
theorem dX5_pop_21 : decode cX5_pop 21 = .ok (.aload_n 0, 1) := by decide +kernel
theorem dX5_pop_22 : decode cX5_pop 22 = .ok (.getfield 12, 3) := by decide +kernel
theorem dX5_pop_25 : decode cX5_pop 25 = .ok (.invokevirtual 80, 3) := by decide +kernel
theorem dX5_pop_28 : decode cX5_pop 28 = .ok (.aload_n 0, 1) := by decide +kernel
theorem dX5_pop_29 : decode cX5_pop 29 = .ok (.getfield 22, 3) := by decide +kernel
theorem dX5_pop_32 : decode cX5_pop 32 = .ok (.iconst 1, 1) := by decide +kernel
theorem dX5_pop_33 : decode cX5_pop 33 = .ok (.aload_n 0, 1) := by decide +kernel
theorem dX5_pop_34 : decode cX5_pop 34 = .ok (.getfield 12, 3) := by decide +kernel
theorem dX5_pop_37 : decode cX5_pop 37 = .ok (.getfield 64, 3) := by decide +kernel
theorem dX5_pop_40 : decode cX5_pop 40 = .ok (.iload_n 1, 1) := by decide +kernel
theorem dX5_pop_41 : decode cX5_pop 41 = .ok (.invokevirtual 68, 3) := by decide +kernel
theorem dX5_pop_44 : decode cX5_pop 44 = .ok (.iload_n 1, 1) := by decide +kernel
theorem dX5_pop_45 : decode cX5_pop 45 = .ok (.ireturn, 1) := by decide +kernel
theorem dX5_change_0 : decode cX5_change 0 = .ok (.aload_n 0, 1) := by decide +kernel
theorem dX5_change_1 : decode cX5_change 1 = .ok (.iload_n 1, 1) := by decide +kernel
theorem dX5_change_2 : decode cX5_change 2 = .ok (.invokevirtual 83, 3) := by decide +kernel
theorem dX5_change_5 : decode cX5_change 5 = .ok (.ifCond .eq 10, 3) := by decide +kernel
theorem dX5_change_8 : decode cX5_change 8 = .ok (.iload_n 2, 1) := by decide +kernel
theorem dX5_change_9 : decode cX5_change 9 = .ok (.invokestatic 60, 3) := by decide +kernel
theorem dX5_change_12 : decode cX5_change 12 = .ok (.ifCond .ne 5, 3) := by decide +kernel
theorem dX5_change_15 : decode cX5_change 15 = .ok (.iconst (-1), 1) := by decide +kernel
theorem dX5_change_16 : decode cX5_change 16 = .ok (.ireturn, 1) := by decide +kernel
theorem dX5_change_17 : decode cX5_change 17 = .ok (.aload_n 0, 1) := by decide +kernel
theorem dX5_change_18 : decode cX5_change 18 = .ok (.getfield 12, 3) := by decide +kernel
theorem dX5_change_21 : decode cX5_change 21 = .ok (.getfield 86, 3) := by decide +kernel
theorem dX5_change_24 : decode cX5_change 24 = .ok (.iload_n 1, 1) := by decide +kernel
theorem dX5_change_25 : decode cX5_change 25 = .ok (.iaload, 1) := by decide +kernel
theorem dX5_change_26 : decode cX5_change 26 = .ok (.istore_n 3, 1) := by decide +kernel
theorem dX5_change_27 : decode cX5_change 27 = .ok (.iload_n 3, 1) := by decide +kernel
theorem dX5_change_28 : decode cX5_change 28 = .ok (.iload_n 2, 1) := by decide +kernel
theorem dX5_change_29 : decode cX5_change 29 = .ok (.if_icmp .ne 6, 3) := by decide +kernel
theorem dX5_change_32 : decode cX5_change 32 = .ok (.bipush (-2), 2) := by decide +kernel
theorem dX5_change_34 : decode cX5_change 34 = .ok (.ireturn, 1) := by decide +kernel
theorem dX5_change_35 : decode cX5_change 35 = .ok (.aload_n 0, 1) := by decide +kernel
theorem dX5_change_36 : decode cX5_change 36 = .ok (.getfield 12, 3) := by decide +kernel
theorem dX5_change_39 : decode cX5_change 39 = .ok (.iload_n 1, 1) := by decide +kernel
theorem dX5_change_40 : decode cX5_change 40 = .ok (.iload_n 2, 1) := by decide +kernel
theorem dX5_change_41 : decode cX5_change 41 = .ok (.invokevirtual 89, 3) := by decide +kernel
theorem dX5_change_44 : decode cX5_change 44 = .ok (.aload_n 0, 1) := by decide +kernel
theorem dX5_change_45 : decode cX5_change 45 = .ok (.getfield 22, 3) := by decide +kernel
theorem dX5_change_48 : decode cX5_change 48 = .ok (.iconst 2, 1) := by decide +kernel
theorem dX5_change_49 : decode cX5_change 49 = .ok (.iload_n 1, 1) := by decide +kernel
theorem dX5_change_50 : decode cX5_change 50 = .ok (.iload_n 3, 1) := by decide +kernel
theorem dX5_change_51 : decode cX5_change 51 = .ok (.invokevirtual 68, 3) := by decide +kernel
theorem dX5_change_54 : decode cX5_change 54 = .ok (.iload_n 3, 1) := by decide +kernel
theorem dX5_change_55 : decode cX5_change 55 = .ok (.ireturn, 1) := by decide +kernel
theorem dX5_undo_0 : decode cX5_undo 0 = .ok (.aload_n 0, 1) := by decide +kernel
theorem dX5_undo_1 : decode cX5_undo 1 = .ok (.getfield 22, 3) := by decide +kernel
theorem dX5_undo_4 : decode cX5_undo 4 = .ok (.getfield 93, 3) := by decide +kernel
theorem dX5_undo_7 : decode cX5_undo 7 = .ok (.ifCond .ne 6, 3) := by decide +kernel
theorem dX5_undo_10 : decode cX5_undo 10 = .ok (.bipush (-4), 2) := by decide +kernel
theorem dX5_undo_12 : decode cX5_undo 12 = .ok (.ireturn, 1) := by decide +kernel
theorem dX5_undo_13 : decode cX5_undo 13 = .ok (.aload_n 0, 1) := by decide +kernel
theorem dX5_undo_14 : decode cX5_undo 14 = .ok (.getfield 22, 3) := by decide +kernel
theorem dX5_undo_17 : decode cX5_undo 17 = .ok (.aload_n 0, 1) := by decide +kernel
theorem dX5_undo_18 : decode cX5_undo 18 = .ok (.getfield 12, 3) := by decide +kernel
theorem dX5_undo_21 : decode cX5_undo 21 = .ok (.invokevirtual 94, 3) := by decide +kernel
theorem dX5_undo_24 : decode cX5_undo 24 = .ok (.aload_n 0, 1) := by decide +kernel
theorem dX5_undo_25 : decode cX5_undo 25 = .ok (.getfield 22, 3) := by decide +kernel
theorem dX5_undo_28 : decode cX5_undo 28 = .ok (.getfield 93, 3) := by decide +kernel
theorem dX5_undo_31 : decode cX5_undo 31 = .ok (.ireturn, 1) := by decide +kernel
theorem dX5_letter_0 : decode cX5_letter 0 = .ok (.aload_n 0, 1) := by decide +kernel
theorem dX5_letter_1 : decode cX5_letter 1 = .ok (.iload_n 1, 1) := by decide +kernel
theorem dX5_letter_2 : decode cX5_letter 2 = .ok (.invokevirtual 83, 3) := by decide +kernel
theorem dX5_letter_5 : decode cX5_letter 5 = .ok (.ifCond .eq 15, 3) := by decide +kernel
theorem dX5_letter_8 : decode cX5_letter 8 = .ok (.aload_n 0, 1) := by decide +kernel
theorem dX5_letter_9 : decode cX5_letter 9 = .ok (.getfield 12, 3) := by decide +kernel
theorem dX5_letter_12 : decode cX5_letter 12 = .ok (.getfield 86, 3) := by decide +kernel
theorem dX5_letter_15 : decode cX5_letter 15 = .ok (.iload_n 1, 1) := by decide +kernel
theorem dX5_letter_16 : decode cX5_letter 16 = .ok (.iaload, 1) := by decide +kernel
theorem dX5_letter_17 : decode cX5_letter 17 = .ok (.goto 4, 3) := by decide +kernel
theorem dX5_letter_20 : decode cX5_letter 20 = .ok (.iconst (-1), 1) := by decide +kernel
theorem dX5_letter_21 : decode cX5_letter 21 = .ok (.ireturn, 1) := by decide +kernel
theorem dX5_node_0 : decode cX5_node 0 = .ok (.aload_n 0, 1) := by decide +kernel
theorem dX5_node_1 : decode cX5_node 1 = .ok (.iload_n 1, 1) := by decide +kernel
theorem dX5_node_2 : decode cX5_node 2 = .ok (.invokevirtual 98, 3) := by decide +kernel
theorem dX5_node_5 : decode cX5_node 5 = .ok (.ifCond .ne 5, 3) := by decide +kernel
theorem dX5_node_8 : decode cX5_node 8 = .ok (.iconst (-1), 1) := by decide +kernel
theorem dX5_node_9 : decode cX5_node 9 = .ok (.ireturn, 1) := by decide +kernel
theorem dX5_node_10 : decode cX5_node 10 = .ok (.iload_n 2, 1) := by decide +kernel
theorem dX5_node_11 : decode cX5_node 11 = .ok (.tableswitch 153 0 7 #[45, 55, 64, 73, 105, 118, 127, 140], 45) := by decide +kernel
theorem dX5_node_56 : decode cX5_node 56 = .ok (.aload_n 0, 1) := by decide +kernel
theorem dX5_node_57 : decode cX5_node 57 = .ok (.getfield 12, 3) := by decide +kernel
theorem dX5_node_60 : decode cX5_node 60 = .ok (.getfield 101, 3) := by decide +kernel
theorem dX5_node_63 : decode cX5_node 63 = .ok (.iload_n 1, 1) := by decide +kernel
theorem dX5_node_64 : decode cX5_node 64 = .ok (.iaload, 1) := by decide +kernel
theorem dX5_node_65 : decode cX5_node 65 = .ok (.ireturn, 1) := by decide +kernel
theorem dX5_node_66 : decode cX5_node 66 = .ok (.aload_n 0, 1) := by decide +kernel
theorem dX5_node_67 : decode cX5_node 67 = .ok (.getfield 12, 3) := by decide +kernel
theorem dX5_node_70 : decode cX5_node 70 = .ok (.iload_n 1, 1) := by decide +kernel
theorem dX5_node_71 : decode cX5_node 71 = .ok (.invokevirtual 104, 3) := by decide +kernel
theorem dX5_node_74 : decode cX5_node 74 = .ok (.ireturn, 1) := by decide +kernel
theorem dX5_node_75 : decode cX5_node 75 = .ok (.aload_n 0, 1) := by decide +kernel
theorem dX5_node_76 : decode cX5_node 76 = .ok (.getfield 12, 3) := by decide +kernel
theorem dX5_node_79 : decode cX5_node 79 = .ok (.iload_n 1, 1) := by decide +kernel
theorem dX5_node_80 : decode cX5_node 80 = .ok (.invokevirtual 107, 3) := by decide +kernel
theorem dX5_node_83 : decode cX5_node 83 = .ok (.ireturn, 1) := by decide +kernel
theorem dX5_node_84 : decode cX5_node 84 = .ok (.aload_n 0, 1) := by decide +kernel
theorem dX5_node_85 : decode cX5_node 85 = .ok (.getfield 12, 3) := by decide +kernel
theorem dX5_node_88 : decode cX5_node 88 = .ok (.aload_n 0, 1) := by decide +kernel
theorem dX5_node_89 : decode cX5_node 89 = .ok (.getfield 12, 3) := by decide +kernel
theorem dX5_node_92 : decode cX5_node 92 = .ok (.getfield 86, 3) := by decide +kernel
theorem dX5_node_95 : decode cX5_node 95 = .ok (.aload_n 0, 1) := by decide +kernel
theorem dX5_node_96 : decode cX5_node 96 = .ok (.getfield 12, 3) := by decide +kernel
theorem dX5_node_99 : decode cX5_node 99 = .ok (.iload_n 1, 1) := by decide +kernel
theorem dX5_node_100 : decode cX5_node 100 = .ok (.invokevirtual 104, 3) := by decide +kernel
theorem dX5_node_103 : decode cX5_node 103 = .ok (.aload_n 0, 1) := by decide +kernel
theorem dX5_node_104 : decode cX5_node 104 = .ok (.getfield 12, 3) := by decide +kernel
theorem dX5_node_107 : decode cX5_node 107 = .ok (.getfield 101, 3) := by decide +kernel
theorem dX5_node_110 : decode cX5_node 110 = .ok (.iload_n 1, 1) := by decide +kernel
theorem dX5_node_111 : decode cX5_node 111 = .ok (.iaload, 1) := by decide +kernel
theorem dX5_node_112 : decode cX5_node 112 = .ok (.invokevirtual 110, 3) := by decide +kernel
theorem dX5_node_115 : decode cX5_node 115 = .ok (.ireturn, 1) := by decide +kernel
theorem dX5_node_116 : decode cX5_node 116 = .ok (.aload_n 0, 1) := by decide +kernel
theorem dX5_node_117 : decode cX5_node 117 = .ok (.getfield 12, 3) := by decide +kernel
theorem dX5_node_120 : decode cX5_node 120 = .ok (.getfield 114, 3) := by decide +kernel
theorem dX5_node_123 : decode cX5_node 123 = .ok (.iload_n 1, 1) := by decide +kernel
theorem dX5_node_124 : decode cX5_node 124 = .ok (.iaload, 1) := by decide +kernel
theorem dX5_node_125 : decode cX5_node 125 = .ok (.invokestatic 117, 3) := by decide +kernel
theorem dX5_node_128 : decode cX5_node 128 = .ok (.ireturn, 1) := by decide +kernel
theorem dX5_node_129 : decode cX5_node 129 = .ok (.aload_n 0, 1) := by decide +kernel
theorem dX5_node_130 : decode cX5_node 130 = .ok (.getfield 12, 3) := by decide +kernel
theorem dX5_node_133 : decode cX5_node 133 = .ok (.iload_n 1, 1) := by decide +kernel
theorem dX5_node_134 : decode cX5_node 134 = .ok (.invokevirtual 120, 3) := by decide +kernel
theorem dX5_node_137 : decode cX5_node 137 = .ok (.ireturn, 1) := by decide +kernel
theorem dX5_node_138 : decode cX5_node 138 = .ok (.aload_n 0, 1) := by decide +kernel
theorem dX5_node_139 : decode cX5_node 139 = .ok (.getfield 12, 3) := by decide +kernel
theorem dX5_node_142 : decode cX5_node 142 = .ok (.getfield 123, 3) := by decide +kernel
theorem dX5_node_145 : decode cX5_node 145 = .ok (.iload_n 1, 1) := by decide +kernel
theorem dX5_node_146 : decode cX5_node 146 = .ok (.iaload, 1) := by decide +kernel
theorem dX5_node_147 : decode cX5_node 147 = .ok (.invokestatic 117, 3) := by decide +kernel
theorem dX5_node_150 : decode cX5_node 150 = .ok (.ireturn, 1) := by decide +kernel
theorem dX5_node_151 : decode cX5_node 151 = .ok (.aload_n 0, 1) := by decide +kernel
theorem dX5_node_152 : decode cX5_node 152 = .ok (.getfield 12, 3) := by decide +kernel
theorem dX5_node_155 : decode cX5_node 155 = .ok (.getfield 126, 3) := by decide +kernel
theorem dX5_node_158 : decode cX5_node 158 = .ok (.iload_n 1, 1) := by decide +kernel
theorem dX5_node_159 : decode cX5_node 159 = .ok (.iaload, 1) := by decide +kernel
theorem dX5_node_160 : decode cX5_node 160 = .ok (.invokestatic 117, 3) := by decide +kernel
theorem dX5_node_163 : decode cX5_node 163 = .ok (.ireturn, 1) := by decide +kernel
theorem dX5_node_164 : decode cX5_node 164 = .ok (.iconst (-1), 1) := by decide +kernel
theorem dX5_node_165 : decode cX5_node 165 = .ok (.ireturn, 1) := by decide +kernel
theorem dX5_keep_0 : decode cX5_keep 0 = .ok (.iload_n 1, 1) := by decide +kernel
theorem dX5_keep_1 : decode cX5_keep 1 = .ok (.iconst 0, 1) := by decide +kernel
theorem dX5_keep_2 : decode cX5_keep 2 = .ok (.iconst 1, 1) := by decide +kernel
theorem dX5_keep_3 : decode cX5_keep 3 = .ok (.invokestatic 129, 3) := by decide +kernel
theorem dX5_keep_6 : decode cX5_keep 6 = .ok (.ifCond .ne 5, 3) := by decide +kernel
theorem dX5_keep_9 : decode cX5_keep 9 = .ok (.iconst (-1), 1) := by decide +kernel
theorem dX5_keep_10 : decode cX5_keep 10 = .ok (.ireturn, 1) := by decide +kernel
theorem dX5_keep_11 : decode cX5_keep 11 = .ok (.aload_n 0, 1) := by decide +kernel
theorem dX5_keep_12 : decode cX5_keep 12 = .ok (.getfield 35, 3) := by decide +kernel
theorem dX5_keep_15 : decode cX5_keep 15 = .ok (.iload_n 1, 1) := by decide +kernel
theorem dX5_keep_16 : decode cX5_keep 16 = .ok (.aaload, 1) := by decide +kernel
theorem dX5_keep_17 : decode cX5_keep 17 = .ok (.aload_n 0, 1) := by decide +kernel
theorem dX5_keep_18 : decode cX5_keep 18 = .ok (.getfield 12, 3) := by decide +kernel
theorem dX5_keep_21 : decode cX5_keep 21 = .ok (.getfield 86, 3) := by decide +kernel
theorem dX5_keep_24 : decode cX5_keep 24 = .ok (.aload_n 0, 1) := by decide +kernel
theorem dX5_keep_25 : decode cX5_keep 25 = .ok (.getfield 12, 3) := by decide +kernel
theorem dX5_keep_28 : decode cX5_keep 28 = .ok (.getfield 64, 3) := by decide +kernel
theorem dX5_keep_31 : decode cX5_keep 31 = .ok (.invokevirtual 133, 3) := by decide +kernel
theorem dX5_keep_34 : decode cX5_keep 34 = .ok (.aload_n 0, 1) := by decide +kernel
theorem dX5_keep_35 : decode cX5_keep 35 = .ok (.getfield 12, 3) := by decide +kernel
theorem dX5_keep_38 : decode cX5_keep 38 = .ok (.getfield 64, 3) := by decide +kernel
theorem dX5_keep_41 : decode cX5_keep 41 = .ok (.ireturn, 1) := by decide +kernel
theorem dX5_back_0 : decode cX5_back 0 = .ok (.iload_n 1, 1) := by decide +kernel
theorem dX5_back_1 : decode cX5_back 1 = .ok (.iconst 0, 1) := by decide +kernel
theorem dX5_back_2 : decode cX5_back 2 = .ok (.iconst 1, 1) := by decide +kernel
theorem dX5_back_3 : decode cX5_back 3 = .ok (.invokestatic 129, 3) := by decide +kernel
theorem dX5_back_6 : decode cX5_back 6 = .ok (.ifCond .ne 5, 3) := by decide +kernel
theorem dX5_back_9 : decode cX5_back 9 = .ok (.iconst (-1), 1) := by decide +kernel
theorem dX5_back_10 : decode cX5_back 10 = .ok (.ireturn, 1) := by decide +kernel
theorem dX5_back_11 : decode cX5_back 11 = .ok (.aload_n 0, 1) := by decide +kernel
theorem dX5_back_12 : decode cX5_back 12 = .ok (.getfield 35, 3) := by decide +kernel
theorem dX5_back_15 : decode cX5_back 15 = .ok (.iload_n 1, 1) := by decide +kernel
theorem dX5_back_16 : decode cX5_back 16 = .ok (.aaload, 1) := by decide +kernel
theorem dX5_back_17 : decode cX5_back 17 = .ok (.astore_n 2, 1) := by decide +kernel
theorem dX5_back_18 : decode cX5_back 18 = .ok (.aload_n 2, 1) := by decide +kernel
theorem dX5_back_19 : decode cX5_back 19 = .ok (.getfield 137, 3) := by decide +kernel
theorem dX5_back_22 : decode cX5_back 22 = .ok (.iconst (-1), 1) := by decide +kernel
theorem dX5_back_23 : decode cX5_back 23 = .ok (.if_icmp .ne 6, 3) := by decide +kernel
theorem dX5_back_26 : decode cX5_back 26 = .ok (.bipush (-2), 2) := by decide +kernel
theorem dX5_back_28 : decode cX5_back 28 = .ok (.ireturn, 1) := by decide +kernel
theorem dX5_back_29 : decode cX5_back 29 = .ok (.aload_n 0, 1) := by decide +kernel
theorem dX5_back_30 : decode cX5_back 30 = .ok (.getfield 12, 3) := by decide +kernel
theorem dX5_back_33 : decode cX5_back 33 = .ok (.aload_n 2, 1) := by decide +kernel
theorem dX5_back_34 : decode cX5_back 34 = .ok (.getfield 138, 3) := by decide +kernel
theorem dX5_back_37 : decode cX5_back 37 = .ok (.iconst 0, 1) := by decide +kernel
theorem dX5_back_38 : decode cX5_back 38 = .ok (.aload_n 2, 1) := by decide +kernel
theorem dX5_back_39 : decode cX5_back 39 = .ok (.getfield 137, 3) := by decide +kernel
theorem dX5_back_42 : decode cX5_back 42 = .ok (.invokevirtual 141, 3) := by decide +kernel
theorem dX5_back_45 : decode cX5_back 45 = .ok (.aload_n 0, 1) := by decide +kernel
theorem dX5_back_46 : decode cX5_back 46 = .ok (.getfield 22, 3) := by decide +kernel
theorem dX5_back_49 : decode cX5_back 49 = .ok (.invokevirtual 145, 3) := by decide +kernel
theorem dX5_back_52 : decode cX5_back 52 = .ok (.aload_n 0, 1) := by decide +kernel
theorem dX5_back_53 : decode cX5_back 53 = .ok (.getfield 12, 3) := by decide +kernel
theorem dX5_back_56 : decode cX5_back 56 = .ok (.getfield 64, 3) := by decide +kernel
theorem dX5_back_59 : decode cX5_back 59 = .ok (.ireturn, 1) := by decide +kernel
theorem dX5_common_0 : decode cX5_common 0 = .ok (.iload_n 1, 1) := by decide +kernel
theorem dX5_common_1 : decode cX5_common 1 = .ok (.iconst 0, 1) := by decide +kernel
theorem dX5_common_2 : decode cX5_common 2 = .ok (.iconst 1, 1) := by decide +kernel
theorem dX5_common_3 : decode cX5_common 3 = .ok (.invokestatic 129, 3) := by decide +kernel
theorem dX5_common_6 : decode cX5_common 6 = .ok (.ifCond .eq 12, 3) := by decide +kernel
theorem dX5_common_9 : decode cX5_common 9 = .ok (.iload_n 2, 1) := by decide +kernel
theorem dX5_common_10 : decode cX5_common 10 = .ok (.iconst 0, 1) := by decide +kernel
theorem dX5_common_11 : decode cX5_common 11 = .ok (.iconst 1, 1) := by decide +kernel
theorem dX5_common_12 : decode cX5_common 12 = .ok (.invokestatic 129, 3) := by decide +kernel
theorem dX5_common_15 : decode cX5_common 15 = .ok (.ifCond .ne 5, 3) := by decide +kernel
theorem dX5_common_18 : decode cX5_common 18 = .ok (.iconst (-1), 1) := by decide +kernel
theorem dX5_common_19 : decode cX5_common 19 = .ok (.ireturn, 1) := by decide +kernel
theorem dX5_common_20 : decode cX5_common 20 = .ok (.aload_n 0, 1) := by decide +kernel
theorem dX5_common_21 : decode cX5_common 21 = .ok (.getfield 35, 3) := by decide +kernel
theorem dX5_common_24 : decode cX5_common 24 = .ok (.iload_n 1, 1) := by decide +kernel
theorem dX5_common_25 : decode cX5_common 25 = .ok (.aaload, 1) := by decide +kernel
theorem dX5_common_26 : decode cX5_common 26 = .ok (.astore_n 3, 1) := by decide +kernel
theorem dX5_common_27 : decode cX5_common 27 = .ok (.aload_n 3, 1) := by decide +kernel
theorem dX5_common_28 : decode cX5_common 28 = .ok (.getfield 137, 3) := by decide +kernel
theorem dX5_common_31 : decode cX5_common 31 = .ok (.iconst (-1), 1) := by decide +kernel
theorem dX5_common_32 : decode cX5_common 32 = .ok (.if_icmp .ne 6, 3) := by decide +kernel
theorem dX5_common_35 : decode cX5_common 35 = .ok (.bipush (-2), 2) := by decide +kernel
theorem dX5_common_37 : decode cX5_common 37 = .ok (.ireturn, 1) := by decide +kernel
theorem dX5_common_38 : decode cX5_common 38 = .ok (.aload_n 0, 1) := by decide +kernel
theorem dX5_common_39 : decode cX5_common 39 = .ok (.getfield 16, 3) := by decide +kernel
theorem dX5_common_42 : decode cX5_common 42 = .ok (.aload_n 3, 1) := by decide +kernel
theorem dX5_common_43 : decode cX5_common 43 = .ok (.getfield 138, 3) := by decide +kernel
theorem dX5_common_46 : decode cX5_common 46 = .ok (.iconst 0, 1) := by decide +kernel
theorem dX5_common_47 : decode cX5_common 47 = .ok (.aload_n 3, 1) := by decide +kernel
theorem dX5_common_48 : decode cX5_common 48 = .ok (.getfield 137, 3) := by decide +kernel
theorem dX5_common_51 : decode cX5_common 51 = .ok (.invokevirtual 141, 3) := by decide +kernel
theorem dX5_common_54 : decode cX5_common 54 = .ok (.iconst 0, 1) := by decide +kernel
theorem dX5_common_55 : decode cX5_common 55 = .ok (.istore 4, 2) := by decide +kernel
theorem dX5_common_57 : decode cX5_common 57 = .ok (.iconst 0, 1) := by decide +kernel
theorem dX5_common_58 : decode cX5_common 58 = .ok (.istore 5, 2) := by decide +kernel
theorem dX5_common_60 : decode cX5_common 60 = .ok (.iconst 0, 1) := by decide +kernel
theorem dX5_common_61 : decode cX5_common 61 = .ok (.istore 6, 2) := by decide +kernel
theorem dX5_common_63 : decode cX5_common 63 = .ok (.iload 6, 2) := by decide +kernel
theorem dX5_common_65 : decode cX5_common 65 = .ok (.aload_n 0, 1) := by decide +kernel
theorem dX5_common_66 : decode cX5_common 66 = .ok (.getfield 16, 3) := by decide +kernel
theorem dX5_common_69 : decode cX5_common 69 = .ok (.getfield 148, 3) := by decide +kernel
theorem dX5_common_72 : decode cX5_common 72 = .ok (.if_icmp .ge 62, 3) := by decide +kernel
theorem dX5_common_75 : decode cX5_common 75 = .ok (.aload_n 0, 1) := by decide +kernel
theorem dX5_common_76 : decode cX5_common 76 = .ok (.getfield 16, 3) := by decide +kernel
theorem dX5_common_79 : decode cX5_common 79 = .ok (.getfield 101, 3) := by decide +kernel
theorem dX5_common_82 : decode cX5_common 82 = .ok (.iload 6, 2) := by decide +kernel
theorem dX5_common_84 : decode cX5_common 84 = .ok (.iaload, 1) := by decide +kernel
theorem dX5_common_85 : decode cX5_common 85 = .ok (.istore 7, 2) := by decide +kernel
theorem dX5_common_87 : decode cX5_common 87 = .ok (.aload_n 0, 1) := by decide +kernel
theorem dX5_common_88 : decode cX5_common 88 = .ok (.getfield 12, 3) := by decide +kernel
theorem dX5_common_91 : decode cX5_common 91 = .ok (.aload_n 0, 1) := by decide +kernel
theorem dX5_common_92 : decode cX5_common 92 = .ok (.getfield 16, 3) := by decide +kernel
theorem dX5_common_95 : decode cX5_common 95 = .ok (.getfield 86, 3) := by decide +kernel
theorem dX5_common_98 : decode cX5_common 98 = .ok (.aload_n 0, 1) := by decide +kernel
theorem dX5_common_99 : decode cX5_common 99 = .ok (.getfield 16, 3) := by decide +kernel
theorem dX5_common_102 : decode cX5_common 102 = .ok (.iload 6, 2) := by decide +kernel
theorem dX5_common_104 : decode cX5_common 104 = .ok (.invokevirtual 104, 3) := by decide +kernel
theorem dX5_common_107 : decode cX5_common 107 = .ok (.iload 7, 2) := by decide +kernel
theorem dX5_common_109 : decode cX5_common 109 = .ok (.invokevirtual 151, 3) := by decide +kernel
theorem dX5_common_112 : decode cX5_common 112 = .ok (.iconst (-1), 1) := by decide +kernel
theorem dX5_common_113 : decode cX5_common 113 = .ok (.if_icmp .eq 15, 3) := by decide +kernel
theorem dX5_common_116 : decode cX5_common 116 = .ok (.iinc 4 1, 3) := by decide +kernel
theorem dX5_common_119 : decode cX5_common 119 = .ok (.iload 5, 2) := by decide +kernel
theorem dX5_common_121 : decode cX5_common 121 = .ok (.iload 7, 2) := by decide +kernel
theorem dX5_common_123 : decode cX5_common 123 = .ok (.invokestatic 154, 3) := by decide +kernel
theorem dX5_common_126 : decode cX5_common 126 = .ok (.istore 5, 2) := by decide +kernel
theorem dX5_common_128 : decode cX5_common 128 = .ok (.iinc 6 1, 3) := by decide +kernel
theorem dX5_common_131 : decode cX5_common 131 = .ok (.goto (-68), 3) := by decide +kernel
theorem dX5_common_134 : decode cX5_common 134 = .ok (.iload_n 2, 1) := by decide +kernel
theorem dX5_common_135 : decode cX5_common 135 = .ok (.ifCond .ne 8, 3) := by decide +kernel
theorem dX5_common_138 : decode cX5_common 138 = .ok (.iload 4, 2) := by decide +kernel
theorem dX5_common_140 : decode cX5_common 140 = .ok (.goto 5, 3) := by decide +kernel
theorem dX5_common_143 : decode cX5_common 143 = .ok (.iload 5, 2) := by decide +kernel
theorem dX5_common_145 : decode cX5_common 145 = .ok (.ireturn, 1) := by decide +kernel
theorem dX5_ends_0 : decode cX5_ends 0 = .ok (.aload_n 0, 1) := by decide +kernel
theorem dX5_ends_1 : decode cX5_ends 1 = .ok (.iload_n 1, 1) := by decide +kernel
theorem dX5_ends_2 : decode cX5_ends 2 = .ok (.invokevirtual 83, 3) := by decide +kernel
theorem dX5_ends_5 : decode cX5_ends 5 = .ok (.ifCond .eq 8, 3) := by decide +kernel
theorem dX5_ends_8 : decode cX5_ends 8 = .ok (.iload_n 2, 1) := by decide +kernel
theorem dX5_ends_9 : decode cX5_ends 9 = .ok (.iconst (-1), 1) := by decide +kernel
theorem dX5_ends_10 : decode cX5_ends 10 = .ok (.if_icmp .ge 5, 3) := by decide +kernel
theorem dX5_ends_13 : decode cX5_ends 13 = .ok (.iconst (-1), 1) := by decide +kernel
theorem dX5_ends_14 : decode cX5_ends 14 = .ok (.ireturn, 1) := by decide +kernel
theorem dX5_ends_15 : decode cX5_ends 15 = .ok (.aload_n 0, 1) := by decide +kernel
theorem dX5_ends_16 : decode cX5_ends 16 = .ok (.getfield 12, 3) := by decide +kernel
theorem dX5_ends_19 : decode cX5_ends 19 = .ok (.getfield 160, 3) := by decide +kernel
theorem dX5_ends_22 : decode cX5_ends 22 = .ok (.iload_n 1, 1) := by decide +kernel
theorem dX5_ends_23 : decode cX5_ends 23 = .ok (.iaload, 1) := by decide +kernel
theorem dX5_ends_24 : decode cX5_ends 24 = .ok (.istore_n 3, 1) := by decide +kernel
theorem dX5_ends_25 : decode cX5_ends 25 = .ok (.aload_n 0, 1) := by decide +kernel
theorem dX5_ends_26 : decode cX5_ends 26 = .ok (.getfield 12, 3) := by decide +kernel
theorem dX5_ends_29 : decode cX5_ends 29 = .ok (.getfield 163, 3) := by decide +kernel
theorem dX5_ends_32 : decode cX5_ends 32 = .ok (.iload_n 3, 1) := by decide +kernel
theorem dX5_ends_33 : decode cX5_ends 33 = .ok (.iaload, 1) := by decide +kernel
theorem dX5_ends_34 : decode cX5_ends 34 = .ok (.istore 4, 2) := by decide +kernel
theorem dX5_ends_36 : decode cX5_ends 36 = .ok (.iload_n 2, 1) := by decide +kernel
theorem dX5_ends_37 : decode cX5_ends 37 = .ok (.iconst (-1), 1) := by decide +kernel
theorem dX5_ends_38 : decode cX5_ends 38 = .ok (.if_icmp .ne 6, 3) := by decide +kernel
theorem dX5_ends_41 : decode cX5_ends 41 = .ok (.iload 4, 2) := by decide +kernel
theorem dX5_ends_43 : decode cX5_ends 43 = .ok (.ireturn, 1) := by decide +kernel
theorem dX5_ends_44 : decode cX5_ends 44 = .ok (.iload_n 2, 1) := by decide +kernel
theorem dX5_ends_45 : decode cX5_ends 45 = .ok (.iload 4, 2) := by decide +kernel
theorem dX5_ends_47 : decode cX5_ends 47 = .ok (.if_icmp .lt 6, 3) := by decide +kernel
theorem dX5_ends_50 : decode cX5_ends 50 = .ok (.bipush (-4), 2) := by decide +kernel
theorem dX5_ends_52 : decode cX5_ends 52 = .ok (.ireturn, 1) := by decide +kernel
theorem dX5_ends_53 : decode cX5_ends 53 = .ok (.iconst 0, 1) := by decide +kernel
theorem dX5_ends_54 : decode cX5_ends 54 = .ok (.istore 5, 2) := by decide +kernel
theorem dX5_ends_56 : decode cX5_ends 56 = .ok (.iload 5, 2) := by decide +kernel
theorem dX5_ends_58 : decode cX5_ends 58 = .ok (.iload_n 2, 1) := by decide +kernel
theorem dX5_ends_59 : decode cX5_ends 59 = .ok (.if_icmp .ge 19, 3) := by decide +kernel
theorem dX5_ends_62 : decode cX5_ends 62 = .ok (.aload_n 0, 1) := by decide +kernel
theorem dX5_ends_63 : decode cX5_ends 63 = .ok (.getfield 12, 3) := by decide +kernel
theorem dX5_ends_66 : decode cX5_ends 66 = .ok (.getfield 114, 3) := by decide +kernel
theorem dX5_ends_69 : decode cX5_ends 69 = .ok (.iload_n 3, 1) := by decide +kernel
theorem dX5_ends_70 : decode cX5_ends 70 = .ok (.iaload, 1) := by decide +kernel
theorem dX5_ends_71 : decode cX5_ends 71 = .ok (.istore_n 3, 1) := by decide +kernel
theorem dX5_ends_72 : decode cX5_ends 72 = .ok (.iinc 5 1, 3) := by decide +kernel
theorem dX5_ends_75 : decode cX5_ends 75 = .ok (.goto (-19), 3) := by decide +kernel
theorem dX5_ends_78 : decode cX5_ends 78 = .ok (.aload_n 0, 1) := by decide +kernel
theorem dX5_ends_79 : decode cX5_ends 79 = .ok (.getfield 12, 3) := by decide +kernel
theorem dX5_ends_82 : decode cX5_ends 82 = .ok (.getfield 101, 3) := by decide +kernel
theorem dX5_ends_85 : decode cX5_ends 85 = .ok (.iload_n 3, 1) := by decide +kernel
theorem dX5_ends_86 : decode cX5_ends 86 = .ok (.iaload, 1) := by decide +kernel
theorem dX5_ends_87 : decode cX5_ends 87 = .ok (.ireturn, 1) := by decide +kernel
theorem dX5_groups_0 : decode cX5_groups 0 = .ok (.aload_n 0, 1) := by decide +kernel
theorem dX5_groups_1 : decode cX5_groups 1 = .ok (.iload_n 1, 1) := by decide +kernel
theorem dX5_groups_2 : decode cX5_groups 2 = .ok (.invokevirtual 83, 3) := by decide +kernel
theorem dX5_groups_5 : decode cX5_groups 5 = .ok (.ifCond .ne 5, 3) := by decide +kernel
theorem dX5_groups_8 : decode cX5_groups 8 = .ok (.iconst (-1), 1) := by decide +kernel
theorem dX5_groups_9 : decode cX5_groups 9 = .ok (.ireturn, 1) := by decide +kernel
theorem dX5_groups_10 : decode cX5_groups 10 = .ok (.iconst 1, 1) := by decide +kernel
theorem dX5_groups_11 : decode cX5_groups 11 = .ok (.istore_n 2, 1) := by decide +kernel
theorem dX5_groups_12 : decode cX5_groups 12 = .ok (.aload_n 0, 1) := by decide +kernel
theorem dX5_groups_13 : decode cX5_groups 13 = .ok (.getfield 12, 3) := by decide +kernel
theorem dX5_groups_16 : decode cX5_groups 16 = .ok (.getfield 123, 3) := by decide +kernel
theorem dX5_groups_19 : decode cX5_groups 19 = .ok (.aload_n 0, 1) := by decide +kernel
theorem dX5_groups_20 : decode cX5_groups 20 = .ok (.getfield 12, 3) := by decide +kernel
theorem dX5_groups_23 : decode cX5_groups 23 = .ok (.getfield 160, 3) := by decide +kernel
theorem dX5_groups_26 : decode cX5_groups 26 = .ok (.iload_n 1, 1) := by decide +kernel
theorem dX5_groups_27 : decode cX5_groups 27 = .ok (.iaload, 1) := by decide +kernel
theorem dX5_groups_28 : decode cX5_groups 28 = .ok (.iaload, 1) := by decide +kernel
theorem dX5_groups_29 : decode cX5_groups 29 = .ok (.istore_n 3, 1) := by decide +kernel
theorem dX5_groups_30 : decode cX5_groups 30 = .ok (.iconst 0, 1) := by decide +kernel
theorem dX5_groups_31 : decode cX5_groups 31 = .ok (.istore 4, 2) := by decide +kernel
theorem dX5_groups_33 : decode cX5_groups 33 = .ok (.iload 4, 2) := by decide +kernel
theorem dX5_groups_35 : decode cX5_groups 35 = .ok (.bipush 48, 2) := by decide +kernel
theorem dX5_groups_37 : decode cX5_groups 37 = .ok (.if_icmp .ge 28, 3) := by decide +kernel
theorem dX5_groups_40 : decode cX5_groups 40 = .ok (.iload_n 3, 1) := by decide +kernel
theorem dX5_groups_41 : decode cX5_groups 41 = .ok (.bipush 48, 2) := by decide +kernel
theorem dX5_groups_43 : decode cX5_groups 43 = .ok (.if_icmp .ge 22, 3) := by decide +kernel
theorem dX5_groups_46 : decode cX5_groups 46 = .ok (.iinc 2 1, 3) := by decide +kernel
theorem dX5_groups_49 : decode cX5_groups 49 = .ok (.aload_n 0, 1) := by decide +kernel
theorem dX5_groups_50 : decode cX5_groups 50 = .ok (.getfield 12, 3) := by decide +kernel
theorem dX5_groups_53 : decode cX5_groups 53 = .ok (.getfield 123, 3) := by decide +kernel
theorem dX5_groups_56 : decode cX5_groups 56 = .ok (.iload_n 3, 1) := by decide +kernel
theorem dX5_groups_57 : decode cX5_groups 57 = .ok (.iaload, 1) := by decide +kernel
theorem dX5_groups_58 : decode cX5_groups 58 = .ok (.istore_n 3, 1) := by decide +kernel
theorem dX5_groups_59 : decode cX5_groups 59 = .ok (.iinc 4 1, 3) := by decide +kernel
