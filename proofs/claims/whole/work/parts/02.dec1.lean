theorem dX5_groups_62 : decode cX5_groups 62 = .ok (.goto (-29), 3) := by decide +kernel
theorem dX5_groups_65 : decode cX5_groups 65 = .ok (.iload_n 2, 1) := by decide +kernel
theorem dX5_groups_66 : decode cX5_groups 66 = .ok (.ireturn, 1) := by decide +kernel
theorem dX5_cuts_0 : decode cX5_cuts 0 = .ok (.iload_n 1, 1) := by decide +kernel
theorem dX5_cuts_1 : decode cX5_cuts 1 = .ok (.iconst 0, 1) := by decide +kernel
theorem dX5_cuts_2 : decode cX5_cuts 2 = .ok (.aload_n 0, 1) := by decide +kernel
theorem dX5_cuts_3 : decode cX5_cuts 3 = .ok (.getfield 12, 3) := by decide +kernel
theorem dX5_cuts_6 : decode cX5_cuts 6 = .ok (.getfield 64, 3) := by decide +kernel
theorem dX5_cuts_9 : decode cX5_cuts 9 = .ok (.invokestatic 129, 3) := by decide +kernel
theorem dX5_cuts_12 : decode cX5_cuts 12 = .ok (.ifCond .eq 8, 3) := by decide +kernel
theorem dX5_cuts_15 : decode cX5_cuts 15 = .ok (.iload_n 2, 1) := by decide +kernel
theorem dX5_cuts_16 : decode cX5_cuts 16 = .ok (.iconst (-1), 1) := by decide +kernel
theorem dX5_cuts_17 : decode cX5_cuts 17 = .ok (.if_icmp .ge 5, 3) := by decide +kernel
theorem dX5_cuts_20 : decode cX5_cuts 20 = .ok (.iconst (-1), 1) := by decide +kernel
theorem dX5_cuts_21 : decode cX5_cuts 21 = .ok (.ireturn, 1) := by decide +kernel
theorem dX5_cuts_22 : decode cX5_cuts 22 = .ok (.aload_n 0, 1) := by decide +kernel
theorem dX5_cuts_23 : decode cX5_cuts 23 = .ok (.getfield 29, 3) := by decide +kernel
theorem dX5_cuts_26 : decode cX5_cuts 26 = .ok (.aload_n 0, 1) := by decide +kernel
theorem dX5_cuts_27 : decode cX5_cuts 27 = .ok (.getfield 12, 3) := by decide +kernel
theorem dX5_cuts_30 : decode cX5_cuts 30 = .ok (.iload_n 1, 1) := by decide +kernel
theorem dX5_cuts_31 : decode cX5_cuts 31 = .ok (.iconst 0, 1) := by decide +kernel
theorem dX5_cuts_32 : decode cX5_cuts 32 = .ok (.invokevirtual 166, 3) := by decide +kernel
theorem dX5_cuts_35 : decode cX5_cuts 35 = .ok (.aload_n 0, 1) := by decide +kernel
theorem dX5_cuts_36 : decode cX5_cuts 36 = .ok (.getfield 29, 3) := by decide +kernel
theorem dX5_cuts_39 : decode cX5_cuts 39 = .ok (.invokevirtual 170, 3) := by decide +kernel
theorem dX5_cuts_42 : decode cX5_cuts 42 = .ok (.istore_n 3, 1) := by decide +kernel
theorem dX5_cuts_43 : decode cX5_cuts 43 = .ok (.iload_n 2, 1) := by decide +kernel
theorem dX5_cuts_44 : decode cX5_cuts 44 = .ok (.iconst (-1), 1) := by decide +kernel
theorem dX5_cuts_45 : decode cX5_cuts 45 = .ok (.if_icmp .ne 5, 3) := by decide +kernel
theorem dX5_cuts_48 : decode cX5_cuts 48 = .ok (.iload_n 3, 1) := by decide +kernel
theorem dX5_cuts_49 : decode cX5_cuts 49 = .ok (.ireturn, 1) := by decide +kernel
theorem dX5_cuts_50 : decode cX5_cuts 50 = .ok (.iload_n 2, 1) := by decide +kernel
theorem dX5_cuts_51 : decode cX5_cuts 51 = .ok (.iload_n 3, 1) := by decide +kernel
theorem dX5_cuts_52 : decode cX5_cuts 52 = .ok (.if_icmp .ge 14, 3) := by decide +kernel
theorem dX5_cuts_55 : decode cX5_cuts 55 = .ok (.aload_n 0, 1) := by decide +kernel
theorem dX5_cuts_56 : decode cX5_cuts 56 = .ok (.getfield 29, 3) := by decide +kernel
theorem dX5_cuts_59 : decode cX5_cuts 59 = .ok (.iload_n 2, 1) := by decide +kernel
theorem dX5_cuts_60 : decode cX5_cuts 60 = .ok (.invokevirtual 173, 3) := by decide +kernel
theorem dX5_cuts_63 : decode cX5_cuts 63 = .ok (.goto 5, 3) := by decide +kernel
theorem dX5_cuts_66 : decode cX5_cuts 66 = .ok (.bipush (-4), 2) := by decide +kernel
theorem dX5_cuts_68 : decode cX5_cuts 68 = .ok (.ireturn, 1) := by decide +kernel
theorem dX5_evens_0 : decode cX5_evens 0 = .ok (.iload_n 1, 1) := by decide +kernel
theorem dX5_evens_1 : decode cX5_evens 1 = .ok (.iconst 0, 1) := by decide +kernel
theorem dX5_evens_2 : decode cX5_evens 2 = .ok (.aload_n 0, 1) := by decide +kernel
theorem dX5_evens_3 : decode cX5_evens 3 = .ok (.getfield 12, 3) := by decide +kernel
theorem dX5_evens_6 : decode cX5_evens 6 = .ok (.getfield 64, 3) := by decide +kernel
theorem dX5_evens_9 : decode cX5_evens 9 = .ok (.invokestatic 129, 3) := by decide +kernel
theorem dX5_evens_12 : decode cX5_evens 12 = .ok (.ifCond .ne 5, 3) := by decide +kernel
theorem dX5_evens_15 : decode cX5_evens 15 = .ok (.iconst (-1), 1) := by decide +kernel
theorem dX5_evens_16 : decode cX5_evens 16 = .ok (.ireturn, 1) := by decide +kernel
theorem dX5_evens_17 : decode cX5_evens 17 = .ok (.aload_n 0, 1) := by decide +kernel
theorem dX5_evens_18 : decode cX5_evens 18 = .ok (.getfield 29, 3) := by decide +kernel
theorem dX5_evens_21 : decode cX5_evens 21 = .ok (.aload_n 0, 1) := by decide +kernel
theorem dX5_evens_22 : decode cX5_evens 22 = .ok (.getfield 12, 3) := by decide +kernel
theorem dX5_evens_25 : decode cX5_evens 25 = .ok (.iload_n 1, 1) := by decide +kernel
theorem dX5_evens_26 : decode cX5_evens 26 = .ok (.iconst 1, 1) := by decide +kernel
theorem dX5_evens_27 : decode cX5_evens 27 = .ok (.invokevirtual 166, 3) := by decide +kernel
theorem dX5_evens_30 : decode cX5_evens 30 = .ok (.aload_n 0, 1) := by decide +kernel
theorem dX5_evens_31 : decode cX5_evens 31 = .ok (.getfield 29, 3) := by decide +kernel
theorem dX5_evens_34 : decode cX5_evens 34 = .ok (.invokevirtual 170, 3) := by decide +kernel
theorem dX5_evens_37 : decode cX5_evens 37 = .ok (.istore_n 2, 1) := by decide +kernel
theorem dX5_evens_38 : decode cX5_evens 38 = .ok (.iload_n 2, 1) := by decide +kernel
theorem dX5_evens_39 : decode cX5_evens 39 = .ok (.sipush 1000, 3) := by decide +kernel
theorem dX5_evens_42 : decode cX5_evens 42 = .ok (.if_icmp .ge 7, 3) := by decide +kernel
theorem dX5_evens_45 : decode cX5_evens 45 = .ok (.iload_n 2, 1) := by decide +kernel
theorem dX5_evens_46 : decode cX5_evens 46 = .ok (.goto 5, 3) := by decide +kernel
theorem dX5_evens_49 : decode cX5_evens 49 = .ok (.bipush (-4), 2) := by decide +kernel
theorem dX5_evens_51 : decode cX5_evens 51 = .ok (.ireturn, 1) := by decide +kernel
theorem dX5_in_0 : decode cX5_in 0 = .ok (.iload_n 1, 1) := by decide +kernel
theorem dX5_in_1 : decode cX5_in 1 = .ok (.ifCond .lt 28, 3) := by decide +kernel
theorem dX5_in_4 : decode cX5_in 4 = .ok (.iload_n 2, 1) := by decide +kernel
theorem dX5_in_5 : decode cX5_in 5 = .ok (.iload_n 1, 1) := by decide +kernel
theorem dX5_in_6 : decode cX5_in 6 = .ok (.if_icmp .lt 23, 3) := by decide +kernel
theorem dX5_in_9 : decode cX5_in 9 = .ok (.iload_n 2, 1) := by decide +kernel
theorem dX5_in_10 : decode cX5_in 10 = .ok (.aload_n 0, 1) := by decide +kernel
theorem dX5_in_11 : decode cX5_in 11 = .ok (.getfield 12, 3) := by decide +kernel
theorem dX5_in_14 : decode cX5_in 14 = .ok (.getfield 64, 3) := by decide +kernel
theorem dX5_in_17 : decode cX5_in 17 = .ok (.if_icmp .gt 12, 3) := by decide +kernel
theorem dX5_in_20 : decode cX5_in 20 = .ok (.iload_n 3, 1) := by decide +kernel
theorem dX5_in_21 : decode cX5_in 21 = .ok (.iconst 0, 1) := by decide +kernel
theorem dX5_in_22 : decode cX5_in 22 = .ok (.iconst 2, 1) := by decide +kernel
theorem dX5_in_23 : decode cX5_in 23 = .ok (.invokestatic 129, 3) := by decide +kernel
theorem dX5_in_26 : decode cX5_in 26 = .ok (.ifCond .ne 5, 3) := by decide +kernel
theorem dX5_in_29 : decode cX5_in 29 = .ok (.iconst (-1), 1) := by decide +kernel
theorem dX5_in_30 : decode cX5_in 30 = .ok (.ireturn, 1) := by decide +kernel
theorem dX5_in_31 : decode cX5_in 31 = .ok (.aload_n 0, 1) := by decide +kernel
theorem dX5_in_32 : decode cX5_in 32 = .ok (.getfield 16, 3) := by decide +kernel
theorem dX5_in_35 : decode cX5_in 35 = .ok (.aload_n 0, 1) := by decide +kernel
theorem dX5_in_36 : decode cX5_in 36 = .ok (.getfield 12, 3) := by decide +kernel
theorem dX5_in_39 : decode cX5_in 39 = .ok (.getfield 86, 3) := by decide +kernel
theorem dX5_in_42 : decode cX5_in 42 = .ok (.iload_n 1, 1) := by decide +kernel
theorem dX5_in_43 : decode cX5_in 43 = .ok (.iload_n 2, 1) := by decide +kernel
theorem dX5_in_44 : decode cX5_in 44 = .ok (.invokevirtual 141, 3) := by decide +kernel
theorem dX5_in_47 : decode cX5_in 47 = .ok (.iload_n 3, 1) := by decide +kernel
theorem dX5_in_48 : decode cX5_in 48 = .ok (.iconst 2, 1) := by decide +kernel
theorem dX5_in_49 : decode cX5_in 49 = .ok (.if_icmp .ne 11, 3) := by decide +kernel
theorem dX5_in_52 : decode cX5_in 52 = .ok (.aload_n 0, 1) := by decide +kernel
theorem dX5_in_53 : decode cX5_in 53 = .ok (.getfield 16, 3) := by decide +kernel
theorem dX5_in_56 : decode cX5_in 56 = .ok (.getfield 148, 3) := by decide +kernel
theorem dX5_in_59 : decode cX5_in 59 = .ok (.ireturn, 1) := by decide +kernel
theorem dX5_in_60 : decode cX5_in 60 = .ok (.aload_n 0, 1) := by decide +kernel
theorem dX5_in_61 : decode cX5_in 61 = .ok (.getfield 16, 3) := by decide +kernel
theorem dX5_in_64 : decode cX5_in 64 = .ok (.invokevirtual 176, 3) := by decide +kernel
theorem dX5_in_67 : decode cX5_in 67 = .ok (.istore 4, 2) := by decide +kernel
theorem dX5_in_69 : decode cX5_in 69 = .ok (.iload_n 3, 1) := by decide +kernel
theorem dX5_in_70 : decode cX5_in 70 = .ok (.ifCond .ne 24, 3) := by decide +kernel
theorem dX5_in_73 : decode cX5_in 73 = .ok (.iload 4, 2) := by decide +kernel
theorem dX5_in_75 : decode cX5_in 75 = .ok (.iconst (-1), 1) := by decide +kernel
theorem dX5_in_76 : decode cX5_in 76 = .ok (.if_icmp .ne 7, 3) := by decide +kernel
theorem dX5_in_79 : decode cX5_in 79 = .ok (.iconst 0, 1) := by decide +kernel
theorem dX5_in_80 : decode cX5_in 80 = .ok (.goto 13, 3) := by decide +kernel
theorem dX5_in_83 : decode cX5_in 83 = .ok (.aload_n 0, 1) := by decide +kernel
theorem dX5_in_84 : decode cX5_in 84 = .ok (.getfield 16, 3) := by decide +kernel
theorem dX5_in_87 : decode cX5_in 87 = .ok (.getfield 101, 3) := by decide +kernel
theorem dX5_in_90 : decode cX5_in 90 = .ok (.iload 4, 2) := by decide +kernel
theorem dX5_in_92 : decode cX5_in 92 = .ok (.iaload, 1) := by decide +kernel
theorem dX5_in_93 : decode cX5_in 93 = .ok (.ireturn, 1) := by decide +kernel
theorem dX5_in_94 : decode cX5_in 94 = .ok (.iload 4, 2) := by decide +kernel
theorem dX5_in_96 : decode cX5_in 96 = .ok (.iconst (-1), 1) := by decide +kernel
theorem dX5_in_97 : decode cX5_in 97 = .ok (.if_icmp .ne 8, 3) := by decide +kernel
theorem dX5_in_100 : decode cX5_in 100 = .ok (.bipush (-4), 2) := by decide +kernel
theorem dX5_in_102 : decode cX5_in 102 = .ok (.goto 14, 3) := by decide +kernel
theorem dX5_in_105 : decode cX5_in 105 = .ok (.iload_n 1, 1) := by decide +kernel
theorem dX5_in_106 : decode cX5_in 106 = .ok (.aload_n 0, 1) := by decide +kernel
theorem dX5_in_107 : decode cX5_in 107 = .ok (.getfield 16, 3) := by decide +kernel
theorem dX5_in_110 : decode cX5_in 110 = .ok (.iload 4, 2) := by decide +kernel
theorem dX5_in_112 : decode cX5_in 112 = .ok (.invokevirtual 104, 3) := by decide +kernel
theorem dX5_in_115 : decode cX5_in 115 = .ok (.iadd, 1) := by decide +kernel
theorem dX5_in_116 : decode cX5_in 116 = .ok (.ireturn, 1) := by decide +kernel
theorem dX5_mend_0 : decode cX5_mend 0 = .ok (.iload_n 1, 1) := by decide +kernel
theorem dX5_mend_1 : decode cX5_mend 1 = .ok (.ifCond .ne 11, 3) := by decide +kernel
theorem dX5_mend_4 : decode cX5_mend 4 = .ok (.aload_n 0, 1) := by decide +kernel
theorem dX5_mend_5 : decode cX5_mend 5 = .ok (.getfield 12, 3) := by decide +kernel
theorem dX5_mend_8 : decode cX5_mend 8 = .ok (.invokevirtual 179, 3) := by decide +kernel
theorem dX5_mend_11 : decode cX5_mend 11 = .ok (.ireturn, 1) := by decide +kernel
theorem dX5_mend_12 : decode cX5_mend 12 = .ok (.iload_n 1, 1) := by decide +kernel
theorem dX5_mend_13 : decode cX5_mend 13 = .ok (.iconst 1, 1) := by decide +kernel
theorem dX5_mend_14 : decode cX5_mend 14 = .ok (.if_icmp .ne 10, 3) := by decide +kernel
theorem dX5_mend_17 : decode cX5_mend 17 = .ok (.aload_n 0, 1) := by decide +kernel
theorem dX5_mend_18 : decode cX5_mend 18 = .ok (.invokevirtual 182, 3) := by decide +kernel
theorem dX5_mend_21 : decode cX5_mend 21 = .ok (.goto 4, 3) := by decide +kernel
theorem dX5_mend_24 : decode cX5_mend 24 = .ok (.iconst (-1), 1) := by decide +kernel
theorem dX5_mend_25 : decode cX5_mend 25 = .ok (.ireturn, 1) := by decide +kernel
theorem dX5_turned_0 : decode cX5_turned 0 = .ok (.iload_n 1, 1) := by decide +kernel
theorem dX5_turned_1 : decode cX5_turned 1 = .ok (.iconst 0, 1) := by decide +kernel
theorem dX5_turned_2 : decode cX5_turned 2 = .ok (.iconst 1, 1) := by decide +kernel
theorem dX5_turned_3 : decode cX5_turned 3 = .ok (.invokestatic 129, 3) := by decide +kernel
theorem dX5_turned_6 : decode cX5_turned 6 = .ok (.ifCond .ne 5, 3) := by decide +kernel
theorem dX5_turned_9 : decode cX5_turned 9 = .ok (.iconst (-1), 1) := by decide +kernel
theorem dX5_turned_10 : decode cX5_turned 10 = .ok (.ireturn, 1) := by decide +kernel
theorem dX5_turned_11 : decode cX5_turned 11 = .ok (.iconst 0, 1) := by decide +kernel
theorem dX5_turned_12 : decode cX5_turned 12 = .ok (.istore_n 2, 1) := by decide +kernel
theorem dX5_turned_13 : decode cX5_turned 13 = .ok (.bipush (-4), 2) := by decide +kernel
theorem dX5_turned_15 : decode cX5_turned 15 = .ok (.istore_n 3, 1) := by decide +kernel
theorem dX5_turned_16 : decode cX5_turned 16 = .ok (.aload_n 0, 1) := by decide +kernel
theorem dX5_turned_17 : decode cX5_turned 17 = .ok (.getfield 12, 3) := by decide +kernel
theorem dX5_turned_20 : decode cX5_turned 20 = .ok (.getfield 64, 3) := by decide +kernel
theorem dX5_turned_23 : decode cX5_turned 23 = .ok (.iconst 1, 1) := by decide +kernel
theorem dX5_turned_24 : decode cX5_turned 24 = .ok (.isub, 1) := by decide +kernel
theorem dX5_turned_25 : decode cX5_turned 25 = .ok (.istore 4, 2) := by decide +kernel
theorem dX5_turned_27 : decode cX5_turned 27 = .ok (.iload 4, 2) := by decide +kernel
theorem dX5_turned_29 : decode cX5_turned 29 = .ok (.ifCond .lt 27, 3) := by decide +kernel
theorem dX5_turned_32 : decode cX5_turned 32 = .ok (.aload_n 0, 1) := by decide +kernel
theorem dX5_turned_33 : decode cX5_turned 33 = .ok (.getfield 12, 3) := by decide +kernel
theorem dX5_turned_36 : decode cX5_turned 36 = .ok (.iload 4, 2) := by decide +kernel
theorem dX5_turned_38 : decode cX5_turned 38 = .ok (.invokevirtual 185, 3) := by decide +kernel
theorem dX5_turned_41 : decode cX5_turned 41 = .ok (.ifCond .eq 9, 3) := by decide +kernel
theorem dX5_turned_44 : decode cX5_turned 44 = .ok (.iinc 2 1, 3) := by decide +kernel
theorem dX5_turned_47 : decode cX5_turned 47 = .ok (.iload 4, 2) := by decide +kernel
theorem dX5_turned_49 : decode cX5_turned 49 = .ok (.istore_n 3, 1) := by decide +kernel
theorem dX5_turned_50 : decode cX5_turned 50 = .ok (.iinc 4 (-1), 3) := by decide +kernel
theorem dX5_turned_53 : decode cX5_turned 53 = .ok (.goto (-26), 3) := by decide +kernel
theorem dX5_turned_56 : decode cX5_turned 56 = .ok (.iload_n 1, 1) := by decide +kernel
theorem dX5_turned_57 : decode cX5_turned 57 = .ok (.ifCond .ne 7, 3) := by decide +kernel
theorem dX5_turned_60 : decode cX5_turned 60 = .ok (.iload_n 2, 1) := by decide +kernel
theorem dX5_turned_61 : decode cX5_turned 61 = .ok (.goto 4, 3) := by decide +kernel
theorem dX5_turned_64 : decode cX5_turned 64 = .ok (.iload_n 3, 1) := by decide +kernel
theorem dX5_turned_65 : decode cX5_turned 65 = .ok (.ireturn, 1) := by decide +kernel
theorem dX5_next_0 : decode cX5_next 0 = .ok (.iload_n 1, 1) := by decide +kernel
theorem dX5_next_1 : decode cX5_next 1 = .ok (.invokestatic 60, 3) := by decide +kernel
theorem dX5_next_4 : decode cX5_next 4 = .ok (.ifCond .eq 12, 3) := by decide +kernel
theorem dX5_next_7 : decode cX5_next 7 = .ok (.iload_n 2, 1) := by decide +kernel
theorem dX5_next_8 : decode cX5_next 8 = .ok (.iconst 0, 1) := by decide +kernel
theorem dX5_next_9 : decode cX5_next 9 = .ok (.iconst 1, 1) := by decide +kernel
theorem dX5_next_10 : decode cX5_next 10 = .ok (.invokestatic 129, 3) := by decide +kernel
theorem dX5_next_13 : decode cX5_next 13 = .ok (.ifCond .ne 5, 3) := by decide +kernel
theorem dX5_next_16 : decode cX5_next 16 = .ok (.iconst (-1), 1) := by decide +kernel
theorem dX5_next_17 : decode cX5_next 17 = .ok (.ireturn, 1) := by decide +kernel
theorem dX5_next_18 : decode cX5_next 18 = .ok (.aload_n 0, 1) := by decide +kernel
theorem dX5_next_19 : decode cX5_next 19 = .ok (.getfield 12, 3) := by decide +kernel
theorem dX5_next_22 : decode cX5_next 22 = .ok (.getfield 64, 3) := by decide +kernel
theorem dX5_next_25 : decode cX5_next 25 = .ok (.bipush 48, 2) := by decide +kernel
theorem dX5_next_27 : decode cX5_next 27 = .ok (.if_icmp .ne 6, 3) := by decide +kernel
theorem dX5_next_30 : decode cX5_next 30 = .ok (.bipush (-3), 2) := by decide +kernel
theorem dX5_next_32 : decode cX5_next 32 = .ok (.ireturn, 1) := by decide +kernel
theorem dX5_next_33 : decode cX5_next 33 = .ok (.aload_n 0, 1) := by decide +kernel
theorem dX5_next_34 : decode cX5_next 34 = .ok (.getfield 16, 3) := by decide +kernel
theorem dX5_next_37 : decode cX5_next 37 = .ok (.aload_n 0, 1) := by decide +kernel
theorem dX5_next_38 : decode cX5_next 38 = .ok (.getfield 12, 3) := by decide +kernel
theorem dX5_next_41 : decode cX5_next 41 = .ok (.getfield 86, 3) := by decide +kernel
theorem dX5_next_44 : decode cX5_next 44 = .ok (.iconst 0, 1) := by decide +kernel
theorem dX5_next_45 : decode cX5_next 45 = .ok (.aload_n 0, 1) := by decide +kernel
theorem dX5_next_46 : decode cX5_next 46 = .ok (.getfield 12, 3) := by decide +kernel
theorem dX5_next_49 : decode cX5_next 49 = .ok (.getfield 64, 3) := by decide +kernel
theorem dX5_next_52 : decode cX5_next 52 = .ok (.invokevirtual 141, 3) := by decide +kernel
theorem dX5_next_55 : decode cX5_next 55 = .ok (.aload_n 0, 1) := by decide +kernel
theorem dX5_next_56 : decode cX5_next 56 = .ok (.getfield 16, 3) := by decide +kernel
theorem dX5_next_59 : decode cX5_next 59 = .ok (.iload_n 1, 1) := by decide +kernel
theorem dX5_next_60 : decode cX5_next 60 = .ok (.invokevirtual 72, 3) := by decide +kernel
theorem dX5_next_63 : decode cX5_next 63 = .ok (.istore_n 3, 1) := by decide +kernel
theorem dX5_next_64 : decode cX5_next 64 = .ok (.iload_n 2, 1) := by decide +kernel
theorem dX5_next_65 : decode cX5_next 65 = .ok (.ifCond .ne 7, 3) := by decide +kernel
theorem dX5_next_68 : decode cX5_next 68 = .ok (.iload_n 3, 1) := by decide +kernel
theorem dX5_next_69 : decode cX5_next 69 = .ok (.goto 18, 3) := by decide +kernel
theorem dX5_next_72 : decode cX5_next 72 = .ok (.aload_n 0, 1) := by decide +kernel
theorem dX5_next_73 : decode cX5_next 73 = .ok (.getfield 16, 3) := by decide +kernel
theorem dX5_next_76 : decode cX5_next 76 = .ok (.getfield 148, 3) := by decide +kernel
theorem dX5_next_79 : decode cX5_next 79 = .ok (.aload_n 0, 1) := by decide +kernel
theorem dX5_next_80 : decode cX5_next 80 = .ok (.getfield 12, 3) := by decide +kernel
theorem dX5_next_83 : decode cX5_next 83 = .ok (.getfield 148, 3) := by decide +kernel
theorem dX5_next_86 : decode cX5_next 86 = .ok (.isub, 1) := by decide +kernel
theorem dX5_next_87 : decode cX5_next 87 = .ok (.ireturn, 1) := by decide +kernel
theorem dX5_grow_0 : decode cX5_grow 0 = .ok (.iload_n 1, 1) := by decide +kernel
theorem dX5_grow_1 : decode cX5_grow 1 = .ok (.iconst 0, 1) := by decide +kernel
theorem dX5_grow_2 : decode cX5_grow 2 = .ok (.iconst 3, 1) := by decide +kernel
theorem dX5_grow_3 : decode cX5_grow 3 = .ok (.invokestatic 129, 3) := by decide +kernel
theorem dX5_grow_6 : decode cX5_grow 6 = .ok (.ifCond .eq 8, 3) := by decide +kernel
theorem dX5_grow_9 : decode cX5_grow 9 = .ok (.iload_n 2, 1) := by decide +kernel
theorem dX5_grow_10 : decode cX5_grow 10 = .ok (.iconst (-1), 1) := by decide +kernel
theorem dX5_grow_11 : decode cX5_grow 11 = .ok (.if_icmp .ge 5, 3) := by decide +kernel
theorem dX5_grow_14 : decode cX5_grow 14 = .ok (.iconst (-1), 1) := by decide +kernel
theorem dX5_grow_15 : decode cX5_grow 15 = .ok (.ireturn, 1) := by decide +kernel
theorem dX5_grow_16 : decode cX5_grow 16 = .ok (.aload_n 0, 1) := by decide +kernel
theorem dX5_grow_17 : decode cX5_grow 17 = .ok (.getfield 12, 3) := by decide +kernel
theorem dX5_grow_20 : decode cX5_grow 20 = .ok (.getfield 64, 3) := by decide +kernel
theorem dX5_grow_23 : decode cX5_grow 23 = .ok (.iload_n 1, 1) := by decide +kernel
theorem dX5_grow_24 : decode cX5_grow 24 = .ok (.iadd, 1) := by decide +kernel
theorem dX5_grow_25 : decode cX5_grow 25 = .ok (.bipush 48, 2) := by decide +kernel
theorem dX5_grow_27 : decode cX5_grow 27 = .ok (.if_icmp .le 6, 3) := by decide +kernel
theorem dX5_grow_30 : decode cX5_grow 30 = .ok (.bipush (-3), 2) := by decide +kernel
theorem dX5_grow_32 : decode cX5_grow 32 = .ok (.ireturn, 1) := by decide +kernel
theorem dX5_grow_33 : decode cX5_grow 33 = .ok (.iload_n 2, 1) := by decide +kernel
theorem dX5_grow_34 : decode cX5_grow 34 = .ok (.iload_n 1, 1) := by decide +kernel
theorem dX5_grow_35 : decode cX5_grow 35 = .ok (.if_icmp .lt 6, 3) := by decide +kernel
theorem dX5_grow_38 : decode cX5_grow 38 = .ok (.bipush (-4), 2) := by decide +kernel
theorem dX5_grow_40 : decode cX5_grow 40 = .ok (.ireturn, 1) := by decide +kernel
theorem dX5_grow_41 : decode cX5_grow 41 = .ok (.aload_n 0, 1) := by decide +kernel
theorem dX5_grow_42 : decode cX5_grow 42 = .ok (.iload_n 1, 1) := by decide +kernel
theorem dX5_grow_43 : decode cX5_grow 43 = .ok (.invokevirtual 188, 3) := by decide +kernel
theorem dX5_grow_46 : decode cX5_grow 46 = .ok (.istore_n 3, 1) := by decide +kernel
theorem dX5_grow_47 : decode cX5_grow 47 = .ok (.iload_n 2, 1) := by decide +kernel
theorem dX5_grow_48 : decode cX5_grow 48 = .ok (.iconst (-1), 1) := by decide +kernel
theorem dX5_grow_49 : decode cX5_grow 49 = .ok (.if_icmp .ne 7, 3) := by decide +kernel
theorem dX5_grow_52 : decode cX5_grow 52 = .ok (.iload_n 3, 1) := by decide +kernel
theorem dX5_grow_53 : decode cX5_grow 53 = .ok (.goto 9, 3) := by decide +kernel
theorem dX5_grow_56 : decode cX5_grow 56 = .ok (.aload_n 0, 1) := by decide +kernel
theorem dX5_grow_57 : decode cX5_grow 57 = .ok (.getfield 53, 3) := by decide +kernel
theorem dX5_grow_60 : decode cX5_grow 60 = .ok (.iload_n 2, 1) := by decide +kernel
theorem dX5_grow_61 : decode cX5_grow 61 = .ok (.iaload, 1) := by decide +kernel
theorem dX5_grow_62 : decode cX5_grow 62 = .ok (.ireturn, 1) := by decide +kernel
theorem dX5_odds_0 : decode cX5_odds 0 = .ok (.iload_n 1, 1) := by decide +kernel
theorem dX5_odds_1 : decode cX5_odds 1 = .ok (.iconst 0, 1) := by decide +kernel
theorem dX5_odds_2 : decode cX5_odds 2 = .ok (.iconst 4, 1) := by decide +kernel
theorem dX5_odds_3 : decode cX5_odds 3 = .ok (.invokestatic 129, 3) := by decide +kernel
theorem dX5_odds_6 : decode cX5_odds 6 = .ok (.ifCond .eq 22, 3) := by decide +kernel
theorem dX5_odds_9 : decode cX5_odds 9 = .ok (.iload_n 2, 1) := by decide +kernel
theorem dX5_odds_10 : decode cX5_odds 10 = .ok (.iconst 0, 1) := by decide +kernel
theorem dX5_odds_11 : decode cX5_odds 11 = .ok (.bipush 9, 2) := by decide +kernel
theorem dX5_odds_13 : decode cX5_odds 13 = .ok (.invokestatic 129, 3) := by decide +kernel
theorem dX5_odds_16 : decode cX5_odds 16 = .ok (.ifCond .eq 12, 3) := by decide +kernel
theorem dX5_odds_19 : decode cX5_odds 19 = .ok (.iload_n 3, 1) := by decide +kernel
theorem dX5_odds_20 : decode cX5_odds 20 = .ok (.iconst 0, 1) := by decide +kernel
theorem dX5_odds_21 : decode cX5_odds 21 = .ok (.iconst 1, 1) := by decide +kernel
theorem dX5_odds_22 : decode cX5_odds 22 = .ok (.invokestatic 129, 3) := by decide +kernel
theorem dX5_odds_25 : decode cX5_odds 25 = .ok (.ifCond .ne 5, 3) := by decide +kernel
theorem dX5_odds_28 : decode cX5_odds 28 = .ok (.iconst (-1), 1) := by decide +kernel
theorem dX5_odds_29 : decode cX5_odds 29 = .ok (.ireturn, 1) := by decide +kernel
theorem dX5_odds_30 : decode cX5_odds 30 = .ok (.aload_n 0, 1) := by decide +kernel
theorem dX5_odds_31 : decode cX5_odds 31 = .ok (.getfield 12, 3) := by decide +kernel
theorem dX5_odds_34 : decode cX5_odds 34 = .ok (.getfield 64, 3) := by decide +kernel
theorem dX5_odds_37 : decode cX5_odds 37 = .ok (.iload_n 1, 1) := by decide +kernel
theorem dX5_odds_38 : decode cX5_odds 38 = .ok (.iadd, 1) := by decide +kernel
theorem dX5_odds_39 : decode cX5_odds 39 = .ok (.bipush 48, 2) := by decide +kernel
theorem dX5_odds_41 : decode cX5_odds 41 = .ok (.if_icmp .le 6, 3) := by decide +kernel
theorem dX5_odds_44 : decode cX5_odds 44 = .ok (.bipush (-3), 2) := by decide +kernel
theorem dX5_odds_46 : decode cX5_odds 46 = .ok (.ireturn, 1) := by decide +kernel
theorem dX5_odds_47 : decode cX5_odds 47 = .ok (.iload_n 1, 1) := by decide +kernel
theorem dX5_odds_48 : decode cX5_odds 48 = .ok (.invokestatic 191, 3) := by decide +kernel
theorem dX5_odds_51 : decode cX5_odds 51 = .ok (.istore 4, 2) := by decide +kernel
theorem dX5_odds_53 : decode cX5_odds 53 = .ok (.aload_n 0, 1) := by decide +kernel
theorem dX5_odds_54 : decode cX5_odds 54 = .ok (.iload_n 1, 1) := by decide +kernel
theorem dX5_odds_55 : decode cX5_odds 55 = .ok (.iload_n 2, 1) := by decide +kernel
theorem dX5_odds_56 : decode cX5_odds 56 = .ok (.invokevirtual 194, 3) := by decide +kernel
theorem dX5_odds_59 : decode cX5_odds 59 = .ok (.istore 5, 2) := by decide +kernel
theorem dX5_odds_61 : decode cX5_odds 61 = .ok (.iload 5, 2) := by decide +kernel
theorem dX5_odds_63 : decode cX5_odds 63 = .ok (.iload 4, 2) := by decide +kernel
theorem dX5_odds_65 : decode cX5_odds 65 = .ok (.invokestatic 197, 3) := by decide +kernel
theorem dX5_odds_68 : decode cX5_odds 68 = .ok (.istore 6, 2) := by decide +kernel
theorem dX5_odds_70 : decode cX5_odds 70 = .ok (.iload 6, 2) := by decide +kernel
theorem dX5_odds_72 : decode cX5_odds 72 = .ok (.iconst 1, 1) := by decide +kernel
theorem dX5_odds_73 : decode cX5_odds 73 = .ok (.if_icmp .ge 5, 3) := by decide +kernel
theorem dX5_odds_76 : decode cX5_odds 76 = .ok (.iconst (-1), 1) := by decide +kernel
theorem dX5_odds_77 : decode cX5_odds 77 = .ok (.ireturn, 1) := by decide +kernel
theorem dX5_odds_78 : decode cX5_odds 78 = .ok (.iload_n 3, 1) := by decide +kernel
theorem dX5_odds_79 : decode cX5_odds 79 = .ok (.ifCond .ne 8, 3) := by decide +kernel
theorem dX5_odds_82 : decode cX5_odds 82 = .ok (.iload 5, 2) := by decide +kernel
theorem dX5_odds_84 : decode cX5_odds 84 = .ok (.goto 5, 3) := by decide +kernel
theorem dX5_odds_87 : decode cX5_odds 87 = .ok (.iload 4, 2) := by decide +kernel
theorem dX5_odds_89 : decode cX5_odds 89 = .ok (.iload 6, 2) := by decide +kernel
theorem dX5_odds_91 : decode cX5_odds 91 = .ok (.idiv, 1) := by decide +kernel
theorem dX5_odds_92 : decode cX5_odds 92 = .ok (.ireturn, 1) := by decide +kernel
theorem dX5_walks_0 : decode cX5_walks 0 = .ok (.iload_n 1, 1) := by decide +kernel
theorem dX5_walks_1 : decode cX5_walks 1 = .ok (.iconst 0, 1) := by decide +kernel
theorem dX5_walks_2 : decode cX5_walks 2 = .ok (.bipush 60, 2) := by decide +kernel
theorem dX5_walks_4 : decode cX5_walks 4 = .ok (.invokestatic 129, 3) := by decide +kernel
theorem dX5_walks_7 : decode cX5_walks 7 = .ok (.ifCond .eq 22, 3) := by decide +kernel
theorem dX5_walks_10 : decode cX5_walks 10 = .ok (.iload_n 2, 1) := by decide +kernel
theorem dX5_walks_11 : decode cX5_walks 11 = .ok (.iconst 1, 1) := by decide +kernel
theorem dX5_walks_12 : decode cX5_walks 12 = .ok (.ldc 200, 2) := by decide +kernel
theorem dX5_walks_14 : decode cX5_walks 14 = .ok (.invokestatic 129, 3) := by decide +kernel
theorem dX5_walks_17 : decode cX5_walks 17 = .ok (.ifCond .eq 12, 3) := by decide +kernel
theorem dX5_walks_20 : decode cX5_walks 20 = .ok (.iload_n 3, 1) := by decide +kernel
theorem dX5_walks_21 : decode cX5_walks 21 = .ok (.iconst 0, 1) := by decide +kernel
theorem dX5_walks_22 : decode cX5_walks 22 = .ok (.iconst 1, 1) := by decide +kernel
theorem dX5_walks_23 : decode cX5_walks 23 = .ok (.invokestatic 129, 3) := by decide +kernel
theorem dX5_walks_26 : decode cX5_walks 26 = .ok (.ifCond .ne 5, 3) := by decide +kernel
theorem dX5_walks_29 : decode cX5_walks 29 = .ok (.iconst (-1), 1) := by decide +kernel
theorem dX5_walks_30 : decode cX5_walks 30 = .ok (.ireturn, 1) := by decide +kernel
theorem dX5_walks_31 : decode cX5_walks 31 = .ok (.aload_n 0, 1) := by decide +kernel
theorem dX5_walks_32 : decode cX5_walks 32 = .ok (.getfield 16, 3) := by decide +kernel
theorem dX5_walks_35 : decode cX5_walks 35 = .ok (.aload_n 0, 1) := by decide +kernel
theorem dX5_walks_36 : decode cX5_walks 36 = .ok (.getfield 12, 3) := by decide +kernel
theorem dX5_walks_39 : decode cX5_walks 39 = .ok (.getfield 86, 3) := by decide +kernel
theorem dX5_walks_42 : decode cX5_walks 42 = .ok (.iconst 0, 1) := by decide +kernel
theorem dX5_walks_43 : decode cX5_walks 43 = .ok (.aload_n 0, 1) := by decide +kernel
theorem dX5_walks_44 : decode cX5_walks 44 = .ok (.getfield 12, 3) := by decide +kernel
theorem dX5_walks_47 : decode cX5_walks 47 = .ok (.getfield 64, 3) := by decide +kernel
theorem dX5_walks_50 : decode cX5_walks 50 = .ok (.invokevirtual 141, 3) := by decide +kernel
theorem dX5_walks_53 : decode cX5_walks 53 = .ok (.iload_n 2, 1) := by decide +kernel
theorem dX5_walks_54 : decode cX5_walks 54 = .ok (.i2l, 1) := by decide +kernel
theorem dX5_walks_55 : decode cX5_walks 55 = .ok (.lstore 4, 2) := by decide +kernel
theorem dX5_walks_57 : decode cX5_walks 57 = .ok (.iconst 0, 1) := by decide +kernel
theorem dX5_walks_58 : decode cX5_walks 58 = .ok (.istore 6, 2) := by decide +kernel
theorem dX5_walks_60 : decode cX5_walks 60 = .ok (.iload 6, 2) := by decide +kernel
theorem dX5_walks_62 : decode cX5_walks 62 = .ok (.iload_n 1, 1) := by decide +kernel
theorem dX5_walks_63 : decode cX5_walks 63 = .ok (.if_icmp .ge 98, 3) := by decide +kernel
theorem dX5_walks_66 : decode cX5_walks 66 = .ok (.ldc2_w 201, 3) := by decide +kernel
theorem dX5_walks_69 : decode cX5_walks 69 = .ok (.lload 4, 2) := by decide +kernel
theorem dX5_walks_71 : decode cX5_walks 71 = .ok (.lmul, 1) := by decide +kernel
theorem dX5_walks_72 : decode cX5_walks 72 = .ok (.ldc2_w 203, 3) := by decide +kernel
theorem dX5_walks_75 : decode cX5_walks 75 = .ok (.lrem, 1) := by decide +kernel
theorem dX5_walks_76 : decode cX5_walks 76 = .ok (.lstore 4, 2) := by decide +kernel
theorem dX5_walks_78 : decode cX5_walks 78 = .ok (.lload 4, 2) := by decide +kernel
theorem dX5_walks_80 : decode cX5_walks 80 = .ok (.ldc2_w 205, 3) := by decide +kernel
theorem dX5_walks_83 : decode cX5_walks 83 = .ok (.ldiv, 1) := by decide +kernel
theorem dX5_walks_84 : decode cX5_walks 84 = .ok (.ldc2_w 207, 3) := by decide +kernel
theorem dX5_walks_87 : decode cX5_walks 87 = .ok (.lrem, 1) := by decide +kernel
theorem dX5_walks_88 : decode cX5_walks 88 = .ok (.lconst 0, 1) := by decide +kernel
theorem dX5_walks_89 : decode cX5_walks 89 = .ok (.lcmp, 1) := by decide +kernel
theorem dX5_walks_90 : decode cX5_walks 90 = .ok (.ifCond .ne 17, 3) := by decide +kernel
theorem dX5_walks_93 : decode cX5_walks 93 = .ok (.aload_n 0, 1) := by decide +kernel
theorem dX5_walks_94 : decode cX5_walks 94 = .ok (.getfield 16, 3) := by decide +kernel
theorem dX5_walks_97 : decode cX5_walks 97 = .ok (.getfield 64, 3) := by decide +kernel
theorem dX5_walks_100 : decode cX5_walks 100 = .ok (.ifCond .le 7, 3) := by decide +kernel
theorem dX5_walks_103 : decode cX5_walks 103 = .ok (.iconst 1, 1) := by decide +kernel
theorem dX5_walks_104 : decode cX5_walks 104 = .ok (.goto 4, 3) := by decide +kernel
theorem dX5_walks_107 : decode cX5_walks 107 = .ok (.iconst 0, 1) := by decide +kernel
theorem dX5_walks_108 : decode cX5_walks 108 = .ok (.istore 7, 2) := by decide +kernel
theorem dX5_walks_110 : decode cX5_walks 110 = .ok (.iload 7, 2) := by decide +kernel
theorem dX5_walks_112 : decode cX5_walks 112 = .ok (.ifCond .ne 15, 3) := by decide +kernel
theorem dX5_walks_115 : decode cX5_walks 115 = .ok (.aload_n 0, 1) := by decide +kernel
theorem dX5_walks_116 : decode cX5_walks 116 = .ok (.getfield 16, 3) := by decide +kernel
theorem dX5_walks_119 : decode cX5_walks 119 = .ok (.getfield 64, 3) := by decide +kernel
theorem dX5_walks_122 : decode cX5_walks 122 = .ok (.bipush 48, 2) := by decide +kernel
theorem dX5_walks_124 : decode cX5_walks 124 = .ok (.if_icmp .ne 13, 3) := by decide +kernel
theorem dX5_walks_127 : decode cX5_walks 127 = .ok (.aload_n 0, 1) := by decide +kernel
theorem dX5_walks_128 : decode cX5_walks 128 = .ok (.getfield 16, 3) := by decide +kernel
theorem dX5_walks_131 : decode cX5_walks 131 = .ok (.invokevirtual 80, 3) := by decide +kernel
theorem dX5_walks_134 : decode cX5_walks 134 = .ok (.goto 21, 3) := by decide +kernel
theorem dX5_walks_137 : decode cX5_walks 137 = .ok (.aload_n 0, 1) := by decide +kernel
theorem dX5_walks_138 : decode cX5_walks 138 = .ok (.getfield 16, 3) := by decide +kernel
theorem dX5_walks_141 : decode cX5_walks 141 = .ok (.bipush 97, 2) := by decide +kernel
theorem dX5_walks_143 : decode cX5_walks 143 = .ok (.lload 4, 2) := by decide +kernel
theorem dX5_walks_145 : decode cX5_walks 145 = .ok (.ldc2_w 209, 3) := by decide +kernel
theorem dX5_walks_148 : decode cX5_walks 148 = .ok (.lrem, 1) := by decide +kernel
theorem dX5_walks_149 : decode cX5_walks 149 = .ok (.l2i, 1) := by decide +kernel
theorem dX5_walks_150 : decode cX5_walks 150 = .ok (.iadd, 1) := by decide +kernel
theorem dX5_walks_151 : decode cX5_walks 151 = .ok (.invokevirtual 72, 3) := by decide +kernel
theorem dX5_walks_154 : decode cX5_walks 154 = .ok (.pop, 1) := by decide +kernel
theorem dX5_walks_155 : decode cX5_walks 155 = .ok (.iinc 6 1, 3) := by decide +kernel
theorem dX5_walks_158 : decode cX5_walks 158 = .ok (.goto (-98), 3) := by decide +kernel
theorem dX5_walks_161 : decode cX5_walks 161 = .ok (.iload_n 3, 1) := by decide +kernel
theorem dX5_walks_162 : decode cX5_walks 162 = .ok (.ifCond .ne 13, 3) := by decide +kernel
theorem dX5_walks_165 : decode cX5_walks 165 = .ok (.aload_n 0, 1) := by decide +kernel
theorem dX5_walks_166 : decode cX5_walks 166 = .ok (.getfield 16, 3) := by decide +kernel
theorem dX5_walks_169 : decode cX5_walks 169 = .ok (.getfield 148, 3) := by decide +kernel
theorem dX5_walks_172 : decode cX5_walks 172 = .ok (.goto 10, 3) := by decide +kernel
theorem dX5_walks_175 : decode cX5_walks 175 = .ok (.aload_n 0, 1) := by decide +kernel
theorem dX5_walks_176 : decode cX5_walks 176 = .ok (.getfield 16, 3) := by decide +kernel
theorem dX5_walks_179 : decode cX5_walks 179 = .ok (.getfield 64, 3) := by decide +kernel
theorem dX5_walks_182 : decode cX5_walks 182 = .ok (.ireturn, 1) := by decide +kernel
theorem dX5_feed_0 : decode cX5_feed 0 = .ok (.iload_n 1, 1) := by decide +kernel
theorem dX5_feed_1 : decode cX5_feed 1 = .ok (.i2l, 1) := by decide +kernel
theorem dX5_feed_2 : decode cX5_feed 2 = .ok (.invokestatic 211, 3) := by decide +kernel
theorem dX5_feed_5 : decode cX5_feed 5 = .ok (.ifCond .ne 5, 3) := by decide +kernel
theorem dX5_feed_8 : decode cX5_feed 8 = .ok (.iconst (-1), 1) := by decide +kernel
theorem dX5_feed_9 : decode cX5_feed 9 = .ok (.ireturn, 1) := by decide +kernel
theorem dX5_feed_10 : decode cX5_feed 10 = .ok (.aload_n 0, 1) := by decide +kernel
theorem dX5_feed_11 : decode cX5_feed 11 = .ok (.getfield 42, 3) := by decide +kernel
theorem dX5_feed_14 : decode cX5_feed 14 = .ok (.getfield 137, 3) := by decide +kernel
theorem dX5_feed_17 : decode cX5_feed 17 = .ok (.bipush 48, 2) := by decide +kernel
theorem dX5_feed_19 : decode cX5_feed 19 = .ok (.if_icmp .ne 6, 3) := by decide +kernel
theorem dX5_feed_22 : decode cX5_feed 22 = .ok (.bipush (-3), 2) := by decide +kernel
theorem dX5_feed_24 : decode cX5_feed 24 = .ok (.ireturn, 1) := by decide +kernel
theorem dX5_feed_25 : decode cX5_feed 25 = .ok (.aload_n 0, 1) := by decide +kernel
theorem dX5_feed_26 : decode cX5_feed 26 = .ok (.getfield 42, 3) := by decide +kernel
theorem dX5_feed_29 : decode cX5_feed 29 = .ok (.iload_n 1, 1) := by decide +kernel
theorem dX5_feed_30 : decode cX5_feed 30 = .ok (.invokevirtual 215, 3) := by decide +kernel
theorem dX5_feed_33 : decode cX5_feed 33 = .ok (.aload_n 0, 1) := by decide +kernel
theorem dX5_feed_34 : decode cX5_feed 34 = .ok (.getfield 42, 3) := by decide +kernel
theorem dX5_feed_37 : decode cX5_feed 37 = .ok (.getfield 137, 3) := by decide +kernel
theorem dX5_feed_40 : decode cX5_feed 40 = .ok (.ireturn, 1) := by decide +kernel
theorem dX5_clear_0 : decode cX5_clear 0 = .ok (.aload_n 0, 1) := by decide +kernel
theorem dX5_clear_1 : decode cX5_clear 1 = .ok (.getfield 42, 3) := by decide +kernel
theorem dX5_clear_4 : decode cX5_clear 4 = .ok (.getfield 137, 3) := by decide +kernel
theorem dX5_clear_7 : decode cX5_clear 7 = .ok (.istore_n 1, 1) := by decide +kernel
theorem dX5_clear_8 : decode cX5_clear 8 = .ok (.aload_n 0, 1) := by decide +kernel
theorem dX5_clear_9 : decode cX5_clear 9 = .ok (.getfield 42, 3) := by decide +kernel
theorem dX5_clear_12 : decode cX5_clear 12 = .ok (.iconst 0, 1) := by decide +kernel
theorem dX5_clear_13 : decode cX5_clear 13 = .ok (.putfield 137, 3) := by decide +kernel
theorem dX5_clear_16 : decode cX5_clear 16 = .ok (.iload_n 1, 1) := by decide +kernel
theorem dX5_clear_17 : decode cX5_clear 17 = .ok (.ireturn, 1) := by decide +kernel
theorem dX5_find_0 : decode cX5_find 0 = .ok (.aload_n 0, 1) := by decide +kernel
theorem dX5_find_1 : decode cX5_find 1 = .ok (.getfield 12, 3) := by decide +kernel
theorem dX5_find_4 : decode cX5_find 4 = .ok (.aload_n 0, 1) := by decide +kernel
theorem dX5_find_5 : decode cX5_find 5 = .ok (.getfield 42, 3) := by decide +kernel
theorem dX5_find_8 : decode cX5_find 8 = .ok (.getfield 138, 3) := by decide +kernel
theorem dX5_find_11 : decode cX5_find 11 = .ok (.iconst 0, 1) := by decide +kernel
theorem dX5_find_12 : decode cX5_find 12 = .ok (.aload_n 0, 1) := by decide +kernel
theorem dX5_find_13 : decode cX5_find 13 = .ok (.getfield 42, 3) := by decide +kernel
theorem dX5_find_16 : decode cX5_find 16 = .ok (.getfield 137, 3) := by decide +kernel
theorem dX5_find_19 : decode cX5_find 19 = .ok (.invokevirtual 151, 3) := by decide +kernel
theorem dX5_find_22 : decode cX5_find 22 = .ok (.istore_n 1, 1) := by decide +kernel
theorem dX5_find_23 : decode cX5_find 23 = .ok (.iload_n 1, 1) := by decide +kernel
theorem dX5_find_24 : decode cX5_find 24 = .ok (.iconst (-1), 1) := by decide +kernel
theorem dX5_find_25 : decode cX5_find 25 = .ok (.if_icmp .ne 8, 3) := by decide +kernel
theorem dX5_find_28 : decode cX5_find 28 = .ok (.bipush (-4), 2) := by decide +kernel
theorem dX5_find_30 : decode cX5_find 30 = .ok (.goto 4, 3) := by decide +kernel
theorem dX5_find_33 : decode cX5_find 33 = .ok (.iload_n 1, 1) := by decide +kernel
theorem dX5_find_34 : decode cX5_find 34 = .ok (.ireturn, 1) := by decide +kernel
theorem dX5_times_0 : decode cX5_times 0 = .ok (.aload_n 0, 1) := by decide +kernel
theorem dX5_times_1 : decode cX5_times 1 = .ok (.getfield 42, 3) := by decide +kernel
theorem dX5_times_4 : decode cX5_times 4 = .ok (.getfield 137, 3) := by decide +kernel
theorem dX5_times_7 : decode cX5_times 7 = .ok (.ifCond .ne 7, 3) := by decide +kernel
theorem dX5_times_10 : decode cX5_times 10 = .ok (.iconst 0, 1) := by decide +kernel
theorem dX5_times_11 : decode cX5_times 11 = .ok (.goto 25, 3) := by decide +kernel
theorem dX5_times_14 : decode cX5_times 14 = .ok (.aload_n 0, 1) := by decide +kernel
theorem dX5_times_15 : decode cX5_times 15 = .ok (.getfield 12, 3) := by decide +kernel
theorem dX5_times_18 : decode cX5_times 18 = .ok (.aload_n 0, 1) := by decide +kernel
theorem dX5_times_19 : decode cX5_times 19 = .ok (.getfield 42, 3) := by decide +kernel
theorem dX5_times_22 : decode cX5_times 22 = .ok (.getfield 138, 3) := by decide +kernel
theorem dX5_times_25 : decode cX5_times 25 = .ok (.iconst 0, 1) := by decide +kernel
theorem dX5_times_26 : decode cX5_times 26 = .ok (.aload_n 0, 1) := by decide +kernel
theorem dX5_times_27 : decode cX5_times 27 = .ok (.getfield 42, 3) := by decide +kernel
theorem dX5_times_30 : decode cX5_times 30 = .ok (.getfield 137, 3) := by decide +kernel
theorem dX5_times_33 : decode cX5_times 33 = .ok (.invokevirtual 110, 3) := by decide +kernel
theorem dX5_times_36 : decode cX5_times 36 = .ok (.ireturn, 1) := by decide +kernel
theorem dX5_sheet_0 : decode cX5_sheet 0 = .ok (.iload_n 1, 1) := by decide +kernel
theorem dX5_sheet_1 : decode cX5_sheet 1 = .ok (.invokestatic 218, 3) := by decide +kernel
theorem dX5_sheet_4 : decode cX5_sheet 4 = .ok (.ifCond .eq 16, 3) := by decide +kernel
theorem dX5_sheet_7 : decode cX5_sheet 7 = .ok (.iload_n 2, 1) := by decide +kernel
theorem dX5_sheet_8 : decode cX5_sheet 8 = .ok (.invokestatic 221, 3) := by decide +kernel
theorem dX5_sheet_11 : decode cX5_sheet 11 = .ok (.ifCond .eq 9, 3) := by decide +kernel
theorem dX5_sheet_14 : decode cX5_sheet 14 = .ok (.iload_n 3, 1) := by decide +kernel
theorem dX5_sheet_15 : decode cX5_sheet 15 = .ok (.bipush 48, 2) := by decide +kernel
theorem dX5_sheet_17 : decode cX5_sheet 17 = .ok (.if_icmp .le 5, 3) := by decide +kernel
theorem dX5_sheet_20 : decode cX5_sheet 20 = .ok (.iconst (-1), 1) := by decide +kernel
theorem dX5_sheet_21 : decode cX5_sheet 21 = .ok (.ireturn, 1) := by decide +kernel
theorem dX5_sheet_22 : decode cX5_sheet 22 = .ok (.iload_n 3, 1) := by decide +kernel
theorem dX5_sheet_23 : decode cX5_sheet 23 = .ok (.ifCond .ge 6, 3) := by decide +kernel
theorem dX5_sheet_26 : decode cX5_sheet 26 = .ok (.bipush (-14), 2) := by decide +kernel
theorem dX5_sheet_28 : decode cX5_sheet 28 = .ok (.ireturn, 1) := by decide +kernel
theorem dX5_sheet_29 : decode cX5_sheet 29 = .ok (.aload_n 0, 1) := by decide +kernel
theorem dX5_sheet_30 : decode cX5_sheet 30 = .ok (.getfield 48, 3) := by decide +kernel
theorem dX5_sheet_33 : decode cX5_sheet 33 = .ok (.iload_n 1, 1) := by decide +kernel
theorem dX5_sheet_34 : decode cX5_sheet 34 = .ok (.aaload, 1) := by decide +kernel
theorem dX5_sheet_35 : decode cX5_sheet 35 = .ok (.iload_n 2, 1) := by decide +kernel
theorem dX5_sheet_36 : decode cX5_sheet 36 = .ok (.iload_n 3, 1) := by decide +kernel
theorem dX5_sheet_37 : decode cX5_sheet 37 = .ok (.invokevirtual 224, 3) := by decide +kernel
theorem dX5_sheet_40 : decode cX5_sheet 40 = .ok (.iload_n 3, 1) := by decide +kernel
theorem dX5_sheet_41 : decode cX5_sheet 41 = .ok (.ireturn, 1) := by decide +kernel
theorem dX5_drop_0 : decode cX5_drop 0 = .ok (.iload_n 1, 1) := by decide +kernel
theorem dX5_drop_1 : decode cX5_drop 1 = .ok (.invokestatic 218, 3) := by decide +kernel
theorem dX5_drop_4 : decode cX5_drop 4 = .ok (.ifCond .ne 5, 3) := by decide +kernel
theorem dX5_drop_7 : decode cX5_drop 7 = .ok (.iconst (-1), 1) := by decide +kernel
theorem dX5_drop_8 : decode cX5_drop 8 = .ok (.ireturn, 1) := by decide +kernel
theorem dX5_drop_9 : decode cX5_drop 9 = .ok (.aload_n 0, 1) := by decide +kernel
theorem dX5_drop_10 : decode cX5_drop 10 = .ok (.getfield 48, 3) := by decide +kernel
theorem dX5_drop_13 : decode cX5_drop 13 = .ok (.iload_n 1, 1) := by decide +kernel
theorem dX5_drop_14 : decode cX5_drop 14 = .ok (.aaload, 1) := by decide +kernel
theorem dX5_drop_15 : decode cX5_drop 15 = .ok (.getfield 227, 3) := by decide +kernel
theorem dX5_drop_18 : decode cX5_drop 18 = .ok (.istore_n 2, 1) := by decide +kernel
theorem dX5_drop_19 : decode cX5_drop 19 = .ok (.iload_n 2, 1) := by decide +kernel
theorem dX5_drop_20 : decode cX5_drop 20 = .ok (.iconst (-1), 1) := by decide +kernel
theorem dX5_drop_21 : decode cX5_drop 21 = .ok (.if_icmp .ne 6, 3) := by decide +kernel
theorem dX5_drop_24 : decode cX5_drop 24 = .ok (.bipush (-11), 2) := by decide +kernel
theorem dX5_drop_26 : decode cX5_drop 26 = .ok (.ireturn, 1) := by decide +kernel
theorem dX5_drop_27 : decode cX5_drop 27 = .ok (.aload_n 0, 1) := by decide +kernel
theorem dX5_drop_28 : decode cX5_drop 28 = .ok (.getfield 48, 3) := by decide +kernel
theorem dX5_drop_31 : decode cX5_drop 31 = .ok (.iload_n 1, 1) := by decide +kernel
theorem dX5_drop_32 : decode cX5_drop 32 = .ok (.aaload, 1) := by decide +kernel
theorem dX5_drop_33 : decode cX5_drop 33 = .ok (.iconst (-1), 1) := by decide +kernel
theorem dX5_drop_34 : decode cX5_drop 34 = .ok (.putfield 227, 3) := by decide +kernel
theorem dX5_drop_37 : decode cX5_drop 37 = .ok (.iload_n 2, 1) := by decide +kernel
theorem dX5_drop_38 : decode cX5_drop 38 = .ok (.ireturn, 1) := by decide +kernel
theorem dX5_item_0 : decode cX5_item 0 = .ok (.iload_n 1, 1) := by decide +kernel
theorem dX5_item_1 : decode cX5_item 1 = .ok (.invokestatic 218, 3) := by decide +kernel
theorem dX5_item_4 : decode cX5_item 4 = .ok (.ifCond .eq 10, 3) := by decide +kernel
theorem dX5_item_7 : decode cX5_item 7 = .ok (.iload_n 2, 1) := by decide +kernel
theorem dX5_item_8 : decode cX5_item 8 = .ok (.invokestatic 221, 3) := by decide +kernel
theorem dX5_item_11 : decode cX5_item 11 = .ok (.ifCond .ne 7, 3) := by decide +kernel
theorem dX5_item_14 : decode cX5_item 14 = .ok (.ldc2_w 228, 3) := by decide +kernel
theorem dX5_item_17 : decode cX5_item 17 = .ok (.lreturn, 1) := by decide +kernel
theorem dX5_item_18 : decode cX5_item 18 = .ok (.aload_n 0, 1) := by decide +kernel
theorem dX5_item_19 : decode cX5_item 19 = .ok (.getfield 48, 3) := by decide +kernel
theorem dX5_item_22 : decode cX5_item 22 = .ok (.iload_n 1, 1) := by decide +kernel
theorem dX5_item_23 : decode cX5_item 23 = .ok (.aaload, 1) := by decide +kernel
theorem dX5_item_24 : decode cX5_item 24 = .ok (.iload_n 2, 1) := by decide +kernel
theorem dX5_item_25 : decode cX5_item 25 = .ok (.iload_n 3, 1) := by decide +kernel
theorem dX5_item_26 : decode cX5_item 26 = .ok (.iconst 1, 1) := by decide +kernel
theorem dX5_item_27 : decode cX5_item 27 = .ok (.invokevirtual 230, 3) := by decide +kernel
theorem dX5_item_30 : decode cX5_item 30 = .ok (.istore 6, 2) := by decide +kernel
theorem dX5_item_32 : decode cX5_item 32 = .ok (.iload 6, 2) := by decide +kernel
theorem dX5_item_34 : decode cX5_item 34 = .ok (.ifCond .eq 7, 3) := by decide +kernel
theorem dX5_item_37 : decode cX5_item 37 = .ok (.iload 6, 2) := by decide +kernel
theorem dX5_item_39 : decode cX5_item 39 = .ok (.i2l, 1) := by decide +kernel
theorem dX5_item_40 : decode cX5_item 40 = .ok (.lreturn, 1) := by decide +kernel
theorem dX5_item_41 : decode cX5_item 41 = .ok (.aload_n 0, 1) := by decide +kernel
theorem dX5_item_42 : decode cX5_item 42 = .ok (.getfield 48, 3) := by decide +kernel
theorem dX5_item_45 : decode cX5_item 45 = .ok (.iload_n 1, 1) := by decide +kernel
theorem dX5_item_46 : decode cX5_item 46 = .ok (.aaload, 1) := by decide +kernel
theorem dX5_item_47 : decode cX5_item 47 = .ok (.iload_n 3, 1) := by decide +kernel
theorem dX5_item_48 : decode cX5_item 48 = .ok (.lload 4, 2) := by decide +kernel
theorem dX5_item_50 : decode cX5_item 50 = .ok (.invokevirtual 234, 3) := by decide +kernel
theorem dX5_item_53 : decode cX5_item 53 = .ok (.lreturn, 1) := by decide +kernel
theorem dX5_copy_0 : decode cX5_copy 0 = .ok (.iload_n 1, 1) := by decide +kernel
theorem dX5_copy_1 : decode cX5_copy 1 = .ok (.invokestatic 218, 3) := by decide +kernel
theorem dX5_copy_4 : decode cX5_copy 4 = .ok (.ifCond .eq 10, 3) := by decide +kernel
theorem dX5_copy_7 : decode cX5_copy 7 = .ok (.iload_n 3, 1) := by decide +kernel
theorem dX5_copy_8 : decode cX5_copy 8 = .ok (.invokestatic 218, 3) := by decide +kernel
theorem dX5_copy_11 : decode cX5_copy 11 = .ok (.ifCond .ne 5, 3) := by decide +kernel
theorem dX5_copy_14 : decode cX5_copy 14 = .ok (.iconst (-1), 1) := by decide +kernel
theorem dX5_copy_15 : decode cX5_copy 15 = .ok (.ireturn, 1) := by decide +kernel
theorem dX5_copy_16 : decode cX5_copy 16 = .ok (.aload_n 0, 1) := by decide +kernel
theorem dX5_copy_17 : decode cX5_copy 17 = .ok (.getfield 48, 3) := by decide +kernel
theorem dX5_copy_20 : decode cX5_copy 20 = .ok (.iload_n 1, 1) := by decide +kernel
theorem dX5_copy_21 : decode cX5_copy 21 = .ok (.aaload, 1) := by decide +kernel
theorem dX5_copy_22 : decode cX5_copy 22 = .ok (.astore 6, 2) := by decide +kernel
theorem dX5_copy_24 : decode cX5_copy 24 = .ok (.aload_n 0, 1) := by decide +kernel
theorem dX5_copy_25 : decode cX5_copy 25 = .ok (.getfield 48, 3) := by decide +kernel
theorem dX5_copy_28 : decode cX5_copy 28 = .ok (.iload_n 3, 1) := by decide +kernel
theorem dX5_copy_29 : decode cX5_copy 29 = .ok (.aaload, 1) := by decide +kernel
theorem dX5_copy_30 : decode cX5_copy 30 = .ok (.astore 7, 2) := by decide +kernel
theorem dX5_copy_32 : decode cX5_copy 32 = .ok (.aload 6, 2) := by decide +kernel
theorem dX5_copy_34 : decode cX5_copy 34 = .ok (.getfield 227, 3) := by decide +kernel
theorem dX5_copy_37 : decode cX5_copy 37 = .ok (.iconst (-1), 1) := by decide +kernel
theorem dX5_copy_38 : decode cX5_copy 38 = .ok (.if_icmp .eq 12, 3) := by decide +kernel
theorem dX5_copy_41 : decode cX5_copy 41 = .ok (.aload 7, 2) := by decide +kernel
theorem dX5_copy_43 : decode cX5_copy 43 = .ok (.getfield 227, 3) := by decide +kernel
theorem dX5_copy_46 : decode cX5_copy 46 = .ok (.iconst (-1), 1) := by decide +kernel
theorem dX5_copy_47 : decode cX5_copy 47 = .ok (.if_icmp .ne 6, 3) := by decide +kernel
theorem dX5_copy_50 : decode cX5_copy 50 = .ok (.bipush (-11), 2) := by decide +kernel
theorem dX5_copy_52 : decode cX5_copy 52 = .ok (.ireturn, 1) := by decide +kernel
theorem dX5_copy_53 : decode cX5_copy 53 = .ok (.aload 7, 2) := by decide +kernel
theorem dX5_copy_55 : decode cX5_copy 55 = .ok (.aload 6, 2) := by decide +kernel
theorem dX5_copy_57 : decode cX5_copy 57 = .ok (.getfield 238, 3) := by decide +kernel
theorem dX5_copy_60 : decode cX5_copy 60 = .ok (.iload 4, 2) := by decide +kernel
theorem dX5_copy_62 : decode cX5_copy 62 = .ok (.iload 5, 2) := by decide +kernel
theorem dX5_copy_64 : decode cX5_copy 64 = .ok (.invokevirtual 230, 3) := by decide +kernel
theorem dX5_copy_67 : decode cX5_copy 67 = .ok (.istore 8, 2) := by decide +kernel
theorem dX5_copy_69 : decode cX5_copy 69 = .ok (.iload 8, 2) := by decide +kernel
theorem dX5_copy_71 : decode cX5_copy 71 = .ok (.ifCond .ne 18, 3) := by decide +kernel
theorem dX5_copy_74 : decode cX5_copy 74 = .ok (.aload 6, 2) := by decide +kernel
theorem dX5_copy_76 : decode cX5_copy 76 = .ok (.aload 6, 2) := by decide +kernel
theorem dX5_copy_78 : decode cX5_copy 78 = .ok (.getfield 238, 3) := by decide +kernel
theorem dX5_copy_81 : decode cX5_copy 81 = .ok (.iload_n 2, 1) := by decide +kernel
theorem dX5_copy_82 : decode cX5_copy 82 = .ok (.iload 5, 2) := by decide +kernel
theorem dX5_copy_84 : decode cX5_copy 84 = .ok (.invokevirtual 230, 3) := by decide +kernel
theorem dX5_copy_87 : decode cX5_copy 87 = .ok (.istore 8, 2) := by decide +kernel
theorem dX5_copy_89 : decode cX5_copy 89 = .ok (.iload 8, 2) := by decide +kernel
theorem dX5_copy_91 : decode cX5_copy 91 = .ok (.ifCond .eq 6, 3) := by decide +kernel
theorem dX5_copy_94 : decode cX5_copy 94 = .ok (.iload 8, 2) := by decide +kernel
theorem dX5_copy_96 : decode cX5_copy 96 = .ok (.ireturn, 1) := by decide +kernel
theorem dX5_copy_97 : decode cX5_copy 97 = .ok (.aload 6, 2) := by decide +kernel
theorem dX5_copy_99 : decode cX5_copy 99 = .ok (.getfield 241, 3) := by decide +kernel
theorem dX5_copy_102 : decode cX5_copy 102 = .ok (.iload_n 2, 1) := by decide +kernel
theorem dX5_copy_103 : decode cX5_copy 103 = .ok (.aload 7, 2) := by decide +kernel
theorem dX5_copy_105 : decode cX5_copy 105 = .ok (.getfield 241, 3) := by decide +kernel
theorem dX5_copy_108 : decode cX5_copy 108 = .ok (.iload 4, 2) := by decide +kernel
theorem dX5_copy_110 : decode cX5_copy 110 = .ok (.iload 5, 2) := by decide +kernel
theorem dX5_copy_112 : decode cX5_copy 112 = .ok (.invokestatic 245, 3) := by decide +kernel
theorem dX5_copy_115 : decode cX5_copy 115 = .ok (.iload 5, 2) := by decide +kernel
theorem dX5_copy_117 : decode cX5_copy 117 = .ok (.ireturn, 1) := by decide +kernel
theorem dX5_spell_0 : decode cX5_spell 0 = .ok (.aload_n 0, 1) := by decide +kernel
theorem dX5_spell_1 : decode cX5_spell 1 = .ok (.iload_n 1, 1) := by decide +kernel
theorem dX5_spell_2 : decode cX5_spell 2 = .ok (.invokevirtual 98, 3) := by decide +kernel
theorem dX5_spell_5 : decode cX5_spell 5 = .ok (.ifCond .eq 17, 3) := by decide +kernel
theorem dX5_spell_8 : decode cX5_spell 8 = .ok (.iload_n 2, 1) := by decide +kernel
theorem dX5_spell_9 : decode cX5_spell 9 = .ok (.invokestatic 218, 3) := by decide +kernel
theorem dX5_spell_12 : decode cX5_spell 12 = .ok (.ifCond .eq 10, 3) := by decide +kernel
theorem dX5_spell_15 : decode cX5_spell 15 = .ok (.iload_n 3, 1) := by decide +kernel
theorem dX5_spell_16 : decode cX5_spell 16 = .ok (.invokestatic 221, 3) := by decide +kernel
theorem dX5_spell_19 : decode cX5_spell 19 = .ok (.ifCond .ne 5, 3) := by decide +kernel
theorem dX5_spell_22 : decode cX5_spell 22 = .ok (.iconst (-1), 1) := by decide +kernel
theorem dX5_spell_23 : decode cX5_spell 23 = .ok (.ireturn, 1) := by decide +kernel
theorem dX5_spell_24 : decode cX5_spell 24 = .ok (.aload_n 0, 1) := by decide +kernel
theorem dX5_spell_25 : decode cX5_spell 25 = .ok (.getfield 12, 3) := by decide +kernel
theorem dX5_spell_28 : decode cX5_spell 28 = .ok (.getfield 101, 3) := by decide +kernel
theorem dX5_spell_31 : decode cX5_spell 31 = .ok (.iload_n 1, 1) := by decide +kernel
theorem dX5_spell_32 : decode cX5_spell 32 = .ok (.iaload, 1) := by decide +kernel
theorem dX5_spell_33 : decode cX5_spell 33 = .ok (.istore 5, 2) := by decide +kernel
theorem dX5_spell_35 : decode cX5_spell 35 = .ok (.aload_n 0, 1) := by decide +kernel
theorem dX5_spell_36 : decode cX5_spell 36 = .ok (.getfield 48, 3) := by decide +kernel
theorem dX5_spell_39 : decode cX5_spell 39 = .ok (.iload_n 2, 1) := by decide +kernel
theorem dX5_spell_40 : decode cX5_spell 40 = .ok (.aaload, 1) := by decide +kernel
theorem dX5_spell_41 : decode cX5_spell 41 = .ok (.iload_n 3, 1) := by decide +kernel
theorem dX5_spell_42 : decode cX5_spell 42 = .ok (.iload 4, 2) := by decide +kernel
theorem dX5_spell_44 : decode cX5_spell 44 = .ok (.iload 5, 2) := by decide +kernel
theorem dX5_spell_46 : decode cX5_spell 46 = .ok (.invokevirtual 230, 3) := by decide +kernel
theorem dX5_spell_49 : decode cX5_spell 49 = .ok (.istore 6, 2) := by decide +kernel
theorem dX5_spell_51 : decode cX5_spell 51 = .ok (.iload 6, 2) := by decide +kernel
theorem dX5_spell_53 : decode cX5_spell 53 = .ok (.ifCond .eq 6, 3) := by decide +kernel
theorem dX5_spell_56 : decode cX5_spell 56 = .ok (.iload 6, 2) := by decide +kernel
theorem dX5_spell_58 : decode cX5_spell 58 = .ok (.ireturn, 1) := by decide +kernel
theorem dX5_spell_59 : decode cX5_spell 59 = .ok (.aload_n 0, 1) := by decide +kernel
theorem dX5_spell_60 : decode cX5_spell 60 = .ok (.getfield 12, 3) := by decide +kernel
theorem dX5_spell_63 : decode cX5_spell 63 = .ok (.iload_n 1, 1) := by decide +kernel
theorem dX5_spell_64 : decode cX5_spell 64 = .ok (.invokevirtual 104, 3) := by decide +kernel
theorem dX5_spell_67 : decode cX5_spell 67 = .ok (.istore 7, 2) := by decide +kernel
theorem dX5_spell_69 : decode cX5_spell 69 = .ok (.iconst 0, 1) := by decide +kernel
theorem dX5_spell_70 : decode cX5_spell 70 = .ok (.istore 8, 2) := by decide +kernel
theorem dX5_spell_72 : decode cX5_spell 72 = .ok (.iload 8, 2) := by decide +kernel
theorem dX5_spell_74 : decode cX5_spell 74 = .ok (.iload 5, 2) := by decide +kernel
theorem dX5_spell_76 : decode cX5_spell 76 = .ok (.if_icmp .ge 38, 3) := by decide +kernel
theorem dX5_spell_79 : decode cX5_spell 79 = .ok (.aload_n 0, 1) := by decide +kernel
theorem dX5_spell_80 : decode cX5_spell 80 = .ok (.getfield 48, 3) := by decide +kernel
theorem dX5_spell_83 : decode cX5_spell 83 = .ok (.iload_n 2, 1) := by decide +kernel
theorem dX5_spell_84 : decode cX5_spell 84 = .ok (.aaload, 1) := by decide +kernel
theorem dX5_spell_85 : decode cX5_spell 85 = .ok (.iload 4, 2) := by decide +kernel
theorem dX5_spell_87 : decode cX5_spell 87 = .ok (.iload 8, 2) := by decide +kernel
theorem dX5_spell_89 : decode cX5_spell 89 = .ok (.iadd, 1) := by decide +kernel
theorem dX5_spell_90 : decode cX5_spell 90 = .ok (.aload_n 0, 1) := by decide +kernel
theorem dX5_spell_91 : decode cX5_spell 91 = .ok (.getfield 12, 3) := by decide +kernel
theorem dX5_spell_94 : decode cX5_spell 94 = .ok (.getfield 86, 3) := by decide +kernel
theorem dX5_spell_97 : decode cX5_spell 97 = .ok (.iload 7, 2) := by decide +kernel
theorem dX5_spell_99 : decode cX5_spell 99 = .ok (.iload 8, 2) := by decide +kernel
theorem dX5_spell_101 : decode cX5_spell 101 = .ok (.iadd, 1) := by decide +kernel
theorem dX5_spell_102 : decode cX5_spell 102 = .ok (.iaload, 1) := by decide +kernel
theorem dX5_spell_103 : decode cX5_spell 103 = .ok (.i2l, 1) := by decide +kernel
theorem dX5_spell_104 : decode cX5_spell 104 = .ok (.invokevirtual 234, 3) := by decide +kernel
theorem dX5_spell_107 : decode cX5_spell 107 = .ok (.pop2, 1) := by decide +kernel
theorem dX5_spell_108 : decode cX5_spell 108 = .ok (.iinc 8 1, 3) := by decide +kernel
theorem dX5_spell_111 : decode cX5_spell 111 = .ok (.goto (-39), 3) := by decide +kernel
theorem dX5_spell_114 : decode cX5_spell 114 = .ok (.iload 5, 2) := by decide +kernel
theorem dX5_spell_116 : decode cX5_spell 116 = .ok (.ireturn, 1) := by decide +kernel
theorem dX5_read_0 : decode cX5_read 0 = .ok (.iload_n 1, 1) := by decide +kernel
theorem dX5_read_1 : decode cX5_read 1 = .ok (.invokestatic 218, 3) := by decide +kernel
theorem dX5_read_4 : decode cX5_read 4 = .ok (.ifCond .eq 21, 3) := by decide +kernel
theorem dX5_read_7 : decode cX5_read 7 = .ok (.iload_n 2, 1) := by decide +kernel
theorem dX5_read_8 : decode cX5_read 8 = .ok (.invokestatic 221, 3) := by decide +kernel
theorem dX5_read_11 : decode cX5_read 11 = .ok (.ifCond .eq 14, 3) := by decide +kernel
theorem dX5_read_14 : decode cX5_read 14 = .ok (.iload 4, 2) := by decide +kernel
theorem dX5_read_16 : decode cX5_read 16 = .ok (.iconst 0, 1) := by decide +kernel
theorem dX5_read_17 : decode cX5_read 17 = .ok (.bipush 48, 2) := by decide +kernel
theorem dX5_read_19 : decode cX5_read 19 = .ok (.invokestatic 129, 3) := by decide +kernel
theorem dX5_read_22 : decode cX5_read 22 = .ok (.ifCond .ne 5, 3) := by decide +kernel
theorem dX5_read_25 : decode cX5_read 25 = .ok (.iconst (-1), 1) := by decide +kernel
theorem dX5_read_26 : decode cX5_read 26 = .ok (.ireturn, 1) := by decide +kernel
theorem dX5_read_27 : decode cX5_read 27 = .ok (.aload_n 0, 1) := by decide +kernel
theorem dX5_read_28 : decode cX5_read 28 = .ok (.getfield 48, 3) := by decide +kernel
theorem dX5_read_31 : decode cX5_read 31 = .ok (.iload_n 1, 1) := by decide +kernel
theorem dX5_read_32 : decode cX5_read 32 = .ok (.aaload, 1) := by decide +kernel
theorem dX5_read_33 : decode cX5_read 33 = .ok (.astore 5, 2) := by decide +kernel
theorem dX5_read_35 : decode cX5_read 35 = .ok (.aload 5, 2) := by decide +kernel
theorem dX5_read_37 : decode cX5_read 37 = .ok (.iload_n 2, 1) := by decide +kernel
theorem dX5_read_38 : decode cX5_read 38 = .ok (.iload_n 3, 1) := by decide +kernel
theorem dX5_read_39 : decode cX5_read 39 = .ok (.iload 4, 2) := by decide +kernel
theorem dX5_read_41 : decode cX5_read 41 = .ok (.invokevirtual 230, 3) := by decide +kernel
theorem dX5_read_44 : decode cX5_read 44 = .ok (.istore 6, 2) := by decide +kernel
theorem dX5_read_46 : decode cX5_read 46 = .ok (.iload 6, 2) := by decide +kernel
theorem dX5_read_48 : decode cX5_read 48 = .ok (.ifCond .eq 6, 3) := by decide +kernel
theorem dX5_read_51 : decode cX5_read 51 = .ok (.iload 6, 2) := by decide +kernel
theorem dX5_read_53 : decode cX5_read 53 = .ok (.ireturn, 1) := by decide +kernel
theorem dX5_read_54 : decode cX5_read 54 = .ok (.aload 5, 2) := by decide +kernel
theorem dX5_read_56 : decode cX5_read 56 = .ok (.iload_n 3, 1) := by decide +kernel
theorem dX5_read_57 : decode cX5_read 57 = .ok (.iload 4, 2) := by decide +kernel
theorem dX5_read_59 : decode cX5_read 59 = .ok (.invokevirtual 251, 3) := by decide +kernel
theorem dX5_read_62 : decode cX5_read 62 = .ok (.ifCond .ne 6, 3) := by decide +kernel
theorem dX5_read_65 : decode cX5_read 65 = .ok (.bipush (-2), 2) := by decide +kernel
theorem dX5_read_67 : decode cX5_read 67 = .ok (.ireturn, 1) := by decide +kernel
theorem dX5_read_68 : decode cX5_read 68 = .ok (.aload_n 0, 1) := by decide +kernel
theorem dX5_read_69 : decode cX5_read 69 = .ok (.getfield 42, 3) := by decide +kernel
theorem dX5_read_72 : decode cX5_read 72 = .ok (.getfield 137, 3) := by decide +kernel
theorem dX5_read_75 : decode cX5_read 75 = .ok (.iload 4, 2) := by decide +kernel
theorem dX5_read_77 : decode cX5_read 77 = .ok (.iadd, 1) := by decide +kernel
theorem dX5_read_78 : decode cX5_read 78 = .ok (.bipush 48, 2) := by decide +kernel
theorem dX5_read_80 : decode cX5_read 80 = .ok (.if_icmp .le 6, 3) := by decide +kernel
theorem dX5_read_83 : decode cX5_read 83 = .ok (.bipush (-3), 2) := by decide +kernel
theorem dX5_read_85 : decode cX5_read 85 = .ok (.ireturn, 1) := by decide +kernel
theorem dX5_read_86 : decode cX5_read 86 = .ok (.iconst 0, 1) := by decide +kernel
theorem dX5_read_87 : decode cX5_read 87 = .ok (.istore 7, 2) := by decide +kernel
theorem dX5_read_89 : decode cX5_read 89 = .ok (.iload 7, 2) := by decide +kernel
theorem dX5_read_91 : decode cX5_read 91 = .ok (.iload 4, 2) := by decide +kernel
theorem dX5_read_93 : decode cX5_read 93 = .ok (.if_icmp .ge 27, 3) := by decide +kernel
theorem dX5_read_96 : decode cX5_read 96 = .ok (.aload_n 0, 1) := by decide +kernel
theorem dX5_read_97 : decode cX5_read 97 = .ok (.getfield 42, 3) := by decide +kernel
theorem dX5_read_100 : decode cX5_read 100 = .ok (.aload 5, 2) := by decide +kernel
theorem dX5_read_102 : decode cX5_read 102 = .ok (.getfield 241, 3) := by decide +kernel
theorem dX5_read_105 : decode cX5_read 105 = .ok (.iload_n 3, 1) := by decide +kernel
theorem dX5_read_106 : decode cX5_read 106 = .ok (.iload 7, 2) := by decide +kernel
theorem dX5_read_108 : decode cX5_read 108 = .ok (.iadd, 1) := by decide +kernel
theorem dX5_read_109 : decode cX5_read 109 = .ok (.laload, 1) := by decide +kernel
theorem dX5_read_110 : decode cX5_read 110 = .ok (.l2i, 1) := by decide +kernel
theorem dX5_read_111 : decode cX5_read 111 = .ok (.invokevirtual 215, 3) := by decide +kernel
theorem dX5_read_114 : decode cX5_read 114 = .ok (.iinc 7 1, 3) := by decide +kernel
theorem dX5_read_117 : decode cX5_read 117 = .ok (.goto (-28), 3) := by decide +kernel
theorem dX5_read_120 : decode cX5_read 120 = .ok (.aload_n 0, 1) := by decide +kernel
theorem dX5_read_121 : decode cX5_read 121 = .ok (.getfield 42, 3) := by decide +kernel
theorem dX5_read_124 : decode cX5_read 124 = .ok (.getfield 137, 3) := by decide +kernel
theorem dX5_read_127 : decode cX5_read 127 = .ok (.ireturn, 1) := by decide +kernel
theorem dX5_count_0 : decode cX5_count 0 = .ok (.iload_n 1, 1) := by decide +kernel
theorem dX5_count_1 : decode cX5_count 1 = .ok (.tableswitch 145 0 7 #[47, 55, 63, 71, 79, 106, 129, 137], 47) := by decide +kernel
theorem dX5_count_48 : decode cX5_count 48 = .ok (.aload_n 0, 1) := by decide +kernel
theorem dX5_count_49 : decode cX5_count 49 = .ok (.getfield 12, 3) := by decide +kernel
theorem dX5_count_52 : decode cX5_count 52 = .ok (.getfield 64, 3) := by decide +kernel
theorem dX5_count_55 : decode cX5_count 55 = .ok (.ireturn, 1) := by decide +kernel
theorem dX5_count_56 : decode cX5_count 56 = .ok (.aload_n 0, 1) := by decide +kernel
theorem dX5_count_57 : decode cX5_count 57 = .ok (.getfield 12, 3) := by decide +kernel
theorem dX5_count_60 : decode cX5_count 60 = .ok (.getfield 148, 3) := by decide +kernel
theorem dX5_count_63 : decode cX5_count 63 = .ok (.ireturn, 1) := by decide +kernel
theorem dX5_count_64 : decode cX5_count 64 = .ok (.aload_n 0, 1) := by decide +kernel
theorem dX5_count_65 : decode cX5_count 65 = .ok (.getfield 12, 3) := by decide +kernel
theorem dX5_count_68 : decode cX5_count 68 = .ok (.invokevirtual 255, 3) := by decide +kernel
theorem dX5_count_71 : decode cX5_count 71 = .ok (.ireturn, 1) := by decide +kernel
theorem dX5_count_72 : decode cX5_count 72 = .ok (.aload_n 0, 1) := by decide +kernel
theorem dX5_count_73 : decode cX5_count 73 = .ok (.getfield 12, 3) := by decide +kernel
theorem dX5_count_76 : decode cX5_count 76 = .ok (.invokevirtual 258, 3) := by decide +kernel
theorem dX5_count_79 : decode cX5_count 79 = .ok (.ireturn, 1) := by decide +kernel
theorem dX5_count_80 : decode cX5_count 80 = .ok (.aload_n 0, 1) := by decide +kernel
theorem dX5_count_81 : decode cX5_count 81 = .ok (.getfield 12, 3) := by decide +kernel
theorem dX5_count_84 : decode cX5_count 84 = .ok (.invokevirtual 176, 3) := by decide +kernel
theorem dX5_count_87 : decode cX5_count 87 = .ok (.istore_n 2, 1) := by decide +kernel
theorem dX5_count_88 : decode cX5_count 88 = .ok (.iload_n 2, 1) := by decide +kernel
theorem dX5_count_89 : decode cX5_count 89 = .ok (.iconst (-1), 1) := by decide +kernel
theorem dX5_count_90 : decode cX5_count 90 = .ok (.if_icmp .ne 7, 3) := by decide +kernel
theorem dX5_count_93 : decode cX5_count 93 = .ok (.iconst 0, 1) := by decide +kernel
theorem dX5_count_94 : decode cX5_count 94 = .ok (.goto 12, 3) := by decide +kernel
theorem dX5_count_97 : decode cX5_count 97 = .ok (.aload_n 0, 1) := by decide +kernel
theorem dX5_count_98 : decode cX5_count 98 = .ok (.getfield 12, 3) := by decide +kernel
theorem dX5_count_101 : decode cX5_count 101 = .ok (.getfield 101, 3) := by decide +kernel
theorem dX5_count_104 : decode cX5_count 104 = .ok (.iload_n 2, 1) := by decide +kernel
theorem dX5_count_105 : decode cX5_count 105 = .ok (.iaload, 1) := by decide +kernel
theorem dX5_count_106 : decode cX5_count 106 = .ok (.ireturn, 1) := by decide +kernel
theorem dX5_count_107 : decode cX5_count 107 = .ok (.aload_n 0, 1) := by decide +kernel
theorem dX5_count_108 : decode cX5_count 108 = .ok (.getfield 12, 3) := by decide +kernel
theorem dX5_count_111 : decode cX5_count 111 = .ok (.getfield 148, 3) := by decide +kernel
theorem dX5_count_114 : decode cX5_count 114 = .ok (.aload_n 0, 1) := by decide +kernel
theorem dX5_count_115 : decode cX5_count 115 = .ok (.getfield 12, 3) := by decide +kernel
theorem dX5_count_118 : decode cX5_count 118 = .ok (.getfield 64, 3) := by decide +kernel
theorem dX5_count_121 : decode cX5_count 121 = .ok (.if_icmp .ne 7, 3) := by decide +kernel
theorem dX5_count_124 : decode cX5_count 124 = .ok (.iconst 1, 1) := by decide +kernel
theorem dX5_count_125 : decode cX5_count 125 = .ok (.goto 4, 3) := by decide +kernel
theorem dX5_count_128 : decode cX5_count 128 = .ok (.iconst 0, 1) := by decide +kernel
theorem dX5_count_129 : decode cX5_count 129 = .ok (.ireturn, 1) := by decide +kernel
theorem dX5_count_130 : decode cX5_count 130 = .ok (.aload_n 0, 1) := by decide +kernel
theorem dX5_count_131 : decode cX5_count 131 = .ok (.getfield 22, 3) := by decide +kernel
theorem dX5_count_134 : decode cX5_count 134 = .ok (.getfield 93, 3) := by decide +kernel
theorem dX5_count_137 : decode cX5_count 137 = .ok (.ireturn, 1) := by decide +kernel
theorem dX5_count_138 : decode cX5_count 138 = .ok (.aload_n 0, 1) := by decide +kernel
theorem dX5_count_139 : decode cX5_count 139 = .ok (.getfield 42, 3) := by decide +kernel
theorem dX5_count_142 : decode cX5_count 142 = .ok (.getfield 137, 3) := by decide +kernel
theorem dX5_count_145 : decode cX5_count 145 = .ok (.ireturn, 1) := by decide +kernel
theorem dX5_count_146 : decode cX5_count 146 = .ok (.iconst (-1), 1) := by decide +kernel
theorem dX5_count_147 : decode cX5_count 147 = .ok (.ireturn, 1) := by decide +kernel
theorem dX5_within_0 : decode cX5_within 0 = .ok (.iload_n 0, 1) := by decide +kernel
theorem dX5_within_1 : decode cX5_within 1 = .ok (.iload_n 1, 1) := by decide +kernel
theorem dX5_within_2 : decode cX5_within 2 = .ok (.if_icmp .lt 12, 3) := by decide +kernel
theorem dX5_within_5 : decode cX5_within 5 = .ok (.iload_n 0, 1) := by decide +kernel
theorem dX5_within_6 : decode cX5_within 6 = .ok (.iload_n 2, 1) := by decide +kernel
theorem dX5_within_7 : decode cX5_within 7 = .ok (.if_icmp .gt 7, 3) := by decide +kernel
theorem dX5_within_10 : decode cX5_within 10 = .ok (.iconst 1, 1) := by decide +kernel
theorem dX5_within_11 : decode cX5_within 11 = .ok (.goto 4, 3) := by decide +kernel
theorem dX5_within_14 : decode cX5_within 14 = .ok (.iconst 0, 1) := by decide +kernel
theorem dX5_within_15 : decode cX5_within 15 = .ok (.ireturn, 1) := by decide +kernel
theorem dX5_isLetter_0 : decode cX5_isLetter 0 = .ok (.iload_n 0, 1) := by decide +kernel
theorem dX5_isLetter_1 : decode cX5_isLetter 1 = .ok (.bipush 97, 2) := by decide +kernel
theorem dX5_isLetter_3 : decode cX5_isLetter 3 = .ok (.bipush 102, 2) := by decide +kernel
theorem dX5_isLetter_5 : decode cX5_isLetter 5 = .ok (.invokestatic 129, 3) := by decide +kernel
theorem dX5_isLetter_8 : decode cX5_isLetter 8 = .ok (.ireturn, 1) := by decide +kernel
theorem dX5_isByte_0 : decode cX5_isByte 0 = .ok (.lload_n 0, 1) := by decide +kernel
theorem dX5_isByte_1 : decode cX5_isByte 1 = .ok (.lconst 0, 1) := by decide +kernel
theorem dX5_isByte_2 : decode cX5_isByte 2 = .ok (.lcmp, 1) := by decide +kernel
theorem dX5_isByte_3 : decode cX5_isByte 3 = .ok (.ifCond .lt 15, 3) := by decide +kernel
theorem dX5_isByte_6 : decode cX5_isByte 6 = .ok (.lload_n 0, 1) := by decide +kernel
theorem dX5_isByte_7 : decode cX5_isByte 7 = .ok (.ldc2_w 261, 3) := by decide +kernel
theorem dX5_isByte_10 : decode cX5_isByte 10 = .ok (.lcmp, 1) := by decide +kernel
theorem dX5_isByte_11 : decode cX5_isByte 11 = .ok (.ifCond .gt 7, 3) := by decide +kernel
theorem dX5_isByte_14 : decode cX5_isByte 14 = .ok (.iconst 1, 1) := by decide +kernel
theorem dX5_isByte_15 : decode cX5_isByte 15 = .ok (.goto 4, 3) := by decide +kernel
theorem dX5_isByte_18 : decode cX5_isByte 18 = .ok (.iconst 0, 1) := by decide +kernel
theorem dX5_isByte_19 : decode cX5_isByte 19 = .ok (.ireturn, 1) := by decide +kernel
theorem dX5_isSheet_0 : decode cX5_isSheet 0 = .ok (.iload_n 0, 1) := by decide +kernel
theorem dX5_isSheet_1 : decode cX5_isSheet 1 = .ok (.iconst 0, 1) := by decide +kernel
theorem dX5_isSheet_2 : decode cX5_isSheet 2 = .ok (.iconst 3, 1) := by decide +kernel
theorem dX5_isSheet_3 : decode cX5_isSheet 3 = .ok (.invokestatic 129, 3) := by decide +kernel
theorem dX5_isSheet_6 : decode cX5_isSheet 6 = .ok (.ireturn, 1) := by decide +kernel
theorem dX5_isLane_0 : decode cX5_isLane 0 = .ok (.iload_n 0, 1) := by decide +kernel
theorem dX5_isLane_1 : decode cX5_isLane 1 = .ok (.iconst 0, 1) := by decide +kernel
theorem dX5_isLane_2 : decode cX5_isLane 2 = .ok (.iconst 3, 1) := by decide +kernel
theorem dX5_isLane_3 : decode cX5_isLane 3 = .ok (.invokestatic 129, 3) := by decide +kernel
theorem dX5_isLane_6 : decode cX5_isLane 6 = .ok (.ireturn, 1) := by decide +kernel
theorem dX5_isPlace_0 : decode cX5_isPlace 0 = .ok (.iload_n 1, 1) := by decide +kernel
theorem dX5_isPlace_1 : decode cX5_isPlace 1 = .ok (.iconst 0, 1) := by decide +kernel
theorem dX5_isPlace_2 : decode cX5_isPlace 2 = .ok (.aload_n 0, 1) := by decide +kernel
theorem dX5_isPlace_3 : decode cX5_isPlace 3 = .ok (.getfield 12, 3) := by decide +kernel
theorem dX5_isPlace_6 : decode cX5_isPlace 6 = .ok (.getfield 64, 3) := by decide +kernel
theorem dX5_isPlace_9 : decode cX5_isPlace 9 = .ok (.iconst 1, 1) := by decide +kernel
theorem dX5_isPlace_10 : decode cX5_isPlace 10 = .ok (.isub, 1) := by decide +kernel
theorem dX5_isPlace_11 : decode cX5_isPlace 11 = .ok (.invokestatic 129, 3) := by decide +kernel
theorem dX5_isPlace_14 : decode cX5_isPlace 14 = .ok (.ireturn, 1) := by decide +kernel
theorem dX5_isNode_0 : decode cX5_isNode 0 = .ok (.iload_n 1, 1) := by decide +kernel
theorem dX5_isNode_1 : decode cX5_isNode 1 = .ok (.iconst 0, 1) := by decide +kernel
theorem dX5_isNode_2 : decode cX5_isNode 2 = .ok (.aload_n 0, 1) := by decide +kernel
theorem dX5_isNode_3 : decode cX5_isNode 3 = .ok (.getfield 12, 3) := by decide +kernel
theorem dX5_isNode_6 : decode cX5_isNode 6 = .ok (.getfield 148, 3) := by decide +kernel
theorem dX5_isNode_9 : decode cX5_isNode 9 = .ok (.iconst 1, 1) := by decide +kernel
theorem dX5_isNode_10 : decode cX5_isNode 10 = .ok (.isub, 1) := by decide +kernel
theorem dX5_isNode_11 : decode cX5_isNode 11 = .ok (.invokestatic 129, 3) := by decide +kernel
theorem dX5_isNode_14 : decode cX5_isNode 14 = .ok (.ireturn, 1) := by decide +kernel
theorem dX5_nodeOrNone_0 : decode cX5_nodeOrNone 0 = .ok (.iload_n 0, 1) := by decide +kernel
theorem dX5_nodeOrNone_1 : decode cX5_nodeOrNone 1 = .ok (.bipush 48, 2) := by decide +kernel
theorem dX5_nodeOrNone_3 : decode cX5_nodeOrNone 3 = .ok (.if_icmp .ge 7, 3) := by decide +kernel
theorem dX5_nodeOrNone_6 : decode cX5_nodeOrNone 6 = .ok (.iload_n 0, 1) := by decide +kernel
theorem dX5_nodeOrNone_7 : decode cX5_nodeOrNone 7 = .ok (.goto 5, 3) := by decide +kernel
theorem dX5_nodeOrNone_10 : decode cX5_nodeOrNone 10 = .ok (.bipush (-4), 2) := by decide +kernel
theorem dX5_nodeOrNone_12 : decode cX5_nodeOrNone 12 = .ok (.ireturn, 1) := by decide +kernel
theorem dX5_fewestFills_0 : decode cX5_fewestFills 0 = .ok (.aload_n 0, 1) := by decide +kernel
theorem dX5_fewestFills_1 : decode cX5_fewestFills 1 = .ok (.getfield 12, 3) := by decide +kernel
theorem dX5_fewestFills_4 : decode cX5_fewestFills 4 = .ok (.getfield 86, 3) := by decide +kernel
theorem dX5_fewestFills_7 : decode cX5_fewestFills 7 = .ok (.astore_n 1, 1) := by decide +kernel
theorem dX5_fewestFills_8 : decode cX5_fewestFills 8 = .ok (.aload_n 0, 1) := by decide +kernel
theorem dX5_fewestFills_9 : decode cX5_fewestFills 9 = .ok (.getfield 12, 3) := by decide +kernel
theorem dX5_fewestFills_12 : decode cX5_fewestFills 12 = .ok (.getfield 64, 3) := by decide +kernel
theorem dX5_fewestFills_15 : decode cX5_fewestFills 15 = .ok (.iconst 1, 1) := by decide +kernel
theorem dX5_fewestFills_16 : decode cX5_fewestFills 16 = .ok (.isub, 1) := by decide +kernel
theorem dX5_fewestFills_17 : decode cX5_fewestFills 17 = .ok (.istore_n 2, 1) := by decide +kernel
theorem dX5_fewestFills_18 : decode cX5_fewestFills 18 = .ok (.iload_n 2, 1) := by decide +kernel
theorem dX5_fewestFills_19 : decode cX5_fewestFills 19 = .ok (.ifCond .lt 90, 3) := by decide +kernel
theorem dX5_fewestFills_22 : decode cX5_fewestFills 22 = .ok (.iconst 0, 1) := by decide +kernel
theorem dX5_fewestFills_23 : decode cX5_fewestFills 23 = .ok (.istore_n 3, 1) := by decide +kernel
theorem dX5_fewestFills_24 : decode cX5_fewestFills 24 = .ok (.aload_n 0, 1) := by decide +kernel
theorem dX5_fewestFills_25 : decode cX5_fewestFills 25 = .ok (.getfield 57, 3) := by decide +kernel
theorem dX5_fewestFills_28 : decode cX5_fewestFills 28 = .ok (.iload_n 2, 1) := by decide +kernel
theorem dX5_fewestFills_29 : decode cX5_fewestFills 29 = .ok (.iconst 0, 1) := by decide +kernel
theorem dX5_fewestFills_30 : decode cX5_fewestFills 30 = .ok (.iastore, 1) := by decide +kernel
theorem dX5_fewestFills_31 : decode cX5_fewestFills 31 = .ok (.iload_n 2, 1) := by decide +kernel
theorem dX5_fewestFills_32 : decode cX5_fewestFills 32 = .ok (.iconst 1, 1) := by decide +kernel
theorem dX5_fewestFills_33 : decode cX5_fewestFills 33 = .ok (.iadd, 1) := by decide +kernel
theorem dX5_fewestFills_34 : decode cX5_fewestFills 34 = .ok (.istore 4, 2) := by decide +kernel
theorem dX5_fewestFills_36 : decode cX5_fewestFills 36 = .ok (.iload 4, 2) := by decide +kernel
theorem dX5_fewestFills_38 : decode cX5_fewestFills 38 = .ok (.aload_n 0, 1) := by decide +kernel
theorem dX5_fewestFills_39 : decode cX5_fewestFills 39 = .ok (.getfield 12, 3) := by decide +kernel
theorem dX5_fewestFills_42 : decode cX5_fewestFills 42 = .ok (.getfield 64, 3) := by decide +kernel
theorem dX5_fewestFills_45 : decode cX5_fewestFills 45 = .ok (.if_icmp .ge 58, 3) := by decide +kernel
theorem dX5_fewestFills_48 : decode cX5_fewestFills 48 = .ok (.aload_n 0, 1) := by decide +kernel
theorem dX5_fewestFills_49 : decode cX5_fewestFills 49 = .ok (.getfield 57, 3) := by decide +kernel
theorem dX5_fewestFills_52 : decode cX5_fewestFills 52 = .ok (.iload 4, 2) := by decide +kernel
theorem dX5_fewestFills_54 : decode cX5_fewestFills 54 = .ok (.iaload, 1) := by decide +kernel
theorem dX5_fewestFills_55 : decode cX5_fewestFills 55 = .ok (.istore 5, 2) := by decide +kernel
theorem dX5_fewestFills_57 : decode cX5_fewestFills 57 = .ok (.aload_n 0, 1) := by decide +kernel
theorem dX5_fewestFills_58 : decode cX5_fewestFills 58 = .ok (.getfield 57, 3) := by decide +kernel
theorem dX5_fewestFills_61 : decode cX5_fewestFills 61 = .ok (.iload 4, 2) := by decide +kernel
theorem dX5_fewestFills_63 : decode cX5_fewestFills 63 = .ok (.aload_n 1, 1) := by decide +kernel
theorem dX5_fewestFills_64 : decode cX5_fewestFills 64 = .ok (.iload_n 2, 1) := by decide +kernel
theorem dX5_fewestFills_65 : decode cX5_fewestFills 65 = .ok (.iaload, 1) := by decide +kernel
theorem dX5_fewestFills_66 : decode cX5_fewestFills 66 = .ok (.aload_n 1, 1) := by decide +kernel
theorem dX5_fewestFills_67 : decode cX5_fewestFills 67 = .ok (.iload 4, 2) := by decide +kernel
theorem dX5_fewestFills_69 : decode cX5_fewestFills 69 = .ok (.iaload, 1) := by decide +kernel
theorem dX5_fewestFills_70 : decode cX5_fewestFills 70 = .ok (.if_icmp .ne 7, 3) := by decide +kernel
theorem dX5_fewestFills_73 : decode cX5_fewestFills 73 = .ok (.iload_n 3, 1) := by decide +kernel
theorem dX5_fewestFills_74 : decode cX5_fewestFills 74 = .ok (.goto 19, 3) := by decide +kernel
theorem dX5_fewestFills_77 : decode cX5_fewestFills 77 = .ok (.iconst 1, 1) := by decide +kernel
theorem dX5_fewestFills_78 : decode cX5_fewestFills 78 = .ok (.iload 5, 2) := by decide +kernel
theorem dX5_fewestFills_80 : decode cX5_fewestFills 80 = .ok (.aload_n 0, 1) := by decide +kernel
theorem dX5_fewestFills_81 : decode cX5_fewestFills 81 = .ok (.getfield 57, 3) := by decide +kernel
theorem dX5_fewestFills_84 : decode cX5_fewestFills 84 = .ok (.iload 4, 2) := by decide +kernel
theorem dX5_fewestFills_86 : decode cX5_fewestFills 86 = .ok (.iconst 1, 1) := by decide +kernel
theorem dX5_fewestFills_87 : decode cX5_fewestFills 87 = .ok (.isub, 1) := by decide +kernel
theorem dX5_fewestFills_88 : decode cX5_fewestFills 88 = .ok (.iaload, 1) := by decide +kernel
theorem dX5_fewestFills_89 : decode cX5_fewestFills 89 = .ok (.invokestatic 263, 3) := by decide +kernel
theorem dX5_fewestFills_92 : decode cX5_fewestFills 92 = .ok (.iadd, 1) := by decide +kernel
theorem dX5_fewestFills_93 : decode cX5_fewestFills 93 = .ok (.iastore, 1) := by decide +kernel
theorem dX5_fewestFills_94 : decode cX5_fewestFills 94 = .ok (.iload 5, 2) := by decide +kernel
theorem dX5_fewestFills_96 : decode cX5_fewestFills 96 = .ok (.istore_n 3, 1) := by decide +kernel
theorem dX5_fewestFills_97 : decode cX5_fewestFills 97 = .ok (.iinc 4 1, 3) := by decide +kernel
theorem dX5_fewestFills_100 : decode cX5_fewestFills 100 = .ok (.goto (-64), 3) := by decide +kernel
theorem dX5_fewestFills_103 : decode cX5_fewestFills 103 = .ok (.iinc 2 (-1), 3) := by decide +kernel
theorem dX5_fewestFills_106 : decode cX5_fewestFills 106 = .ok (.goto (-88), 3) := by decide +kernel
theorem dX5_fewestFills_109 : decode cX5_fewestFills 109 = .ok (.aload_n 0, 1) := by decide +kernel
theorem dX5_fewestFills_110 : decode cX5_fewestFills 110 = .ok (.getfield 12, 3) := by decide +kernel
theorem dX5_fewestFills_113 : decode cX5_fewestFills 113 = .ok (.getfield 64, 3) := by decide +kernel
theorem dX5_fewestFills_116 : decode cX5_fewestFills 116 = .ok (.ifCond .ne 7, 3) := by decide +kernel
theorem dX5_fewestFills_119 : decode cX5_fewestFills 119 = .ok (.iconst 0, 1) := by decide +kernel
theorem dX5_fewestFills_120 : decode cX5_fewestFills 120 = .ok (.goto 17, 3) := by decide +kernel
theorem dX5_fewestFills_123 : decode cX5_fewestFills 123 = .ok (.aload_n 0, 1) := by decide +kernel
theorem dX5_fewestFills_124 : decode cX5_fewestFills 124 = .ok (.getfield 57, 3) := by decide +kernel
theorem dX5_fewestFills_127 : decode cX5_fewestFills 127 = .ok (.aload_n 0, 1) := by decide +kernel
theorem dX5_fewestFills_128 : decode cX5_fewestFills 128 = .ok (.getfield 12, 3) := by decide +kernel
theorem dX5_fewestFills_131 : decode cX5_fewestFills 131 = .ok (.getfield 64, 3) := by decide +kernel
theorem dX5_fewestFills_134 : decode cX5_fewestFills 134 = .ok (.iconst 1, 1) := by decide +kernel
theorem dX5_fewestFills_135 : decode cX5_fewestFills 135 = .ok (.isub, 1) := by decide +kernel
theorem dX5_fewestFills_136 : decode cX5_fewestFills 136 = .ok (.iaload, 1) := by decide +kernel
theorem dX5_fewestFills_137 : decode cX5_fewestFills 137 = .ok (.ireturn, 1) := by decide +kernel
theorem dX5_growMost_0 : decode cX5_growMost 0 = .ok (.iconst (-1), 1) := by decide +kernel
theorem dX5_growMost_1 : decode cX5_growMost 1 = .ok (.istore_n 2, 1) := by decide +kernel
theorem dX5_growMost_2 : decode cX5_growMost 2 = .ok (.iload_n 1, 1) := by decide +kernel
theorem dX5_growMost_3 : decode cX5_growMost 3 = .ok (.invokestatic 191, 3) := by decide +kernel
theorem dX5_growMost_6 : decode cX5_growMost 6 = .ok (.istore_n 3, 1) := by decide +kernel
theorem dX5_growMost_7 : decode cX5_growMost 7 = .ok (.aload_n 0, 1) := by decide +kernel
theorem dX5_growMost_8 : decode cX5_growMost 8 = .ok (.iload_n 1, 1) := by decide +kernel
theorem dX5_growMost_9 : decode cX5_growMost 9 = .ok (.invokevirtual 266, 3) := by decide +kernel
theorem dX5_growMost_12 : decode cX5_growMost 12 = .ok (.iconst 0, 1) := by decide +kernel
theorem dX5_growMost_13 : decode cX5_growMost 13 = .ok (.istore 4, 2) := by decide +kernel
theorem dX5_growMost_15 : decode cX5_growMost 15 = .ok (.iload 4, 2) := by decide +kernel
theorem dX5_growMost_17 : decode cX5_growMost 17 = .ok (.iload_n 3, 1) := by decide +kernel
theorem dX5_growMost_18 : decode cX5_growMost 18 = .ok (.if_icmp .ge 56, 3) := by decide +kernel
theorem dX5_growMost_21 : decode cX5_growMost 21 = .ok (.aload_n 0, 1) := by decide +kernel
theorem dX5_growMost_22 : decode cX5_growMost 22 = .ok (.getfield 16, 3) := by decide +kernel
theorem dX5_growMost_25 : decode cX5_growMost 25 = .ok (.getfield 148, 3) := by decide +kernel
theorem dX5_growMost_28 : decode cX5_growMost 28 = .ok (.iload_n 2, 1) := by decide +kernel
theorem dX5_growMost_29 : decode cX5_growMost 29 = .ok (.if_icmp .le 34, 3) := by decide +kernel
theorem dX5_growMost_32 : decode cX5_growMost 32 = .ok (.aload_n 0, 1) := by decide +kernel
theorem dX5_growMost_33 : decode cX5_growMost 33 = .ok (.getfield 16, 3) := by decide +kernel
theorem dX5_growMost_36 : decode cX5_growMost 36 = .ok (.getfield 148, 3) := by decide +kernel
theorem dX5_growMost_39 : decode cX5_growMost 39 = .ok (.istore_n 2, 1) := by decide +kernel
theorem dX5_growMost_40 : decode cX5_growMost 40 = .ok (.aload_n 0, 1) := by decide +kernel
theorem dX5_growMost_41 : decode cX5_growMost 41 = .ok (.getfield 16, 3) := by decide +kernel
theorem dX5_growMost_44 : decode cX5_growMost 44 = .ok (.getfield 86, 3) := by decide +kernel
theorem dX5_growMost_47 : decode cX5_growMost 47 = .ok (.aload_n 0, 1) := by decide +kernel
theorem dX5_growMost_48 : decode cX5_growMost 48 = .ok (.getfield 12, 3) := by decide +kernel
theorem dX5_growMost_51 : decode cX5_growMost 51 = .ok (.getfield 64, 3) := by decide +kernel
theorem dX5_growMost_54 : decode cX5_growMost 54 = .ok (.aload_n 0, 1) := by decide +kernel
theorem dX5_growMost_55 : decode cX5_growMost 55 = .ok (.getfield 53, 3) := by decide +kernel
theorem dX5_growMost_58 : decode cX5_growMost 58 = .ok (.iconst 0, 1) := by decide +kernel
theorem dX5_growMost_59 : decode cX5_growMost 59 = .ok (.iload_n 1, 1) := by decide +kernel
theorem dX5_growMost_60 : decode cX5_growMost 60 = .ok (.invokestatic 245, 3) := by decide +kernel
theorem dX5_growMost_63 : decode cX5_growMost 63 = .ok (.aload_n 0, 1) := by decide +kernel
theorem dX5_growMost_64 : decode cX5_growMost 64 = .ok (.iload_n 1, 1) := by decide +kernel
theorem dX5_growMost_65 : decode cX5_growMost 65 = .ok (.invokevirtual 269, 3) := by decide +kernel
theorem dX5_growMost_68 : decode cX5_growMost 68 = .ok (.iinc 4 1, 3) := by decide +kernel
theorem dX5_growMost_71 : decode cX5_growMost 71 = .ok (.goto (-56), 3) := by decide +kernel
theorem dX5_growMost_74 : decode cX5_growMost 74 = .ok (.iload_n 2, 1) := by decide +kernel
theorem dX5_growMost_75 : decode cX5_growMost 75 = .ok (.ireturn, 1) := by decide +kernel
theorem dX5_rowsThatBring_0 : decode cX5_rowsThatBring 0 = .ok (.iconst 0, 1) := by decide +kernel
theorem dX5_rowsThatBring_1 : decode cX5_rowsThatBring 1 = .ok (.istore_n 3, 1) := by decide +kernel
theorem dX5_rowsThatBring_2 : decode cX5_rowsThatBring 2 = .ok (.iload_n 1, 1) := by decide +kernel
theorem dX5_rowsThatBring_3 : decode cX5_rowsThatBring 3 = .ok (.invokestatic 191, 3) := by decide +kernel
theorem dX5_rowsThatBring_6 : decode cX5_rowsThatBring 6 = .ok (.istore 4, 2) := by decide +kernel
theorem dX5_rowsThatBring_8 : decode cX5_rowsThatBring 8 = .ok (.aload_n 0, 1) := by decide +kernel
theorem dX5_rowsThatBring_9 : decode cX5_rowsThatBring 9 = .ok (.iload_n 1, 1) := by decide +kernel
theorem dX5_rowsThatBring_10 : decode cX5_rowsThatBring 10 = .ok (.invokevirtual 266, 3) := by decide +kernel
theorem dX5_rowsThatBring_13 : decode cX5_rowsThatBring 13 = .ok (.iconst 0, 1) := by decide +kernel
theorem dX5_rowsThatBring_14 : decode cX5_rowsThatBring 14 = .ok (.istore 5, 2) := by decide +kernel
theorem dX5_rowsThatBring_16 : decode cX5_rowsThatBring 16 = .ok (.iload 5, 2) := by decide +kernel
theorem dX5_rowsThatBring_18 : decode cX5_rowsThatBring 18 = .ok (.iload 4, 2) := by decide +kernel
theorem dX5_rowsThatBring_20 : decode cX5_rowsThatBring 20 = .ok (.if_icmp .ge 36, 3) := by decide +kernel
theorem dX5_rowsThatBring_23 : decode cX5_rowsThatBring 23 = .ok (.aload_n 0, 1) := by decide +kernel
theorem dX5_rowsThatBring_24 : decode cX5_rowsThatBring 24 = .ok (.getfield 16, 3) := by decide +kernel
theorem dX5_rowsThatBring_27 : decode cX5_rowsThatBring 27 = .ok (.getfield 148, 3) := by decide +kernel
theorem dX5_rowsThatBring_30 : decode cX5_rowsThatBring 30 = .ok (.aload_n 0, 1) := by decide +kernel
theorem dX5_rowsThatBring_31 : decode cX5_rowsThatBring 31 = .ok (.getfield 12, 3) := by decide +kernel
theorem dX5_rowsThatBring_34 : decode cX5_rowsThatBring 34 = .ok (.getfield 148, 3) := by decide +kernel
theorem dX5_rowsThatBring_37 : decode cX5_rowsThatBring 37 = .ok (.isub, 1) := by decide +kernel
theorem dX5_rowsThatBring_38 : decode cX5_rowsThatBring 38 = .ok (.iload_n 2, 1) := by decide +kernel
theorem dX5_rowsThatBring_39 : decode cX5_rowsThatBring 39 = .ok (.if_icmp .lt 6, 3) := by decide +kernel
theorem dX5_rowsThatBring_42 : decode cX5_rowsThatBring 42 = .ok (.iinc 3 1, 3) := by decide +kernel
theorem dX5_rowsThatBring_45 : decode cX5_rowsThatBring 45 = .ok (.aload_n 0, 1) := by decide +kernel
theorem dX5_rowsThatBring_46 : decode cX5_rowsThatBring 46 = .ok (.iload_n 1, 1) := by decide +kernel
theorem dX5_rowsThatBring_47 : decode cX5_rowsThatBring 47 = .ok (.invokevirtual 269, 3) := by decide +kernel
theorem dX5_rowsThatBring_50 : decode cX5_rowsThatBring 50 = .ok (.iinc 5 1, 3) := by decide +kernel
theorem dX5_rowsThatBring_53 : decode cX5_rowsThatBring 53 = .ok (.goto (-37), 3) := by decide +kernel
theorem dX5_rowsThatBring_56 : decode cX5_rowsThatBring 56 = .ok (.iload_n 3, 1) := by decide +kernel
theorem dX5_rowsThatBring_57 : decode cX5_rowsThatBring 57 = .ok (.ireturn, 1) := by decide +kernel
theorem dX5_rowsOf_0 : decode cX5_rowsOf 0 = .ok (.iconst 1, 1) := by decide +kernel
theorem dX5_rowsOf_1 : decode cX5_rowsOf 1 = .ok (.istore_n 1, 1) := by decide +kernel
theorem dX5_rowsOf_2 : decode cX5_rowsOf 2 = .ok (.iconst 0, 1) := by decide +kernel
theorem dX5_rowsOf_3 : decode cX5_rowsOf 3 = .ok (.istore_n 2, 1) := by decide +kernel
theorem dX5_rowsOf_4 : decode cX5_rowsOf 4 = .ok (.iload_n 2, 1) := by decide +kernel
theorem dX5_rowsOf_5 : decode cX5_rowsOf 5 = .ok (.iload_n 0, 1) := by decide +kernel
theorem dX5_rowsOf_6 : decode cX5_rowsOf 6 = .ok (.if_icmp .ge 14, 3) := by decide +kernel
theorem dX5_rowsOf_9 : decode cX5_rowsOf 9 = .ok (.iload_n 1, 1) := by decide +kernel
theorem dX5_rowsOf_10 : decode cX5_rowsOf 10 = .ok (.bipush 6, 2) := by decide +kernel
theorem dX5_rowsOf_12 : decode cX5_rowsOf 12 = .ok (.imul, 1) := by decide +kernel
theorem dX5_rowsOf_13 : decode cX5_rowsOf 13 = .ok (.istore_n 1, 1) := by decide +kernel
theorem dX5_rowsOf_14 : decode cX5_rowsOf 14 = .ok (.iinc 2 1, 3) := by decide +kernel
theorem dX5_rowsOf_17 : decode cX5_rowsOf 17 = .ok (.goto (-13), 3) := by decide +kernel
theorem dX5_rowsOf_20 : decode cX5_rowsOf 20 = .ok (.iload_n 1, 1) := by decide +kernel
theorem dX5_rowsOf_21 : decode cX5_rowsOf 21 = .ok (.ireturn, 1) := by decide +kernel
theorem dX5_startRows_0 : decode cX5_startRows 0 = .ok (.aload_n 0, 1) := by decide +kernel
theorem dX5_startRows_1 : decode cX5_startRows 1 = .ok (.getfield 16, 3) := by decide +kernel
theorem dX5_startRows_4 : decode cX5_startRows 4 = .ok (.aload_n 0, 1) := by decide +kernel
theorem dX5_startRows_5 : decode cX5_startRows 5 = .ok (.getfield 12, 3) := by decide +kernel
theorem dX5_startRows_8 : decode cX5_startRows 8 = .ok (.getfield 86, 3) := by decide +kernel
theorem dX5_startRows_11 : decode cX5_startRows 11 = .ok (.iconst 0, 1) := by decide +kernel
theorem dX5_startRows_12 : decode cX5_startRows 12 = .ok (.aload_n 0, 1) := by decide +kernel
theorem dX5_startRows_13 : decode cX5_startRows 13 = .ok (.getfield 12, 3) := by decide +kernel
theorem dX5_startRows_16 : decode cX5_startRows 16 = .ok (.getfield 64, 3) := by decide +kernel
theorem dX5_startRows_19 : decode cX5_startRows 19 = .ok (.invokevirtual 141, 3) := by decide +kernel
theorem dX5_startRows_22 : decode cX5_startRows 22 = .ok (.aload_n 0, 1) := by decide +kernel
theorem dX5_startRows_23 : decode cX5_startRows 23 = .ok (.getfield 16, 3) := by decide +kernel
theorem dX5_startRows_26 : decode cX5_startRows 26 = .ok (.iload_n 1, 1) := by decide +kernel
theorem dX5_startRows_27 : decode cX5_startRows 27 = .ok (.invokevirtual 272, 3) := by decide +kernel
theorem dX5_startRows_30 : decode cX5_startRows 30 = .ok (.return_, 1) := by decide +kernel
theorem dX5_stepRow_0 : decode cX5_stepRow 0 = .ok (.iconst 0, 1) := by decide +kernel
theorem dX5_stepRow_1 : decode cX5_stepRow 1 = .ok (.istore_n 2, 1) := by decide +kernel
theorem dX5_stepRow_2 : decode cX5_stepRow 2 = .ok (.iconst 0, 1) := by decide +kernel
theorem dX5_stepRow_3 : decode cX5_stepRow 3 = .ok (.istore_n 3, 1) := by decide +kernel
theorem dX5_stepRow_4 : decode cX5_stepRow 4 = .ok (.iload_n 3, 1) := by decide +kernel
theorem dX5_stepRow_5 : decode cX5_stepRow 5 = .ok (.iload_n 1, 1) := by decide +kernel
theorem dX5_stepRow_6 : decode cX5_stepRow 6 = .ok (.if_icmp .ge 31, 3) := by decide +kernel
theorem dX5_stepRow_9 : decode cX5_stepRow 9 = .ok (.aload_n 0, 1) := by decide +kernel
theorem dX5_stepRow_10 : decode cX5_stepRow 10 = .ok (.getfield 16, 3) := by decide +kernel
theorem dX5_stepRow_13 : decode cX5_stepRow 13 = .ok (.invokevirtual 76, 3) := by decide +kernel
theorem dX5_stepRow_16 : decode cX5_stepRow 16 = .ok (.bipush 102, 2) := by decide +kernel
theorem dX5_stepRow_18 : decode cX5_stepRow 18 = .ok (.if_icmp .ne 19, 3) := by decide +kernel
theorem dX5_stepRow_21 : decode cX5_stepRow 21 = .ok (.aload_n 0, 1) := by decide +kernel
theorem dX5_stepRow_22 : decode cX5_stepRow 22 = .ok (.getfield 16, 3) := by decide +kernel
theorem dX5_stepRow_25 : decode cX5_stepRow 25 = .ok (.invokevirtual 80, 3) := by decide +kernel
theorem dX5_stepRow_28 : decode cX5_stepRow 28 = .ok (.iinc 2 1, 3) := by decide +kernel
theorem dX5_stepRow_31 : decode cX5_stepRow 31 = .ok (.iinc 3 1, 3) := by decide +kernel
theorem dX5_stepRow_34 : decode cX5_stepRow 34 = .ok (.goto (-30), 3) := by decide +kernel
theorem dX5_stepRow_37 : decode cX5_stepRow 37 = .ok (.iload_n 2, 1) := by decide +kernel
theorem dX5_stepRow_38 : decode cX5_stepRow 38 = .ok (.iload_n 1, 1) := by decide +kernel
theorem dX5_stepRow_39 : decode cX5_stepRow 39 = .ok (.if_icmp .ge 29, 3) := by decide +kernel
theorem dX5_stepRow_42 : decode cX5_stepRow 42 = .ok (.aload_n 0, 1) := by decide +kernel
theorem dX5_stepRow_43 : decode cX5_stepRow 43 = .ok (.getfield 16, 3) := by decide +kernel
theorem dX5_stepRow_46 : decode cX5_stepRow 46 = .ok (.invokevirtual 76, 3) := by decide +kernel
theorem dX5_stepRow_49 : decode cX5_stepRow 49 = .ok (.iconst 1, 1) := by decide +kernel
theorem dX5_stepRow_50 : decode cX5_stepRow 50 = .ok (.iadd, 1) := by decide +kernel
theorem dX5_stepRow_51 : decode cX5_stepRow 51 = .ok (.istore_n 3, 1) := by decide +kernel
theorem dX5_stepRow_52 : decode cX5_stepRow 52 = .ok (.aload_n 0, 1) := by decide +kernel
theorem dX5_stepRow_53 : decode cX5_stepRow 53 = .ok (.getfield 16, 3) := by decide +kernel
theorem dX5_stepRow_56 : decode cX5_stepRow 56 = .ok (.invokevirtual 80, 3) := by decide +kernel
theorem dX5_stepRow_59 : decode cX5_stepRow 59 = .ok (.aload_n 0, 1) := by decide +kernel
theorem dX5_stepRow_60 : decode cX5_stepRow 60 = .ok (.getfield 16, 3) := by decide +kernel
theorem dX5_stepRow_63 : decode cX5_stepRow 63 = .ok (.iload_n 3, 1) := by decide +kernel
theorem dX5_stepRow_64 : decode cX5_stepRow 64 = .ok (.invokevirtual 72, 3) := by decide +kernel
theorem dX5_stepRow_67 : decode cX5_stepRow 67 = .ok (.pop, 1) := by decide +kernel
theorem dX5_stepRow_68 : decode cX5_stepRow 68 = .ok (.aload_n 0, 1) := by decide +kernel
theorem dX5_stepRow_69 : decode cX5_stepRow 69 = .ok (.getfield 16, 3) := by decide +kernel
theorem dX5_stepRow_72 : decode cX5_stepRow 72 = .ok (.iload_n 2, 1) := by decide +kernel
theorem dX5_stepRow_73 : decode cX5_stepRow 73 = .ok (.invokevirtual 272, 3) := by decide +kernel
theorem dX5_stepRow_76 : decode cX5_stepRow 76 = .ok (.return_, 1) := by decide +kernel
theorem dX5_greatestDivisor_0 : decode cX5_greatestDivisor 0 = .ok (.iload_n 0, 1) := by decide +kernel
theorem dX5_greatestDivisor_1 : decode cX5_greatestDivisor 1 = .ok (.istore_n 2, 1) := by decide +kernel
theorem dX5_greatestDivisor_2 : decode cX5_greatestDivisor 2 = .ok (.iload_n 1, 1) := by decide +kernel
theorem dX5_greatestDivisor_3 : decode cX5_greatestDivisor 3 = .ok (.istore_n 3, 1) := by decide +kernel
theorem dX5_greatestDivisor_4 : decode cX5_greatestDivisor 4 = .ok (.iconst 0, 1) := by decide +kernel
theorem dX5_greatestDivisor_5 : decode cX5_greatestDivisor 5 = .ok (.istore 4, 2) := by decide +kernel
theorem dX5_greatestDivisor_7 : decode cX5_greatestDivisor 7 = .ok (.iload 4, 2) := by decide +kernel
theorem dX5_greatestDivisor_9 : decode cX5_greatestDivisor 9 = .ok (.bipush 48, 2) := by decide +kernel
theorem dX5_greatestDivisor_11 : decode cX5_greatestDivisor 11 = .ok (.if_icmp .ge 23, 3) := by decide +kernel
theorem dX5_greatestDivisor_14 : decode cX5_greatestDivisor 14 = .ok (.iload_n 3, 1) := by decide +kernel
theorem dX5_greatestDivisor_15 : decode cX5_greatestDivisor 15 = .ok (.ifCond .eq 19, 3) := by decide +kernel
theorem dX5_greatestDivisor_18 : decode cX5_greatestDivisor 18 = .ok (.iload_n 2, 1) := by decide +kernel
theorem dX5_greatestDivisor_19 : decode cX5_greatestDivisor 19 = .ok (.iload_n 3, 1) := by decide +kernel
theorem dX5_greatestDivisor_20 : decode cX5_greatestDivisor 20 = .ok (.irem, 1) := by decide +kernel
theorem dX5_greatestDivisor_21 : decode cX5_greatestDivisor 21 = .ok (.istore 5, 2) := by decide +kernel
theorem dX5_greatestDivisor_23 : decode cX5_greatestDivisor 23 = .ok (.iload_n 3, 1) := by decide +kernel
theorem dX5_greatestDivisor_24 : decode cX5_greatestDivisor 24 = .ok (.istore_n 2, 1) := by decide +kernel
theorem dX5_greatestDivisor_25 : decode cX5_greatestDivisor 25 = .ok (.iload 5, 2) := by decide +kernel
theorem dX5_greatestDivisor_27 : decode cX5_greatestDivisor 27 = .ok (.istore_n 3, 1) := by decide +kernel
theorem dX5_greatestDivisor_28 : decode cX5_greatestDivisor 28 = .ok (.iinc 4 1, 3) := by decide +kernel
theorem dX5_greatestDivisor_31 : decode cX5_greatestDivisor 31 = .ok (.goto (-24), 3) := by decide +kernel
theorem dX5_greatestDivisor_34 : decode cX5_greatestDivisor 34 = .ok (.iload_n 2, 1) := by decide +kernel
theorem dX5_greatestDivisor_35 : decode cX5_greatestDivisor 35 = .ok (.ireturn, 1) := by decide +kernel
theorem dX6_init_0 : decode cX6_init 0 = .ok (.aload_n 0, 1) := by decide +kernel
theorem dX6_init_1 : decode cX6_init 1 = .ok (.invokespecial 1, 3) := by decide +kernel
theorem dX6_init_4 : decode cX6_init 4 = .ok (.aload_n 0, 1) := by decide +kernel
theorem dX6_init_5 : decode cX6_init 5 = .ok (.bipush 48, 2) := by decide +kernel
theorem dX6_init_7 : decode cX6_init 7 = .ok (.newarray .int, 2) := by decide +kernel
theorem dX6_init_9 : decode cX6_init 9 = .ok (.putfield 7, 3) := by decide +kernel
theorem dX6_init_12 : decode cX6_init 12 = .ok (.aload_n 0, 1) := by decide +kernel
theorem dX6_init_13 : decode cX6_init 13 = .ok (.bipush 24, 2) := by decide +kernel
theorem dX6_init_15 : decode cX6_init 15 = .ok (.newarray .int, 2) := by decide +kernel
theorem dX6_init_17 : decode cX6_init 17 = .ok (.putfield 13, 3) := by decide +kernel
theorem dX6_init_20 : decode cX6_init 20 = .ok (.aload_n 0, 1) := by decide +kernel
theorem dX6_init_21 : decode cX6_init 21 = .ok (.bipush 96, 2) := by decide +kernel
theorem dX6_init_23 : decode cX6_init 23 = .ok (.newarray .int, 2) := by decide +kernel
theorem dX6_init_25 : decode cX6_init 25 = .ok (.putfield 16, 3) := by decide +kernel
theorem dX6_init_28 : decode cX6_init 28 = .ok (.aload_n 0, 1) := by decide +kernel
theorem dX6_init_29 : decode cX6_init 29 = .ok (.iconst 2, 1) := by decide +kernel
theorem dX6_init_30 : decode cX6_init 30 = .ok (.newarray .int, 2) := by decide +kernel
theorem dX6_init_32 : decode cX6_init 32 = .ok (.putfield 19, 3) := by decide +kernel
theorem dX6_init_35 : decode cX6_init 35 = .ok (.aload_n 0, 1) := by decide +kernel
theorem dX6_init_36 : decode cX6_init 36 = .ok (.bipush 48, 2) := by decide +kernel
theorem dX6_init_38 : decode cX6_init 38 = .ok (.newarray .int, 2) := by decide +kernel
theorem dX6_init_40 : decode cX6_init 40 = .ok (.putfield 22, 3) := by decide +kernel
theorem dX6_init_43 : decode cX6_init 43 = .ok (.aload_n 0, 1) := by decide +kernel
theorem dX6_init_44 : decode cX6_init 44 = .ok (.iconst 4, 1) := by decide +kernel
theorem dX6_init_45 : decode cX6_init 45 = .ok (.newarray .int, 2) := by decide +kernel
theorem dX6_init_47 : decode cX6_init 47 = .ok (.putfield 25, 3) := by decide +kernel
theorem dX6_init_50 : decode cX6_init 50 = .ok (.aload_n 0, 1) := by decide +kernel
theorem dX6_init_51 : decode cX6_init 51 = .ok (.iconst 4, 1) := by decide +kernel
theorem dX6_init_52 : decode cX6_init 52 = .ok (.newarray .int, 2) := by decide +kernel
theorem dX6_init_54 : decode cX6_init 54 = .ok (.putfield 28, 3) := by decide +kernel
theorem dX6_init_57 : decode cX6_init 57 = .ok (.aload_n 0, 1) := by decide +kernel
theorem dX6_init_58 : decode cX6_init 58 = .ok (.sipush 192, 3) := by decide +kernel
theorem dX6_init_61 : decode cX6_init 61 = .ok (.newarray .long, 2) := by decide +kernel
theorem dX6_init_63 : decode cX6_init 63 = .ok (.putfield 31, 3) := by decide +kernel
theorem dX6_init_66 : decode cX6_init 66 = .ok (.aload_n 0, 1) := by decide +kernel
theorem dX6_init_67 : decode cX6_init 67 = .ok (.bipush 48, 2) := by decide +kernel
theorem dX6_init_69 : decode cX6_init 69 = .ok (.newarray .long, 2) := by decide +kernel
theorem dX6_init_71 : decode cX6_init 71 = .ok (.putfield 35, 3) := by decide +kernel
theorem dX6_init_74 : decode cX6_init 74 = .ok (.aload_n 0, 1) := by decide +kernel
theorem dX6_init_75 : decode cX6_init 75 = .ok (.bipush 48, 2) := by decide +kernel
theorem dX6_init_77 : decode cX6_init 77 = .ok (.newarray .int, 2) := by decide +kernel
theorem dX6_init_79 : decode cX6_init 79 = .ok (.putfield 38, 3) := by decide +kernel
theorem dX6_init_82 : decode cX6_init 82 = .ok (.aload_n 0, 1) := by decide +kernel
theorem dX6_init_83 : decode cX6_init 83 = .ok (.bipush 48, 2) := by decide +kernel
theorem dX6_init_85 : decode cX6_init 85 = .ok (.newarray .int, 2) := by decide +kernel
theorem dX6_init_87 : decode cX6_init 87 = .ok (.putfield 41, 3) := by decide +kernel
theorem dX6_init_90 : decode cX6_init 90 = .ok (.aload_n 0, 1) := by decide +kernel
theorem dX6_init_91 : decode cX6_init 91 = .ok (.bipush 49, 2) := by decide +kernel
theorem dX6_init_93 : decode cX6_init 93 = .ok (.newarray .int, 2) := by decide +kernel
theorem dX6_init_95 : decode cX6_init 95 = .ok (.putfield 44, 3) := by decide +kernel
theorem dX6_init_98 : decode cX6_init 98 = .ok (.aload_n 0, 1) := by decide +kernel
theorem dX6_init_99 : decode cX6_init 99 = .ok (.iconst 3, 1) := by decide +kernel
theorem dX6_init_100 : decode cX6_init 100 = .ok (.newarray .int, 2) := by decide +kernel
theorem dX6_init_102 : decode cX6_init 102 = .ok (.putfield 47, 3) := by decide +kernel
theorem dX6_init_105 : decode cX6_init 105 = .ok (.aload_n 0, 1) := by decide +kernel
theorem dX6_init_106 : decode cX6_init 106 = .ok (.bipush 48, 2) := by decide +kernel
theorem dX6_init_108 : decode cX6_init 108 = .ok (.newarray .int, 2) := by decide +kernel
theorem dX6_init_110 : decode cX6_init 110 = .ok (.putfield 50, 3) := by decide +kernel
theorem dX6_init_113 : decode cX6_init 113 = .ok (.aload_n 0, 1) := by decide +kernel
theorem dX6_init_114 : decode cX6_init 114 = .ok (.getfield 19, 3) := by decide +kernel
theorem dX6_init_117 : decode cX6_init 117 = .ok (.iconst 0, 1) := by decide +kernel
theorem dX6_init_118 : decode cX6_init 118 = .ok (.iconst (-1), 1) := by decide +kernel
theorem dX6_init_119 : decode cX6_init 119 = .ok (.iastore, 1) := by decide +kernel
theorem dX6_init_120 : decode cX6_init 120 = .ok (.aload_n 0, 1) := by decide +kernel
theorem dX6_init_121 : decode cX6_init 121 = .ok (.getfield 19, 3) := by decide +kernel
theorem dX6_init_124 : decode cX6_init 124 = .ok (.iconst 1, 1) := by decide +kernel
theorem dX6_init_125 : decode cX6_init 125 = .ok (.iconst (-1), 1) := by decide +kernel
theorem dX6_init_126 : decode cX6_init 126 = .ok (.iastore, 1) := by decide +kernel
theorem dX6_init_127 : decode cX6_init 127 = .ok (.iconst 0, 1) := by decide +kernel
theorem dX6_init_128 : decode cX6_init 128 = .ok (.istore_n 1, 1) := by decide +kernel
theorem dX6_init_129 : decode cX6_init 129 = .ok (.iload_n 1, 1) := by decide +kernel
theorem dX6_init_130 : decode cX6_init 130 = .ok (.iconst 4, 1) := by decide +kernel
theorem dX6_init_131 : decode cX6_init 131 = .ok (.if_icmp .ge 16, 3) := by decide +kernel
theorem dX6_init_134 : decode cX6_init 134 = .ok (.aload_n 0, 1) := by decide +kernel
theorem dX6_init_135 : decode cX6_init 135 = .ok (.getfield 25, 3) := by decide +kernel
theorem dX6_init_138 : decode cX6_init 138 = .ok (.iload_n 1, 1) := by decide +kernel
theorem dX6_init_139 : decode cX6_init 139 = .ok (.iconst (-1), 1) := by decide +kernel
theorem dX6_init_140 : decode cX6_init 140 = .ok (.iastore, 1) := by decide +kernel
theorem dX6_init_141 : decode cX6_init 141 = .ok (.iinc 1 1, 3) := by decide +kernel
theorem dX6_init_144 : decode cX6_init 144 = .ok (.goto (-15), 3) := by decide +kernel
theorem dX6_init_147 : decode cX6_init 147 = .ok (.return_, 1) := by decide +kernel
theorem dX6_within_0 : decode cX6_within 0 = .ok (.lload_n 0, 1) := by decide +kernel
theorem dX6_within_1 : decode cX6_within 1 = .ok (.lload_n 2, 1) := by decide +kernel
theorem dX6_within_2 : decode cX6_within 2 = .ok (.lcmp, 1) := by decide +kernel
theorem dX6_within_3 : decode cX6_within 3 = .ok (.ifCond .lt 14, 3) := by decide +kernel
theorem dX6_within_6 : decode cX6_within 6 = .ok (.lload_n 0, 1) := by decide +kernel
theorem dX6_within_7 : decode cX6_within 7 = .ok (.lload 4, 2) := by decide +kernel
theorem dX6_within_9 : decode cX6_within 9 = .ok (.lcmp, 1) := by decide +kernel
theorem dX6_within_10 : decode cX6_within 10 = .ok (.ifCond .gt 7, 3) := by decide +kernel
theorem dX6_within_13 : decode cX6_within 13 = .ok (.iconst 1, 1) := by decide +kernel
theorem dX6_within_14 : decode cX6_within 14 = .ok (.goto 4, 3) := by decide +kernel
theorem dX6_within_17 : decode cX6_within 17 = .ok (.iconst 0, 1) := by decide +kernel
theorem dX6_within_18 : decode cX6_within 18 = .ok (.ireturn, 1) := by decide +kernel
theorem dX6_bring_0 : decode cX6_bring 0 = .ok (.iconst 0, 1) := by decide +kernel
theorem dX6_bring_1 : decode cX6_bring 1 = .ok (.istore 5, 2) := by decide +kernel
theorem dX6_bring_3 : decode cX6_bring 3 = .ok (.iload 5, 2) := by decide +kernel
theorem dX6_bring_5 : decode cX6_bring 5 = .ok (.iload 4, 2) := by decide +kernel
theorem dX6_bring_7 : decode cX6_bring 7 = .ok (.if_icmp .ge 21, 3) := by decide +kernel
theorem dX6_bring_10 : decode cX6_bring 10 = .ok (.aload_n 2, 1) := by decide +kernel
theorem dX6_bring_11 : decode cX6_bring 11 = .ok (.iload_n 3, 1) := by decide +kernel
theorem dX6_bring_12 : decode cX6_bring 12 = .ok (.iload 5, 2) := by decide +kernel
theorem dX6_bring_14 : decode cX6_bring 14 = .ok (.iadd, 1) := by decide +kernel
theorem dX6_bring_15 : decode cX6_bring 15 = .ok (.aload_n 0, 1) := by decide +kernel
theorem dX6_bring_16 : decode cX6_bring 16 = .ok (.iload_n 1, 1) := by decide +kernel
theorem dX6_bring_17 : decode cX6_bring 17 = .ok (.iload 5, 2) := by decide +kernel
theorem dX6_bring_19 : decode cX6_bring 19 = .ok (.iadd, 1) := by decide +kernel
theorem dX6_bring_20 : decode cX6_bring 20 = .ok (.iaload, 1) := by decide +kernel
theorem dX6_bring_21 : decode cX6_bring 21 = .ok (.iastore, 1) := by decide +kernel
theorem dX6_bring_22 : decode cX6_bring 22 = .ok (.iinc 5 1, 3) := by decide +kernel
theorem dX6_bring_25 : decode cX6_bring 25 = .ok (.goto (-22), 3) := by decide +kernel
theorem dX6_bring_28 : decode cX6_bring 28 = .ok (.return_, 1) := by decide +kernel
theorem dX6_isMirror_0 : decode cX6_isMirror 0 = .ok (.iconst 1, 1) := by decide +kernel
theorem dX6_isMirror_1 : decode cX6_isMirror 1 = .ok (.istore_n 3, 1) := by decide +kernel
theorem dX6_isMirror_2 : decode cX6_isMirror 2 = .ok (.iconst 0, 1) := by decide +kernel
theorem dX6_isMirror_3 : decode cX6_isMirror 3 = .ok (.istore 4, 2) := by decide +kernel
theorem dX6_isMirror_5 : decode cX6_isMirror 5 = .ok (.iload 4, 2) := by decide +kernel
theorem dX6_isMirror_7 : decode cX6_isMirror 7 = .ok (.iload_n 2, 1) := by decide +kernel
theorem dX6_isMirror_8 : decode cX6_isMirror 8 = .ok (.iconst 2, 1) := by decide +kernel
theorem dX6_isMirror_9 : decode cX6_isMirror 9 = .ok (.idiv, 1) := by decide +kernel
theorem dX6_isMirror_10 : decode cX6_isMirror 10 = .ok (.if_icmp .ge 44, 3) := by decide +kernel
theorem dX6_isMirror_13 : decode cX6_isMirror 13 = .ok (.iload_n 3, 1) := by decide +kernel
theorem dX6_isMirror_14 : decode cX6_isMirror 14 = .ok (.ifCond .eq 40, 3) := by decide +kernel
theorem dX6_isMirror_17 : decode cX6_isMirror 17 = .ok (.aload_n 0, 1) := by decide +kernel
theorem dX6_isMirror_18 : decode cX6_isMirror 18 = .ok (.getfield 7, 3) := by decide +kernel
theorem dX6_isMirror_21 : decode cX6_isMirror 21 = .ok (.iload_n 1, 1) := by decide +kernel
theorem dX6_isMirror_22 : decode cX6_isMirror 22 = .ok (.iload 4, 2) := by decide +kernel
theorem dX6_isMirror_24 : decode cX6_isMirror 24 = .ok (.iadd, 1) := by decide +kernel
theorem dX6_isMirror_25 : decode cX6_isMirror 25 = .ok (.iaload, 1) := by decide +kernel
theorem dX6_isMirror_26 : decode cX6_isMirror 26 = .ok (.aload_n 0, 1) := by decide +kernel
theorem dX6_isMirror_27 : decode cX6_isMirror 27 = .ok (.getfield 7, 3) := by decide +kernel
theorem dX6_isMirror_30 : decode cX6_isMirror 30 = .ok (.iload_n 1, 1) := by decide +kernel
theorem dX6_isMirror_31 : decode cX6_isMirror 31 = .ok (.iload_n 2, 1) := by decide +kernel
theorem dX6_isMirror_32 : decode cX6_isMirror 32 = .ok (.iadd, 1) := by decide +kernel
theorem dX6_isMirror_33 : decode cX6_isMirror 33 = .ok (.iconst 1, 1) := by decide +kernel
theorem dX6_isMirror_34 : decode cX6_isMirror 34 = .ok (.isub, 1) := by decide +kernel
theorem dX6_isMirror_35 : decode cX6_isMirror 35 = .ok (.iload 4, 2) := by decide +kernel
theorem dX6_isMirror_37 : decode cX6_isMirror 37 = .ok (.isub, 1) := by decide +kernel
theorem dX6_isMirror_38 : decode cX6_isMirror 38 = .ok (.iaload, 1) := by decide +kernel
theorem dX6_isMirror_39 : decode cX6_isMirror 39 = .ok (.if_icmp .ne 7, 3) := by decide +kernel
theorem dX6_isMirror_42 : decode cX6_isMirror 42 = .ok (.iconst 1, 1) := by decide +kernel
theorem dX6_isMirror_43 : decode cX6_isMirror 43 = .ok (.goto 4, 3) := by decide +kernel
theorem dX6_isMirror_46 : decode cX6_isMirror 46 = .ok (.iconst 0, 1) := by decide +kernel
theorem dX6_isMirror_47 : decode cX6_isMirror 47 = .ok (.istore_n 3, 1) := by decide +kernel
theorem dX6_isMirror_48 : decode cX6_isMirror 48 = .ok (.iinc 4 1, 3) := by decide +kernel
theorem dX6_isMirror_51 : decode cX6_isMirror 51 = .ok (.goto (-46), 3) := by decide +kernel
theorem dX6_isMirror_54 : decode cX6_isMirror 54 = .ok (.iload_n 3, 1) := by decide +kernel
theorem dX6_isMirror_55 : decode cX6_isMirror 55 = .ok (.ireturn, 1) := by decide +kernel
theorem dX6_isSame_0 : decode cX6_isSame 0 = .ok (.iconst 1, 1) := by decide +kernel
theorem dX6_isSame_1 : decode cX6_isSame 1 = .ok (.istore 4, 2) := by decide +kernel
theorem dX6_isSame_3 : decode cX6_isSame 3 = .ok (.iconst 0, 1) := by decide +kernel
theorem dX6_isSame_4 : decode cX6_isSame 4 = .ok (.istore 5, 2) := by decide +kernel
theorem dX6_isSame_6 : decode cX6_isSame 6 = .ok (.iload 5, 2) := by decide +kernel
theorem dX6_isSame_8 : decode cX6_isSame 8 = .ok (.iload_n 3, 1) := by decide +kernel
theorem dX6_isSame_9 : decode cX6_isSame 9 = .ok (.if_icmp .ge 42, 3) := by decide +kernel
theorem dX6_isSame_12 : decode cX6_isSame 12 = .ok (.iload 4, 2) := by decide +kernel
theorem dX6_isSame_14 : decode cX6_isSame 14 = .ok (.ifCond .eq 37, 3) := by decide +kernel
theorem dX6_isSame_17 : decode cX6_isSame 17 = .ok (.aload_n 0, 1) := by decide +kernel
theorem dX6_isSame_18 : decode cX6_isSame 18 = .ok (.getfield 7, 3) := by decide +kernel
theorem dX6_isSame_21 : decode cX6_isSame 21 = .ok (.iload_n 1, 1) := by decide +kernel
theorem dX6_isSame_22 : decode cX6_isSame 22 = .ok (.iload 5, 2) := by decide +kernel
theorem dX6_isSame_24 : decode cX6_isSame 24 = .ok (.iadd, 1) := by decide +kernel
theorem dX6_isSame_25 : decode cX6_isSame 25 = .ok (.iaload, 1) := by decide +kernel
theorem dX6_isSame_26 : decode cX6_isSame 26 = .ok (.aload_n 0, 1) := by decide +kernel
theorem dX6_isSame_27 : decode cX6_isSame 27 = .ok (.getfield 7, 3) := by decide +kernel
theorem dX6_isSame_30 : decode cX6_isSame 30 = .ok (.iload_n 2, 1) := by decide +kernel
theorem dX6_isSame_31 : decode cX6_isSame 31 = .ok (.iload 5, 2) := by decide +kernel
theorem dX6_isSame_33 : decode cX6_isSame 33 = .ok (.iadd, 1) := by decide +kernel
theorem dX6_isSame_34 : decode cX6_isSame 34 = .ok (.iaload, 1) := by decide +kernel
theorem dX6_isSame_35 : decode cX6_isSame 35 = .ok (.if_icmp .ne 7, 3) := by decide +kernel
theorem dX6_isSame_38 : decode cX6_isSame 38 = .ok (.iconst 1, 1) := by decide +kernel
theorem dX6_isSame_39 : decode cX6_isSame 39 = .ok (.goto 4, 3) := by decide +kernel
theorem dX6_isSame_42 : decode cX6_isSame 42 = .ok (.iconst 0, 1) := by decide +kernel
theorem dX6_isSame_43 : decode cX6_isSame 43 = .ok (.istore 4, 2) := by decide +kernel
theorem dX6_isSame_45 : decode cX6_isSame 45 = .ok (.iinc 5 1, 3) := by decide +kernel
theorem dX6_isSame_48 : decode cX6_isSame 48 = .ok (.goto (-42), 3) := by decide +kernel
theorem dX6_isSame_51 : decode cX6_isSame 51 = .ok (.iload 4, 2) := by decide +kernel
theorem dX6_isSame_53 : decode cX6_isSame 53 = .ok (.ireturn, 1) := by decide +kernel
theorem dX6_endsBelow_0 : decode cX6_endsBelow 0 = .ok (.iload_n 2, 1) := by decide +kernel
theorem dX6_endsBelow_1 : decode cX6_endsBelow 1 = .ok (.iconst 1, 1) := by decide +kernel
theorem dX6_endsBelow_2 : decode cX6_endsBelow 2 = .ok (.isub, 1) := by decide +kernel
theorem dX6_endsBelow_3 : decode cX6_endsBelow 3 = .ok (.iload_n 1, 1) := by decide +kernel
theorem dX6_endsBelow_4 : decode cX6_endsBelow 4 = .ok (.iconst 1, 1) := by decide +kernel
theorem dX6_endsBelow_5 : decode cX6_endsBelow 5 = .ok (.iadd, 1) := by decide +kernel
theorem dX6_endsBelow_6 : decode cX6_endsBelow 6 = .ok (.if_icmp .ge 9, 3) := by decide +kernel
theorem dX6_endsBelow_9 : decode cX6_endsBelow 9 = .ok (.iload_n 2, 1) := by decide +kernel
theorem dX6_endsBelow_10 : decode cX6_endsBelow 10 = .ok (.iconst 1, 1) := by decide +kernel
theorem dX6_endsBelow_11 : decode cX6_endsBelow 11 = .ok (.isub, 1) := by decide +kernel
theorem dX6_endsBelow_12 : decode cX6_endsBelow 12 = .ok (.goto 6, 3) := by decide +kernel
theorem dX6_endsBelow_15 : decode cX6_endsBelow 15 = .ok (.iload_n 1, 1) := by decide +kernel
theorem dX6_endsBelow_16 : decode cX6_endsBelow 16 = .ok (.iconst 1, 1) := by decide +kernel
theorem dX6_endsBelow_17 : decode cX6_endsBelow 17 = .ok (.iadd, 1) := by decide +kernel
theorem dX6_endsBelow_18 : decode cX6_endsBelow 18 = .ok (.istore_n 3, 1) := by decide +kernel
theorem dX6_endsBelow_19 : decode cX6_endsBelow 19 = .ok (.iload_n 3, 1) := by decide +kernel
theorem dX6_endsBelow_20 : decode cX6_endsBelow 20 = .ok (.ifCond .le 22, 3) := by decide +kernel
theorem dX6_endsBelow_23 : decode cX6_endsBelow 23 = .ok (.aload_n 0, 1) := by decide +kernel
theorem dX6_endsBelow_24 : decode cX6_endsBelow 24 = .ok (.iload_n 1, 1) := by decide +kernel
theorem dX6_endsBelow_25 : decode cX6_endsBelow 25 = .ok (.iconst 1, 1) := by decide +kernel
theorem dX6_endsBelow_26 : decode cX6_endsBelow 26 = .ok (.iadd, 1) := by decide +kernel
theorem dX6_endsBelow_27 : decode cX6_endsBelow 27 = .ok (.iload_n 3, 1) := by decide +kernel
theorem dX6_endsBelow_28 : decode cX6_endsBelow 28 = .ok (.isub, 1) := by decide +kernel
theorem dX6_endsBelow_29 : decode cX6_endsBelow 29 = .ok (.iload_n 3, 1) := by decide +kernel
theorem dX6_endsBelow_30 : decode cX6_endsBelow 30 = .ok (.invokevirtual 53, 3) := by decide +kernel
theorem dX6_endsBelow_33 : decode cX6_endsBelow 33 = .ok (.ifCond .ne 9, 3) := by decide +kernel
theorem dX6_endsBelow_36 : decode cX6_endsBelow 36 = .ok (.iinc 3 (-1), 3) := by decide +kernel
theorem dX6_endsBelow_39 : decode cX6_endsBelow 39 = .ok (.goto (-20), 3) := by decide +kernel
theorem dX6_endsBelow_42 : decode cX6_endsBelow 42 = .ok (.iload_n 3, 1) := by decide +kernel
theorem dX6_endsBelow_43 : decode cX6_endsBelow 43 = .ok (.ireturn, 1) := by decide +kernel
theorem dX6_isNew_0 : decode cX6_isNew 0 = .ok (.aload_n 0, 1) := by decide +kernel
theorem dX6_isNew_1 : decode cX6_isNew 1 = .ok (.iload_n 1, 1) := by decide +kernel
theorem dX6_isNew_2 : decode cX6_isNew 2 = .ok (.bipush 49, 2) := by decide +kernel
theorem dX6_isNew_4 : decode cX6_isNew 4 = .ok (.invokevirtual 57, 3) := by decide +kernel
theorem dX6_isNew_7 : decode cX6_isNew 7 = .ok (.istore_n 2, 1) := by decide +kernel
theorem dX6_isNew_8 : decode cX6_isNew 8 = .ok (.iload_n 1, 1) := by decide +kernel
theorem dX6_isNew_9 : decode cX6_isNew 9 = .ok (.iconst 1, 1) := by decide +kernel
theorem dX6_isNew_10 : decode cX6_isNew 10 = .ok (.iadd, 1) := by decide +kernel
theorem dX6_isNew_11 : decode cX6_isNew 11 = .ok (.iload_n 2, 1) := by decide +kernel
theorem dX6_isNew_12 : decode cX6_isNew 12 = .ok (.isub, 1) := by decide +kernel
theorem dX6_isNew_13 : decode cX6_isNew 13 = .ok (.istore_n 3, 1) := by decide +kernel
theorem dX6_isNew_14 : decode cX6_isNew 14 = .ok (.iconst 1, 1) := by decide +kernel
theorem dX6_isNew_15 : decode cX6_isNew 15 = .ok (.istore 4, 2) := by decide +kernel
theorem dX6_isNew_17 : decode cX6_isNew 17 = .ok (.iconst 0, 1) := by decide +kernel
theorem dX6_isNew_18 : decode cX6_isNew 18 = .ok (.istore 5, 2) := by decide +kernel
theorem dX6_isNew_20 : decode cX6_isNew 20 = .ok (.iload 5, 2) := by decide +kernel
theorem dX6_isNew_22 : decode cX6_isNew 22 = .ok (.iload_n 3, 1) := by decide +kernel
theorem dX6_isNew_23 : decode cX6_isNew 23 = .ok (.if_icmp .ge 32, 3) := by decide +kernel
theorem dX6_isNew_26 : decode cX6_isNew 26 = .ok (.iload 4, 2) := by decide +kernel
theorem dX6_isNew_28 : decode cX6_isNew 28 = .ok (.ifCond .eq 27, 3) := by decide +kernel
theorem dX6_isNew_31 : decode cX6_isNew 31 = .ok (.aload_n 0, 1) := by decide +kernel
theorem dX6_isNew_32 : decode cX6_isNew 32 = .ok (.iload 5, 2) := by decide +kernel
theorem dX6_isNew_34 : decode cX6_isNew 34 = .ok (.iload_n 3, 1) := by decide +kernel
theorem dX6_isNew_35 : decode cX6_isNew 35 = .ok (.iload_n 2, 1) := by decide +kernel
theorem dX6_isNew_36 : decode cX6_isNew 36 = .ok (.invokevirtual 61, 3) := by decide +kernel
theorem dX6_isNew_39 : decode cX6_isNew 39 = .ok (.ifCond .ne 7, 3) := by decide +kernel
theorem dX6_isNew_42 : decode cX6_isNew 42 = .ok (.iconst 1, 1) := by decide +kernel
theorem dX6_isNew_43 : decode cX6_isNew 43 = .ok (.goto 4, 3) := by decide +kernel
theorem dX6_isNew_46 : decode cX6_isNew 46 = .ok (.iconst 0, 1) := by decide +kernel
theorem dX6_isNew_47 : decode cX6_isNew 47 = .ok (.istore 4, 2) := by decide +kernel
theorem dX6_isNew_49 : decode cX6_isNew 49 = .ok (.iinc 5 1, 3) := by decide +kernel
theorem dX6_isNew_52 : decode cX6_isNew 52 = .ok (.goto (-32), 3) := by decide +kernel
theorem dX6_isNew_55 : decode cX6_isNew 55 = .ok (.iload 4, 2) := by decide +kernel
theorem dX6_isNew_57 : decode cX6_isNew 57 = .ok (.ireturn, 1) := by decide +kernel
theorem dX6_lay_0 : decode cX6_lay 0 = .ok (.aload_n 0, 1) := by decide +kernel
theorem dX6_lay_1 : decode cX6_lay 1 = .ok (.iconst 0, 1) := by decide +kernel
theorem dX6_lay_2 : decode cX6_lay 2 = .ok (.putfield 65, 3) := by decide +kernel
theorem dX6_lay_5 : decode cX6_lay 5 = .ok (.iconst 0, 1) := by decide +kernel
theorem dX6_lay_6 : decode cX6_lay 6 = .ok (.istore_n 1, 1) := by decide +kernel
theorem dX6_lay_7 : decode cX6_lay 7 = .ok (.iload_n 1, 1) := by decide +kernel
theorem dX6_lay_8 : decode cX6_lay 8 = .ok (.aload_n 0, 1) := by decide +kernel
theorem dX6_lay_9 : decode cX6_lay 9 = .ok (.getfield 69, 3) := by decide +kernel
theorem dX6_lay_12 : decode cX6_lay 12 = .ok (.if_icmp .ge 65, 3) := by decide +kernel
theorem dX6_lay_15 : decode cX6_lay 15 = .ok (.aload_n 0, 1) := by decide +kernel
theorem dX6_lay_16 : decode cX6_lay 16 = .ok (.iload_n 1, 1) := by decide +kernel
theorem dX6_lay_17 : decode cX6_lay 17 = .ok (.invokevirtual 72, 3) := by decide +kernel
theorem dX6_lay_20 : decode cX6_lay 20 = .ok (.ifCond .eq 51, 3) := by decide +kernel
theorem dX6_lay_23 : decode cX6_lay 23 = .ok (.aload_n 0, 1) := by decide +kernel
theorem dX6_lay_24 : decode cX6_lay 24 = .ok (.getfield 41, 3) := by decide +kernel
theorem dX6_lay_27 : decode cX6_lay 27 = .ok (.aload_n 0, 1) := by decide +kernel
theorem dX6_lay_28 : decode cX6_lay 28 = .ok (.getfield 65, 3) := by decide +kernel
theorem dX6_lay_31 : decode cX6_lay 31 = .ok (.aload_n 0, 1) := by decide +kernel
theorem dX6_lay_32 : decode cX6_lay 32 = .ok (.iload_n 1, 1) := by decide +kernel
theorem dX6_lay_33 : decode cX6_lay 33 = .ok (.bipush 49, 2) := by decide +kernel
theorem dX6_lay_35 : decode cX6_lay 35 = .ok (.invokevirtual 57, 3) := by decide +kernel
theorem dX6_lay_38 : decode cX6_lay 38 = .ok (.iastore, 1) := by decide +kernel
theorem dX6_lay_39 : decode cX6_lay 39 = .ok (.aload_n 0, 1) := by decide +kernel
theorem dX6_lay_40 : decode cX6_lay 40 = .ok (.getfield 38, 3) := by decide +kernel
theorem dX6_lay_43 : decode cX6_lay 43 = .ok (.aload_n 0, 1) := by decide +kernel
theorem dX6_lay_44 : decode cX6_lay 44 = .ok (.getfield 65, 3) := by decide +kernel
theorem dX6_lay_47 : decode cX6_lay 47 = .ok (.iload_n 1, 1) := by decide +kernel
theorem dX6_lay_48 : decode cX6_lay 48 = .ok (.iconst 1, 1) := by decide +kernel
theorem dX6_lay_49 : decode cX6_lay 49 = .ok (.iadd, 1) := by decide +kernel
theorem dX6_lay_50 : decode cX6_lay 50 = .ok (.aload_n 0, 1) := by decide +kernel
theorem dX6_lay_51 : decode cX6_lay 51 = .ok (.getfield 41, 3) := by decide +kernel
theorem dX6_lay_54 : decode cX6_lay 54 = .ok (.aload_n 0, 1) := by decide +kernel
theorem dX6_lay_55 : decode cX6_lay 55 = .ok (.getfield 65, 3) := by decide +kernel
theorem dX6_lay_58 : decode cX6_lay 58 = .ok (.iaload, 1) := by decide +kernel
theorem dX6_lay_59 : decode cX6_lay 59 = .ok (.isub, 1) := by decide +kernel
theorem dX6_lay_60 : decode cX6_lay 60 = .ok (.iastore, 1) := by decide +kernel
theorem dX6_lay_61 : decode cX6_lay 61 = .ok (.aload_n 0, 1) := by decide +kernel
theorem dX6_lay_62 : decode cX6_lay 62 = .ok (.dup, 1) := by decide +kernel
theorem dX6_lay_63 : decode cX6_lay 63 = .ok (.getfield 65, 3) := by decide +kernel
theorem dX6_lay_66 : decode cX6_lay 66 = .ok (.iconst 1, 1) := by decide +kernel
theorem dX6_lay_67 : decode cX6_lay 67 = .ok (.iadd, 1) := by decide +kernel
theorem dX6_lay_68 : decode cX6_lay 68 = .ok (.putfield 65, 3) := by decide +kernel
theorem dX6_lay_71 : decode cX6_lay 71 = .ok (.iinc 1 1, 3) := by decide +kernel
theorem dX6_lay_74 : decode cX6_lay 74 = .ok (.goto (-67), 3) := by decide +kernel
theorem dX6_lay_77 : decode cX6_lay 77 = .ok (.return_, 1) := by decide +kernel
theorem dX6_nodeOf_0 : decode cX6_nodeOf 0 = .ok (.iconst 0, 1) := by decide +kernel
theorem dX6_nodeOf_1 : decode cX6_nodeOf 1 = .ok (.istore_n 3, 1) := by decide +kernel
theorem dX6_nodeOf_2 : decode cX6_nodeOf 2 = .ok (.aload_n 0, 1) := by decide +kernel
theorem dX6_nodeOf_3 : decode cX6_nodeOf 3 = .ok (.getfield 41, 3) := by decide +kernel
theorem dX6_nodeOf_6 : decode cX6_nodeOf 6 = .ok (.iload_n 3, 1) := by decide +kernel
theorem dX6_nodeOf_7 : decode cX6_nodeOf 7 = .ok (.iaload, 1) := by decide +kernel
theorem dX6_nodeOf_8 : decode cX6_nodeOf 8 = .ok (.iload_n 2, 1) := by decide +kernel
theorem dX6_nodeOf_9 : decode cX6_nodeOf 9 = .ok (.if_icmp .ne 18, 3) := by decide +kernel
theorem dX6_nodeOf_12 : decode cX6_nodeOf 12 = .ok (.aload_n 0, 1) := by decide +kernel
theorem dX6_nodeOf_13 : decode cX6_nodeOf 13 = .ok (.aload_n 0, 1) := by decide +kernel
theorem dX6_nodeOf_14 : decode cX6_nodeOf 14 = .ok (.getfield 38, 3) := by decide +kernel
theorem dX6_nodeOf_17 : decode cX6_nodeOf 17 = .ok (.iload_n 3, 1) := by decide +kernel
theorem dX6_nodeOf_18 : decode cX6_nodeOf 18 = .ok (.iaload, 1) := by decide +kernel
theorem dX6_nodeOf_19 : decode cX6_nodeOf 19 = .ok (.iload_n 1, 1) := by decide +kernel
theorem dX6_nodeOf_20 : decode cX6_nodeOf 20 = .ok (.iload_n 2, 1) := by decide +kernel
theorem dX6_nodeOf_21 : decode cX6_nodeOf 21 = .ok (.invokevirtual 61, 3) := by decide +kernel
theorem dX6_nodeOf_24 : decode cX6_nodeOf 24 = .ok (.ifCond .ne 9, 3) := by decide +kernel
theorem dX6_nodeOf_27 : decode cX6_nodeOf 27 = .ok (.iinc 3 1, 3) := by decide +kernel
theorem dX6_nodeOf_30 : decode cX6_nodeOf 30 = .ok (.goto (-28), 3) := by decide +kernel
theorem dX6_nodeOf_33 : decode cX6_nodeOf 33 = .ok (.iload_n 3, 1) := by decide +kernel
theorem dX6_nodeOf_34 : decode cX6_nodeOf 34 = .ok (.ireturn, 1) := by decide +kernel
theorem dX6_stands_0 : decode cX6_stands 0 = .ok (.iconst 0, 1) := by decide +kernel
theorem dX6_stands_1 : decode cX6_stands 1 = .ok (.istore 4, 2) := by decide +kernel
theorem dX6_stands_3 : decode cX6_stands 3 = .ok (.iload_n 1, 1) := by decide +kernel
theorem dX6_stands_4 : decode cX6_stands 4 = .ok (.istore 5, 2) := by decide +kernel
theorem dX6_stands_6 : decode cX6_stands 6 = .ok (.iconst 0, 1) := by decide +kernel
theorem dX6_stands_7 : decode cX6_stands 7 = .ok (.istore 6, 2) := by decide +kernel
theorem dX6_stands_9 : decode cX6_stands 9 = .ok (.iload 6, 2) := by decide +kernel
theorem dX6_stands_11 : decode cX6_stands 11 = .ok (.iload_n 2, 1) := by decide +kernel
theorem dX6_stands_12 : decode cX6_stands 12 = .ok (.iadd, 1) := by decide +kernel
theorem dX6_stands_13 : decode cX6_stands 13 = .ok (.aload_n 0, 1) := by decide +kernel
theorem dX6_stands_14 : decode cX6_stands 14 = .ok (.getfield 69, 3) := by decide +kernel
theorem dX6_stands_17 : decode cX6_stands 17 = .ok (.if_icmp .gt 48, 3) := by decide +kernel
theorem dX6_stands_20 : decode cX6_stands 20 = .ok (.aload_n 0, 1) := by decide +kernel
theorem dX6_stands_21 : decode cX6_stands 21 = .ok (.iload 6, 2) := by decide +kernel
theorem dX6_stands_23 : decode cX6_stands 23 = .ok (.iload_n 1, 1) := by decide +kernel
theorem dX6_stands_24 : decode cX6_stands 24 = .ok (.iload_n 2, 1) := by decide +kernel
theorem dX6_stands_25 : decode cX6_stands 25 = .ok (.invokevirtual 61, 3) := by decide +kernel
theorem dX6_stands_28 : decode cX6_stands 28 = .ok (.istore 7, 2) := by decide +kernel
theorem dX6_stands_30 : decode cX6_stands 30 = .ok (.iload 4, 2) := by decide +kernel
theorem dX6_stands_32 : decode cX6_stands 32 = .ok (.iload 7, 2) := by decide +kernel
theorem dX6_stands_34 : decode cX6_stands 34 = .ok (.ifCond .eq 7, 3) := by decide +kernel
theorem dX6_stands_37 : decode cX6_stands 37 = .ok (.iconst 1, 1) := by decide +kernel
theorem dX6_stands_38 : decode cX6_stands 38 = .ok (.goto 4, 3) := by decide +kernel
theorem dX6_stands_41 : decode cX6_stands 41 = .ok (.iconst 0, 1) := by decide +kernel
theorem dX6_stands_42 : decode cX6_stands 42 = .ok (.iadd, 1) := by decide +kernel
theorem dX6_stands_43 : decode cX6_stands 43 = .ok (.istore 4, 2) := by decide +kernel
theorem dX6_stands_45 : decode cX6_stands 45 = .ok (.iload 7, 2) := by decide +kernel
theorem dX6_stands_47 : decode cX6_stands 47 = .ok (.ifCond .eq 8, 3) := by decide +kernel
theorem dX6_stands_50 : decode cX6_stands 50 = .ok (.iload 6, 2) := by decide +kernel
theorem dX6_stands_52 : decode cX6_stands 52 = .ok (.goto 5, 3) := by decide +kernel
theorem dX6_stands_55 : decode cX6_stands 55 = .ok (.iload 5, 2) := by decide +kernel
theorem dX6_stands_57 : decode cX6_stands 57 = .ok (.istore 5, 2) := by decide +kernel
theorem dX6_stands_59 : decode cX6_stands 59 = .ok (.iinc 6 1, 3) := by decide +kernel
theorem dX6_stands_62 : decode cX6_stands 62 = .ok (.goto (-53), 3) := by decide +kernel
theorem dX6_stands_65 : decode cX6_stands 65 = .ok (.iload_n 3, 1) := by decide +kernel
theorem dX6_stands_66 : decode cX6_stands 66 = .ok (.iconst 3, 1) := by decide +kernel
theorem dX6_stands_67 : decode cX6_stands 67 = .ok (.if_icmp .ne 8, 3) := by decide +kernel
theorem dX6_stands_70 : decode cX6_stands 70 = .ok (.iload 4, 2) := by decide +kernel
theorem dX6_stands_72 : decode cX6_stands 72 = .ok (.goto 5, 3) := by decide +kernel
theorem dX6_stands_75 : decode cX6_stands 75 = .ok (.iload 5, 2) := by decide +kernel
theorem dX6_stands_77 : decode cX6_stands 77 = .ok (.ireturn, 1) := by decide +kernel
theorem dX6_link_0 : decode cX6_link 0 = .ok (.aload_n 0, 1) := by decide +kernel
theorem dX6_link_1 : decode cX6_link 1 = .ok (.getfield 38, 3) := by decide +kernel
theorem dX6_link_4 : decode cX6_link 4 = .ok (.iload_n 1, 1) := by decide +kernel
theorem dX6_link_5 : decode cX6_link 5 = .ok (.iaload, 1) := by decide +kernel
theorem dX6_link_6 : decode cX6_link 6 = .ok (.aload_n 0, 1) := by decide +kernel
theorem dX6_link_7 : decode cX6_link 7 = .ok (.getfield 41, 3) := by decide +kernel
theorem dX6_link_10 : decode cX6_link 10 = .ok (.iload_n 1, 1) := by decide +kernel
theorem dX6_link_11 : decode cX6_link 11 = .ok (.iaload, 1) := by decide +kernel
theorem dX6_link_12 : decode cX6_link 12 = .ok (.iadd, 1) := by decide +kernel
theorem dX6_link_13 : decode cX6_link 13 = .ok (.iconst 1, 1) := by decide +kernel
theorem dX6_link_14 : decode cX6_link 14 = .ok (.isub, 1) := by decide +kernel
theorem dX6_link_15 : decode cX6_link 15 = .ok (.istore_n 2, 1) := by decide +kernel
theorem dX6_link_16 : decode cX6_link 16 = .ok (.aload_n 0, 1) := by decide +kernel
theorem dX6_link_17 : decode cX6_link 17 = .ok (.iload_n 2, 1) := by decide +kernel
theorem dX6_link_18 : decode cX6_link 18 = .ok (.aload_n 0, 1) := by decide +kernel
theorem dX6_link_19 : decode cX6_link 19 = .ok (.getfield 41, 3) := by decide +kernel
theorem dX6_link_22 : decode cX6_link 22 = .ok (.iload_n 1, 1) := by decide +kernel
theorem dX6_link_23 : decode cX6_link 23 = .ok (.iaload, 1) := by decide +kernel
theorem dX6_link_24 : decode cX6_link 24 = .ok (.invokevirtual 57, 3) := by decide +kernel
theorem dX6_link_27 : decode cX6_link 27 = .ok (.istore_n 3, 1) := by decide +kernel
theorem dX6_link_28 : decode cX6_link 28 = .ok (.iload_n 3, 1) := by decide +kernel
theorem dX6_link_29 : decode cX6_link 29 = .ok (.ifCond .ne 8, 3) := by decide +kernel
theorem dX6_link_32 : decode cX6_link 32 = .ok (.bipush (-4), 2) := by decide +kernel
theorem dX6_link_34 : decode cX6_link 34 = .ok (.goto 13, 3) := by decide +kernel
theorem dX6_link_37 : decode cX6_link 37 = .ok (.aload_n 0, 1) := by decide +kernel
theorem dX6_link_38 : decode cX6_link 38 = .ok (.iload_n 2, 1) := by decide +kernel
theorem dX6_link_39 : decode cX6_link 39 = .ok (.iconst 1, 1) := by decide +kernel
theorem dX6_link_40 : decode cX6_link 40 = .ok (.iadd, 1) := by decide +kernel
theorem dX6_link_41 : decode cX6_link 41 = .ok (.iload_n 3, 1) := by decide +kernel
theorem dX6_link_42 : decode cX6_link 42 = .ok (.isub, 1) := by decide +kernel
theorem dX6_link_43 : decode cX6_link 43 = .ok (.iload_n 3, 1) := by decide +kernel
theorem dX6_link_44 : decode cX6_link 44 = .ok (.invokevirtual 76, 3) := by decide +kernel
theorem dX6_link_47 : decode cX6_link 47 = .ok (.ireturn, 1) := by decide +kernel
theorem dX6_less_0 : decode cX6_less 0 = .ok (.aload_n 0, 1) := by decide +kernel
theorem dX6_less_1 : decode cX6_less 1 = .ok (.iload_n 1, 1) := by decide +kernel
theorem dX6_less_2 : decode cX6_less 2 = .ok (.invokevirtual 79, 3) := by decide +kernel
theorem dX6_less_5 : decode cX6_less 5 = .ok (.istore_n 2, 1) := by decide +kernel
theorem dX6_less_6 : decode cX6_less 6 = .ok (.iload_n 2, 1) := by decide +kernel
theorem dX6_less_7 : decode cX6_less 7 = .ok (.bipush (-4), 2) := by decide +kernel
theorem dX6_less_9 : decode cX6_less 9 = .ok (.if_icmp .ne 12, 3) := by decide +kernel
theorem dX6_less_12 : decode cX6_less 12 = .ok (.aload_n 0, 1) := by decide +kernel
theorem dX6_less_13 : decode cX6_less 13 = .ok (.getfield 41, 3) := by decide +kernel
theorem dX6_less_16 : decode cX6_less 16 = .ok (.iload_n 1, 1) := by decide +kernel
theorem dX6_less_17 : decode cX6_less 17 = .ok (.iaload, 1) := by decide +kernel
theorem dX6_less_18 : decode cX6_less 18 = .ok (.goto 16, 3) := by decide +kernel
theorem dX6_less_21 : decode cX6_less 21 = .ok (.aload_n 0, 1) := by decide +kernel
theorem dX6_less_22 : decode cX6_less 22 = .ok (.getfield 41, 3) := by decide +kernel
theorem dX6_less_25 : decode cX6_less 25 = .ok (.iload_n 1, 1) := by decide +kernel
theorem dX6_less_26 : decode cX6_less 26 = .ok (.iaload, 1) := by decide +kernel
theorem dX6_less_27 : decode cX6_less 27 = .ok (.aload_n 0, 1) := by decide +kernel
theorem dX6_less_28 : decode cX6_less 28 = .ok (.getfield 41, 3) := by decide +kernel
theorem dX6_less_31 : decode cX6_less 31 = .ok (.iload_n 2, 1) := by decide +kernel
theorem dX6_less_32 : decode cX6_less 32 = .ok (.iaload, 1) := by decide +kernel
theorem dX6_less_33 : decode cX6_less 33 = .ok (.isub, 1) := by decide +kernel
theorem dX6_less_34 : decode cX6_less 34 = .ok (.ireturn, 1) := by decide +kernel
theorem dX6_series_0 : decode cX6_series 0 = .ok (.aload_n 0, 1) := by decide +kernel
theorem dX6_series_1 : decode cX6_series 1 = .ok (.iload_n 1, 1) := by decide +kernel
theorem dX6_series_2 : decode cX6_series 2 = .ok (.invokevirtual 83, 3) := by decide +kernel
theorem dX6_series_5 : decode cX6_series 5 = .ok (.istore_n 2, 1) := by decide +kernel
theorem dX6_series_6 : decode cX6_series 6 = .ok (.aload_n 0, 1) := by decide +kernel
theorem dX6_series_7 : decode cX6_series 7 = .ok (.iload_n 1, 1) := by decide +kernel
theorem dX6_series_8 : decode cX6_series 8 = .ok (.invokevirtual 79, 3) := by decide +kernel
theorem dX6_series_11 : decode cX6_series 11 = .ok (.istore_n 3, 1) := by decide +kernel
theorem dX6_series_12 : decode cX6_series 12 = .ok (.iload_n 3, 1) := by decide +kernel
theorem dX6_series_13 : decode cX6_series 13 = .ok (.bipush (-4), 2) := by decide +kernel
theorem dX6_series_15 : decode cX6_series 15 = .ok (.if_icmp .eq 21, 3) := by decide +kernel
