theorem dX5_mark_15 : decode cX5_mark 15 = .ok (.if_icmp .ge 15, 3) := by decide +kernel
theorem dX5_mark_18 : decode cX5_mark 18 = .ok (.aload_n 0, 1) := by decide +kernel
theorem dX5_mark_19 : decode cX5_mark 19 = .ok (.getfield 28, 3) := by decide +kernel
theorem dX5_mark_22 : decode cX5_mark 22 = .ok (.iload_n 1, 1) := by decide +kernel
theorem dX5_mark_23 : decode cX5_mark 23 = .ok (.bipush 10, 2) := by decide +kernel
theorem dX5_mark_25 : decode cX5_mark 25 = .ok (.imul, 1) := by decide +kernel
theorem dX5_mark_26 : decode cX5_mark 26 = .ok (.iload_n 2, 1) := by decide +kernel
theorem dX5_mark_27 : decode cX5_mark 27 = .ok (.iadd, 1) := by decide +kernel
theorem dX5_mark_28 : decode cX5_mark 28 = .ok (.iload_n 3, 1) := by decide +kernel
theorem dX5_mark_29 : decode cX5_mark 29 = .ok (.iastore, 1) := by decide +kernel
theorem dX5_mark_30 : decode cX5_mark 30 = .ok (.return_, 1) := by decide +kernel
theorem dX5_addLetter_0 : decode cX5_addLetter 0 = .ok (.aload_n 0, 1) := by decide +kernel
theorem dX5_addLetter_1 : decode cX5_addLetter 1 = .ok (.getfield 40, 3) := by decide +kernel
theorem dX5_addLetter_4 : decode cX5_addLetter 4 = .ok (.bipush 60, 2) := by decide +kernel
theorem dX5_addLetter_6 : decode cX5_addLetter 6 = .ok (.if_icmp .lt 6, 3) := by decide +kernel
theorem dX5_addLetter_9 : decode cX5_addLetter 9 = .ok (.bipush (-3), 2) := by decide +kernel
theorem dX5_addLetter_11 : decode cX5_addLetter 11 = .ok (.ireturn, 1) := by decide +kernel
theorem dX5_addLetter_12 : decode cX5_addLetter 12 = .ok (.aload_n 0, 1) := by decide +kernel
theorem dX5_addLetter_13 : decode cX5_addLetter 13 = .ok (.getfield 40, 3) := by decide +kernel
theorem dX5_addLetter_16 : decode cX5_addLetter 16 = .ok (.istore 5, 2) := by decide +kernel
theorem dX5_addLetter_18 : decode cX5_addLetter 18 = .ok (.aload_n 0, 1) := by decide +kernel
theorem dX5_addLetter_19 : decode cX5_addLetter 19 = .ok (.dup, 1) := by decide +kernel
theorem dX5_addLetter_20 : decode cX5_addLetter 20 = .ok (.getfield 40, 3) := by decide +kernel
theorem dX5_addLetter_23 : decode cX5_addLetter 23 = .ok (.iconst 1, 1) := by decide +kernel
theorem dX5_addLetter_24 : decode cX5_addLetter 24 = .ok (.iadd, 1) := by decide +kernel
theorem dX5_addLetter_25 : decode cX5_addLetter 25 = .ok (.putfield 40, 3) := by decide +kernel
theorem dX5_addLetter_28 : decode cX5_addLetter 28 = .ok (.aload_n 0, 1) := by decide +kernel
theorem dX5_addLetter_29 : decode cX5_addLetter 29 = .ok (.iload 5, 2) := by decide +kernel
theorem dX5_addLetter_31 : decode cX5_addLetter 31 = .ok (.iconst 0, 1) := by decide +kernel
theorem dX5_addLetter_32 : decode cX5_addLetter 32 = .ok (.iload_n 1, 1) := by decide +kernel
theorem dX5_addLetter_33 : decode cX5_addLetter 33 = .ok (.invokevirtual 56, 3) := by decide +kernel
theorem dX5_addLetter_36 : decode cX5_addLetter 36 = .ok (.aload_n 0, 1) := by decide +kernel
theorem dX5_addLetter_37 : decode cX5_addLetter 37 = .ok (.iload 5, 2) := by decide +kernel
theorem dX5_addLetter_39 : decode cX5_addLetter 39 = .ok (.iconst 1, 1) := by decide +kernel
theorem dX5_addLetter_40 : decode cX5_addLetter 40 = .ok (.iload_n 2, 1) := by decide +kernel
theorem dX5_addLetter_41 : decode cX5_addLetter 41 = .ok (.invokevirtual 56, 3) := by decide +kernel
theorem dX5_addLetter_44 : decode cX5_addLetter 44 = .ok (.aload_n 0, 1) := by decide +kernel
theorem dX5_addLetter_45 : decode cX5_addLetter 45 = .ok (.iload 5, 2) := by decide +kernel
theorem dX5_addLetter_47 : decode cX5_addLetter 47 = .ok (.iconst 2, 1) := by decide +kernel
theorem dX5_addLetter_48 : decode cX5_addLetter 48 = .ok (.iload_n 3, 1) := by decide +kernel
theorem dX5_addLetter_49 : decode cX5_addLetter 49 = .ok (.invokevirtual 56, 3) := by decide +kernel
theorem dX5_addLetter_52 : decode cX5_addLetter 52 = .ok (.aload_n 0, 1) := by decide +kernel
theorem dX5_addLetter_53 : decode cX5_addLetter 53 = .ok (.iload 5, 2) := by decide +kernel
theorem dX5_addLetter_55 : decode cX5_addLetter 55 = .ok (.iconst 3, 1) := by decide +kernel
theorem dX5_addLetter_56 : decode cX5_addLetter 56 = .ok (.iload 4, 2) := by decide +kernel
theorem dX5_addLetter_58 : decode cX5_addLetter 58 = .ok (.invokevirtual 56, 3) := by decide +kernel
theorem dX5_addLetter_61 : decode cX5_addLetter 61 = .ok (.aload_n 0, 1) := by decide +kernel
theorem dX5_addLetter_62 : decode cX5_addLetter 62 = .ok (.iload 5, 2) := by decide +kernel
theorem dX5_addLetter_64 : decode cX5_addLetter 64 = .ok (.iconst 4, 1) := by decide +kernel
theorem dX5_addLetter_65 : decode cX5_addLetter 65 = .ok (.aload_n 0, 1) := by decide +kernel
theorem dX5_addLetter_66 : decode cX5_addLetter 66 = .ok (.getfield 37, 3) := by decide +kernel
theorem dX5_addLetter_69 : decode cX5_addLetter 69 = .ok (.invokevirtual 56, 3) := by decide +kernel
theorem dX5_addLetter_72 : decode cX5_addLetter 72 = .ok (.aload_n 0, 1) := by decide +kernel
theorem dX5_addLetter_73 : decode cX5_addLetter 73 = .ok (.iload 5, 2) := by decide +kernel
theorem dX5_addLetter_75 : decode cX5_addLetter 75 = .ok (.iconst 5, 1) := by decide +kernel
theorem dX5_addLetter_76 : decode cX5_addLetter 76 = .ok (.aload_n 0, 1) := by decide +kernel
theorem dX5_addLetter_77 : decode cX5_addLetter 77 = .ok (.getfield 37, 3) := by decide +kernel
theorem dX5_addLetter_80 : decode cX5_addLetter 80 = .ok (.aload_n 0, 1) := by decide +kernel
theorem dX5_addLetter_81 : decode cX5_addLetter 81 = .ok (.getfield 15, 3) := by decide +kernel
theorem dX5_addLetter_84 : decode cX5_addLetter 84 = .ok (.iconst 0, 1) := by decide +kernel
theorem dX5_addLetter_85 : decode cX5_addLetter 85 = .ok (.iaload, 1) := by decide +kernel
theorem dX5_addLetter_86 : decode cX5_addLetter 86 = .ok (.iadd, 1) := by decide +kernel
theorem dX5_addLetter_87 : decode cX5_addLetter 87 = .ok (.invokevirtual 56, 3) := by decide +kernel
theorem dX5_addLetter_90 : decode cX5_addLetter 90 = .ok (.aload_n 0, 1) := by decide +kernel
theorem dX5_addLetter_91 : decode cX5_addLetter 91 = .ok (.iload 5, 2) := by decide +kernel
theorem dX5_addLetter_93 : decode cX5_addLetter 93 = .ok (.bipush 6, 2) := by decide +kernel
theorem dX5_addLetter_95 : decode cX5_addLetter 95 = .ok (.iconst 0, 1) := by decide +kernel
theorem dX5_addLetter_96 : decode cX5_addLetter 96 = .ok (.invokevirtual 56, 3) := by decide +kernel
theorem dX5_addLetter_99 : decode cX5_addLetter 99 = .ok (.aload_n 0, 1) := by decide +kernel
theorem dX5_addLetter_100 : decode cX5_addLetter 100 = .ok (.iload 5, 2) := by decide +kernel
theorem dX5_addLetter_102 : decode cX5_addLetter 102 = .ok (.bipush 7, 2) := by decide +kernel
theorem dX5_addLetter_104 : decode cX5_addLetter 104 = .ok (.iconst 0, 1) := by decide +kernel
theorem dX5_addLetter_105 : decode cX5_addLetter 105 = .ok (.invokevirtual 56, 3) := by decide +kernel
theorem dX5_addLetter_108 : decode cX5_addLetter 108 = .ok (.aload_n 0, 1) := by decide +kernel
theorem dX5_addLetter_109 : decode cX5_addLetter 109 = .ok (.iload 5, 2) := by decide +kernel
theorem dX5_addLetter_111 : decode cX5_addLetter 111 = .ok (.bipush 8, 2) := by decide +kernel
theorem dX5_addLetter_113 : decode cX5_addLetter 113 = .ok (.bipush (-5), 2) := by decide +kernel
theorem dX5_addLetter_115 : decode cX5_addLetter 115 = .ok (.invokevirtual 56, 3) := by decide +kernel
theorem dX5_addLetter_118 : decode cX5_addLetter 118 = .ok (.aload_n 0, 1) := by decide +kernel
theorem dX5_addLetter_119 : decode cX5_addLetter 119 = .ok (.iload 5, 2) := by decide +kernel
theorem dX5_addLetter_121 : decode cX5_addLetter 121 = .ok (.bipush 9, 2) := by decide +kernel
theorem dX5_addLetter_123 : decode cX5_addLetter 123 = .ok (.bipush (-5), 2) := by decide +kernel
theorem dX5_addLetter_125 : decode cX5_addLetter 125 = .ok (.invokevirtual 56, 3) := by decide +kernel
theorem dX5_addLetter_128 : decode cX5_addLetter 128 = .ok (.iload 5, 2) := by decide +kernel
theorem dX5_addLetter_130 : decode cX5_addLetter 130 = .ok (.ireturn, 1) := by decide +kernel
theorem dX5_soonest_0 : decode cX5_soonest 0 = .ok (.bipush (-5), 2) := by decide +kernel
theorem dX5_soonest_2 : decode cX5_soonest 2 = .ok (.istore_n 1, 1) := by decide +kernel
theorem dX5_soonest_3 : decode cX5_soonest 3 = .ok (.iconst 0, 1) := by decide +kernel
theorem dX5_soonest_4 : decode cX5_soonest 4 = .ok (.istore_n 2, 1) := by decide +kernel
theorem dX5_soonest_5 : decode cX5_soonest 5 = .ok (.iload_n 2, 1) := by decide +kernel
theorem dX5_soonest_6 : decode cX5_soonest 6 = .ok (.aload_n 0, 1) := by decide +kernel
theorem dX5_soonest_7 : decode cX5_soonest 7 = .ok (.getfield 40, 3) := by decide +kernel
theorem dX5_soonest_10 : decode cX5_soonest 10 = .ok (.if_icmp .ge 45, 3) := by decide +kernel
theorem dX5_soonest_13 : decode cX5_soonest 13 = .ok (.aload_n 0, 1) := by decide +kernel
theorem dX5_soonest_14 : decode cX5_soonest 14 = .ok (.iload_n 2, 1) := by decide +kernel
theorem dX5_soonest_15 : decode cX5_soonest 15 = .ok (.bipush 6, 2) := by decide +kernel
theorem dX5_soonest_17 : decode cX5_soonest 17 = .ok (.invokevirtual 60, 3) := by decide +kernel
theorem dX5_soonest_20 : decode cX5_soonest 20 = .ok (.ifCond .eq 6, 3) := by decide +kernel
theorem dX5_soonest_23 : decode cX5_soonest 23 = .ok (.goto 26, 3) := by decide +kernel
theorem dX5_soonest_26 : decode cX5_soonest 26 = .ok (.iload_n 1, 1) := by decide +kernel
theorem dX5_soonest_27 : decode cX5_soonest 27 = .ok (.bipush (-5), 2) := by decide +kernel
theorem dX5_soonest_29 : decode cX5_soonest 29 = .ok (.if_icmp .eq 18, 3) := by decide +kernel
theorem dX5_soonest_32 : decode cX5_soonest 32 = .ok (.aload_n 0, 1) := by decide +kernel
theorem dX5_soonest_33 : decode cX5_soonest 33 = .ok (.iload_n 2, 1) := by decide +kernel
theorem dX5_soonest_34 : decode cX5_soonest 34 = .ok (.iconst 5, 1) := by decide +kernel
theorem dX5_soonest_35 : decode cX5_soonest 35 = .ok (.invokevirtual 60, 3) := by decide +kernel
theorem dX5_soonest_38 : decode cX5_soonest 38 = .ok (.aload_n 0, 1) := by decide +kernel
theorem dX5_soonest_39 : decode cX5_soonest 39 = .ok (.iload_n 1, 1) := by decide +kernel
theorem dX5_soonest_40 : decode cX5_soonest 40 = .ok (.iconst 5, 1) := by decide +kernel
theorem dX5_soonest_41 : decode cX5_soonest 41 = .ok (.invokevirtual 60, 3) := by decide +kernel
theorem dX5_soonest_44 : decode cX5_soonest 44 = .ok (.if_icmp .ge 5, 3) := by decide +kernel
theorem dX5_soonest_47 : decode cX5_soonest 47 = .ok (.iload_n 2, 1) := by decide +kernel
theorem dX5_soonest_48 : decode cX5_soonest 48 = .ok (.istore_n 1, 1) := by decide +kernel
theorem dX5_soonest_49 : decode cX5_soonest 49 = .ok (.iinc 2 1, 3) := by decide +kernel
theorem dX5_soonest_52 : decode cX5_soonest 52 = .ok (.goto (-47), 3) := by decide +kernel
theorem dX5_soonest_55 : decode cX5_soonest 55 = .ok (.iload_n 1, 1) := by decide +kernel
theorem dX5_soonest_56 : decode cX5_soonest 56 = .ok (.ireturn, 1) := by decide +kernel
theorem dX5_haveCrossed_0 : decode cX5_haveCrossed 0 = .ok (.aload_n 0, 1) := by decide +kernel
theorem dX5_haveCrossed_1 : decode cX5_haveCrossed 1 = .ok (.iload_n 1, 1) := by decide +kernel
theorem dX5_haveCrossed_2 : decode cX5_haveCrossed 2 = .ok (.iconst 0, 1) := by decide +kernel
theorem dX5_haveCrossed_3 : decode cX5_haveCrossed 3 = .ok (.invokevirtual 60, 3) := by decide +kernel
theorem dX5_haveCrossed_6 : decode cX5_haveCrossed 6 = .ok (.aload_n 0, 1) := by decide +kernel
theorem dX5_haveCrossed_7 : decode cX5_haveCrossed 7 = .ok (.iload_n 2, 1) := by decide +kernel
theorem dX5_haveCrossed_8 : decode cX5_haveCrossed 8 = .ok (.iconst 0, 1) := by decide +kernel
theorem dX5_haveCrossed_9 : decode cX5_haveCrossed 9 = .ok (.invokevirtual 60, 3) := by decide +kernel
theorem dX5_haveCrossed_12 : decode cX5_haveCrossed 12 = .ok (.if_icmp .ne 5, 3) := by decide +kernel
theorem dX5_haveCrossed_15 : decode cX5_haveCrossed 15 = .ok (.iconst 0, 1) := by decide +kernel
theorem dX5_haveCrossed_16 : decode cX5_haveCrossed 16 = .ok (.ireturn, 1) := by decide +kernel
theorem dX5_haveCrossed_17 : decode cX5_haveCrossed 17 = .ok (.aload_n 0, 1) := by decide +kernel
theorem dX5_haveCrossed_18 : decode cX5_haveCrossed 18 = .ok (.iload_n 1, 1) := by decide +kernel
theorem dX5_haveCrossed_19 : decode cX5_haveCrossed 19 = .ok (.bipush 6, 2) := by decide +kernel
theorem dX5_haveCrossed_21 : decode cX5_haveCrossed 21 = .ok (.invokevirtual 60, 3) := by decide +kernel
theorem dX5_haveCrossed_24 : decode cX5_haveCrossed 24 = .ok (.iconst 3, 1) := by decide +kernel
theorem dX5_haveCrossed_25 : decode cX5_haveCrossed 25 = .ok (.if_icmp .eq 14, 3) := by decide +kernel
theorem dX5_haveCrossed_28 : decode cX5_haveCrossed 28 = .ok (.aload_n 0, 1) := by decide +kernel
theorem dX5_haveCrossed_29 : decode cX5_haveCrossed 29 = .ok (.iload_n 2, 1) := by decide +kernel
theorem dX5_haveCrossed_30 : decode cX5_haveCrossed 30 = .ok (.bipush 6, 2) := by decide +kernel
theorem dX5_haveCrossed_32 : decode cX5_haveCrossed 32 = .ok (.invokevirtual 60, 3) := by decide +kernel
theorem dX5_haveCrossed_35 : decode cX5_haveCrossed 35 = .ok (.iconst 3, 1) := by decide +kernel
theorem dX5_haveCrossed_36 : decode cX5_haveCrossed 36 = .ok (.if_icmp .ne 5, 3) := by decide +kernel
theorem dX5_haveCrossed_39 : decode cX5_haveCrossed 39 = .ok (.iconst 0, 1) := by decide +kernel
theorem dX5_haveCrossed_40 : decode cX5_haveCrossed 40 = .ok (.ireturn, 1) := by decide +kernel
theorem dX5_haveCrossed_41 : decode cX5_haveCrossed 41 = .ok (.aload_n 0, 1) := by decide +kernel
theorem dX5_haveCrossed_42 : decode cX5_haveCrossed 42 = .ok (.iload_n 1, 1) := by decide +kernel
theorem dX5_haveCrossed_43 : decode cX5_haveCrossed 43 = .ok (.iconst 4, 1) := by decide +kernel
theorem dX5_haveCrossed_44 : decode cX5_haveCrossed 44 = .ok (.invokevirtual 60, 3) := by decide +kernel
theorem dX5_haveCrossed_47 : decode cX5_haveCrossed 47 = .ok (.aload_n 0, 1) := by decide +kernel
theorem dX5_haveCrossed_48 : decode cX5_haveCrossed 48 = .ok (.iload_n 2, 1) := by decide +kernel
theorem dX5_haveCrossed_49 : decode cX5_haveCrossed 49 = .ok (.iconst 5, 1) := by decide +kernel
theorem dX5_haveCrossed_50 : decode cX5_haveCrossed 50 = .ok (.invokevirtual 60, 3) := by decide +kernel
theorem dX5_haveCrossed_53 : decode cX5_haveCrossed 53 = .ok (.if_icmp .ge 22, 3) := by decide +kernel
theorem dX5_haveCrossed_56 : decode cX5_haveCrossed 56 = .ok (.aload_n 0, 1) := by decide +kernel
theorem dX5_haveCrossed_57 : decode cX5_haveCrossed 57 = .ok (.iload_n 2, 1) := by decide +kernel
theorem dX5_haveCrossed_58 : decode cX5_haveCrossed 58 = .ok (.iconst 4, 1) := by decide +kernel
theorem dX5_haveCrossed_59 : decode cX5_haveCrossed 59 = .ok (.invokevirtual 60, 3) := by decide +kernel
theorem dX5_haveCrossed_62 : decode cX5_haveCrossed 62 = .ok (.aload_n 0, 1) := by decide +kernel
theorem dX5_haveCrossed_63 : decode cX5_haveCrossed 63 = .ok (.iload_n 1, 1) := by decide +kernel
theorem dX5_haveCrossed_64 : decode cX5_haveCrossed 64 = .ok (.iconst 5, 1) := by decide +kernel
theorem dX5_haveCrossed_65 : decode cX5_haveCrossed 65 = .ok (.invokevirtual 60, 3) := by decide +kernel
theorem dX5_haveCrossed_68 : decode cX5_haveCrossed 68 = .ok (.if_icmp .ge 7, 3) := by decide +kernel
theorem dX5_haveCrossed_71 : decode cX5_haveCrossed 71 = .ok (.iconst 1, 1) := by decide +kernel
theorem dX5_haveCrossed_72 : decode cX5_haveCrossed 72 = .ok (.goto 4, 3) := by decide +kernel
theorem dX5_haveCrossed_75 : decode cX5_haveCrossed 75 = .ok (.iconst 0, 1) := by decide +kernel
theorem dX5_haveCrossed_76 : decode cX5_haveCrossed 76 = .ok (.ireturn, 1) := by decide +kernel
theorem dX5_enterTurn_0 : decode cX5_enterTurn 0 = .ok (.aload_n 0, 1) := by decide +kernel
theorem dX5_enterTurn_1 : decode cX5_enterTurn 1 = .ok (.getfield 9, 3) := by decide +kernel
theorem dX5_enterTurn_4 : decode cX5_enterTurn 4 = .ok (.istore_n 2, 1) := by decide +kernel
theorem dX5_enterTurn_5 : decode cX5_enterTurn 5 = .ok (.iload_n 2, 1) := by decide +kernel
theorem dX5_enterTurn_6 : decode cX5_enterTurn 6 = .ok (.bipush (-5), 2) := by decide +kernel
theorem dX5_enterTurn_8 : decode cX5_enterTurn 8 = .ok (.if_icmp .eq 37, 3) := by decide +kernel
theorem dX5_enterTurn_11 : decode cX5_enterTurn 11 = .ok (.aload_n 0, 1) := by decide +kernel
theorem dX5_enterTurn_12 : decode cX5_enterTurn 12 = .ok (.iload_n 2, 1) := by decide +kernel
theorem dX5_enterTurn_13 : decode cX5_enterTurn 13 = .ok (.iload_n 1, 1) := by decide +kernel
theorem dX5_enterTurn_14 : decode cX5_enterTurn 14 = .ok (.invokevirtual 64, 3) := by decide +kernel
theorem dX5_enterTurn_17 : decode cX5_enterTurn 17 = .ok (.ifCond .eq 28, 3) := by decide +kernel
theorem dX5_enterTurn_20 : decode cX5_enterTurn 20 = .ok (.aload_n 0, 1) := by decide +kernel
theorem dX5_enterTurn_21 : decode cX5_enterTurn 21 = .ok (.iload_n 2, 1) := by decide +kernel
theorem dX5_enterTurn_22 : decode cX5_enterTurn 22 = .ok (.bipush 9, 2) := by decide +kernel
theorem dX5_enterTurn_24 : decode cX5_enterTurn 24 = .ok (.iload_n 1, 1) := by decide +kernel
theorem dX5_enterTurn_25 : decode cX5_enterTurn 25 = .ok (.invokevirtual 56, 3) := by decide +kernel
theorem dX5_enterTurn_28 : decode cX5_enterTurn 28 = .ok (.aload_n 0, 1) := by decide +kernel
theorem dX5_enterTurn_29 : decode cX5_enterTurn 29 = .ok (.iload_n 1, 1) := by decide +kernel
theorem dX5_enterTurn_30 : decode cX5_enterTurn 30 = .ok (.bipush 9, 2) := by decide +kernel
theorem dX5_enterTurn_32 : decode cX5_enterTurn 32 = .ok (.iload_n 2, 1) := by decide +kernel
theorem dX5_enterTurn_33 : decode cX5_enterTurn 33 = .ok (.invokevirtual 56, 3) := by decide +kernel
theorem dX5_enterTurn_36 : decode cX5_enterTurn 36 = .ok (.aload_n 0, 1) := by decide +kernel
theorem dX5_enterTurn_37 : decode cX5_enterTurn 37 = .ok (.bipush (-5), 2) := by decide +kernel
theorem dX5_enterTurn_39 : decode cX5_enterTurn 39 = .ok (.putfield 9, 3) := by decide +kernel
theorem dX5_enterTurn_42 : decode cX5_enterTurn 42 = .ok (.goto 21, 3) := by decide +kernel
theorem dX5_enterTurn_45 : decode cX5_enterTurn 45 = .ok (.bipush (-5), 2) := by decide +kernel
theorem dX5_enterTurn_47 : decode cX5_enterTurn 47 = .ok (.istore_n 2, 1) := by decide +kernel
theorem dX5_enterTurn_48 : decode cX5_enterTurn 48 = .ok (.aload_n 0, 1) := by decide +kernel
theorem dX5_enterTurn_49 : decode cX5_enterTurn 49 = .ok (.dup, 1) := by decide +kernel
theorem dX5_enterTurn_50 : decode cX5_enterTurn 50 = .ok (.getfield 43, 3) := by decide +kernel
theorem dX5_enterTurn_53 : decode cX5_enterTurn 53 = .ok (.iconst 1, 1) := by decide +kernel
theorem dX5_enterTurn_54 : decode cX5_enterTurn 54 = .ok (.iadd, 1) := by decide +kernel
theorem dX5_enterTurn_55 : decode cX5_enterTurn 55 = .ok (.putfield 43, 3) := by decide +kernel
theorem dX5_enterTurn_58 : decode cX5_enterTurn 58 = .ok (.aload_n 0, 1) := by decide +kernel
theorem dX5_enterTurn_59 : decode cX5_enterTurn 59 = .ok (.iload_n 1, 1) := by decide +kernel
theorem dX5_enterTurn_60 : decode cX5_enterTurn 60 = .ok (.putfield 9, 3) := by decide +kernel
theorem dX5_enterTurn_63 : decode cX5_enterTurn 63 = .ok (.aload_n 0, 1) := by decide +kernel
theorem dX5_enterTurn_64 : decode cX5_enterTurn 64 = .ok (.iload_n 1, 1) := by decide +kernel
theorem dX5_enterTurn_65 : decode cX5_enterTurn 65 = .ok (.bipush 8, 2) := by decide +kernel
theorem dX5_enterTurn_67 : decode cX5_enterTurn 67 = .ok (.aload_n 0, 1) := by decide +kernel
theorem dX5_enterTurn_68 : decode cX5_enterTurn 68 = .ok (.getfield 43, 3) := by decide +kernel
theorem dX5_enterTurn_71 : decode cX5_enterTurn 71 = .ok (.invokevirtual 56, 3) := by decide +kernel
theorem dX5_enterTurn_74 : decode cX5_enterTurn 74 = .ok (.iload_n 2, 1) := by decide +kernel
theorem dX5_enterTurn_75 : decode cX5_enterTurn 75 = .ok (.ireturn, 1) := by decide +kernel
theorem dX5_wasDone_0 : decode cX5_wasDone 0 = .ok (.aload_n 0, 1) := by decide +kernel
theorem dX5_wasDone_1 : decode cX5_wasDone 1 = .ok (.iload_n 1, 1) := by decide +kernel
theorem dX5_wasDone_2 : decode cX5_wasDone 2 = .ok (.bipush 6, 2) := by decide +kernel
theorem dX5_wasDone_4 : decode cX5_wasDone 4 = .ok (.invokevirtual 60, 3) := by decide +kernel
theorem dX5_wasDone_7 : decode cX5_wasDone 7 = .ok (.iconst 1, 1) := by decide +kernel
theorem dX5_wasDone_8 : decode cX5_wasDone 8 = .ok (.if_icmp .ne 17, 3) := by decide +kernel
theorem dX5_wasDone_11 : decode cX5_wasDone 11 = .ok (.aload_n 0, 1) := by decide +kernel
theorem dX5_wasDone_12 : decode cX5_wasDone 12 = .ok (.iload_n 1, 1) := by decide +kernel
theorem dX5_wasDone_13 : decode cX5_wasDone 13 = .ok (.iconst 1, 1) := by decide +kernel
theorem dX5_wasDone_14 : decode cX5_wasDone 14 = .ok (.invokevirtual 60, 3) := by decide +kernel
theorem dX5_wasDone_17 : decode cX5_wasDone 17 = .ok (.iload_n 2, 1) := by decide +kernel
theorem dX5_wasDone_18 : decode cX5_wasDone 18 = .ok (.if_icmp .ne 7, 3) := by decide +kernel
theorem dX5_wasDone_21 : decode cX5_wasDone 21 = .ok (.iconst 1, 1) := by decide +kernel
theorem dX5_wasDone_22 : decode cX5_wasDone 22 = .ok (.goto 4, 3) := by decide +kernel
theorem dX5_wasDone_25 : decode cX5_wasDone 25 = .ok (.iconst 0, 1) := by decide +kernel
theorem dX5_wasDone_26 : decode cX5_wasDone 26 = .ok (.ireturn, 1) := by decide +kernel
theorem dX5_onEdge_0 : decode cX5_onEdge 0 = .ok (.iload_n 1, 1) := by decide +kernel
theorem dX5_onEdge_1 : decode cX5_onEdge 1 = .ok (.invokestatic 68, 3) := by decide +kernel
theorem dX5_onEdge_4 : decode cX5_onEdge 4 = .ok (.ifCond .eq 12, 3) := by decide +kernel
theorem dX5_onEdge_7 : decode cX5_onEdge 7 = .ok (.aload_n 0, 1) := by decide +kernel
theorem dX5_onEdge_8 : decode cX5_onEdge 8 = .ok (.getfield 22, 3) := by decide +kernel
theorem dX5_onEdge_11 : decode cX5_onEdge 11 = .ok (.iload_n 1, 1) := by decide +kernel
theorem dX5_onEdge_12 : decode cX5_onEdge 12 = .ok (.iaload, 1) := by decide +kernel
theorem dX5_onEdge_13 : decode cX5_onEdge 13 = .ok (.goto 4, 3) := by decide +kernel
theorem dX5_onEdge_16 : decode cX5_onEdge 16 = .ok (.iconst 0, 1) := by decide +kernel
theorem dX5_onEdge_17 : decode cX5_onEdge 17 = .ok (.ireturn, 1) := by decide +kernel
theorem dX5_putOnEdge_0 : decode cX5_putOnEdge 0 = .ok (.iload_n 1, 1) := by decide +kernel
theorem dX5_putOnEdge_1 : decode cX5_putOnEdge 1 = .ok (.invokestatic 68, 3) := by decide +kernel
theorem dX5_putOnEdge_4 : decode cX5_putOnEdge 4 = .ok (.ifCond .eq 10, 3) := by decide +kernel
theorem dX5_putOnEdge_7 : decode cX5_putOnEdge 7 = .ok (.aload_n 0, 1) := by decide +kernel
theorem dX5_putOnEdge_8 : decode cX5_putOnEdge 8 = .ok (.getfield 22, 3) := by decide +kernel
theorem dX5_putOnEdge_11 : decode cX5_putOnEdge 11 = .ok (.iload_n 1, 1) := by decide +kernel
theorem dX5_putOnEdge_12 : decode cX5_putOnEdge 12 = .ok (.iload_n 2, 1) := by decide +kernel
theorem dX5_putOnEdge_13 : decode cX5_putOnEdge 13 = .ok (.iastore, 1) := by decide +kernel
theorem dX5_putOnEdge_14 : decode cX5_putOnEdge 14 = .ok (.return_, 1) := by decide +kernel
theorem dX5_takerOf_0 : decode cX5_takerOf 0 = .ok (.iload_n 1, 1) := by decide +kernel
theorem dX5_takerOf_1 : decode cX5_takerOf 1 = .ok (.invokestatic 71, 3) := by decide +kernel
theorem dX5_takerOf_4 : decode cX5_takerOf 4 = .ok (.ifCond .eq 12, 3) := by decide +kernel
theorem dX5_takerOf_7 : decode cX5_takerOf 7 = .ok (.aload_n 0, 1) := by decide +kernel
theorem dX5_takerOf_8 : decode cX5_takerOf 8 = .ok (.getfield 25, 3) := by decide +kernel
theorem dX5_takerOf_11 : decode cX5_takerOf 11 = .ok (.iload_n 1, 1) := by decide +kernel
theorem dX5_takerOf_12 : decode cX5_takerOf 12 = .ok (.iaload, 1) := by decide +kernel
theorem dX5_takerOf_13 : decode cX5_takerOf 13 = .ok (.goto 5, 3) := by decide +kernel
theorem dX5_takerOf_16 : decode cX5_takerOf 16 = .ok (.bipush (-5), 2) := by decide +kernel
theorem dX5_takerOf_18 : decode cX5_takerOf 18 = .ok (.ireturn, 1) := by decide +kernel
theorem dX5_ownerOf_0 : decode cX5_ownerOf 0 = .ok (.aload_n 0, 1) := by decide +kernel
theorem dX5_ownerOf_1 : decode cX5_ownerOf 1 = .ok (.aload_n 0, 1) := by decide +kernel
theorem dX5_ownerOf_2 : decode cX5_ownerOf 2 = .ok (.iload_n 1, 1) := by decide +kernel
theorem dX5_ownerOf_3 : decode cX5_ownerOf 3 = .ok (.invokevirtual 74, 3) := by decide +kernel
theorem dX5_ownerOf_6 : decode cX5_ownerOf 6 = .ok (.iconst 0, 1) := by decide +kernel
theorem dX5_ownerOf_7 : decode cX5_ownerOf 7 = .ok (.invokevirtual 60, 3) := by decide +kernel
theorem dX5_ownerOf_10 : decode cX5_ownerOf 10 = .ok (.ireturn, 1) := by decide +kernel
theorem dX5_giveBackFieldsOf_0 : decode cX5_giveBackFieldsOf 0 = .ok (.iconst 0, 1) := by decide +kernel
theorem dX5_giveBackFieldsOf_1 : decode cX5_giveBackFieldsOf 1 = .ok (.istore_n 2, 1) := by decide +kernel
theorem dX5_giveBackFieldsOf_2 : decode cX5_giveBackFieldsOf 2 = .ok (.iload_n 2, 1) := by decide +kernel
theorem dX5_giveBackFieldsOf_3 : decode cX5_giveBackFieldsOf 3 = .ok (.bipush 48, 2) := by decide +kernel
theorem dX5_giveBackFieldsOf_5 : decode cX5_giveBackFieldsOf 5 = .ok (.if_icmp .ge 27, 3) := by decide +kernel
theorem dX5_giveBackFieldsOf_8 : decode cX5_giveBackFieldsOf 8 = .ok (.aload_n 0, 1) := by decide +kernel
theorem dX5_giveBackFieldsOf_9 : decode cX5_giveBackFieldsOf 9 = .ok (.getfield 25, 3) := by decide +kernel
theorem dX5_giveBackFieldsOf_12 : decode cX5_giveBackFieldsOf 12 = .ok (.iload_n 2, 1) := by decide +kernel
theorem dX5_giveBackFieldsOf_13 : decode cX5_giveBackFieldsOf 13 = .ok (.iaload, 1) := by decide +kernel
theorem dX5_giveBackFieldsOf_14 : decode cX5_giveBackFieldsOf 14 = .ok (.iload_n 1, 1) := by decide +kernel
theorem dX5_giveBackFieldsOf_15 : decode cX5_giveBackFieldsOf 15 = .ok (.if_icmp .ne 11, 3) := by decide +kernel
theorem dX5_giveBackFieldsOf_18 : decode cX5_giveBackFieldsOf 18 = .ok (.aload_n 0, 1) := by decide +kernel
theorem dX5_giveBackFieldsOf_19 : decode cX5_giveBackFieldsOf 19 = .ok (.getfield 25, 3) := by decide +kernel
theorem dX5_giveBackFieldsOf_22 : decode cX5_giveBackFieldsOf 22 = .ok (.iload_n 2, 1) := by decide +kernel
theorem dX5_giveBackFieldsOf_23 : decode cX5_giveBackFieldsOf 23 = .ok (.bipush (-5), 2) := by decide +kernel
theorem dX5_giveBackFieldsOf_25 : decode cX5_giveBackFieldsOf 25 = .ok (.iastore, 1) := by decide +kernel
theorem dX5_giveBackFieldsOf_26 : decode cX5_giveBackFieldsOf 26 = .ok (.iinc 2 1, 3) := by decide +kernel
theorem dX5_giveBackFieldsOf_29 : decode cX5_giveBackFieldsOf 29 = .ok (.goto (-27), 3) := by decide +kernel
theorem dX5_giveBackFieldsOf_32 : decode cX5_giveBackFieldsOf 32 = .ok (.return_, 1) := by decide +kernel
theorem dX5_hasTruce_0 : decode cX5_hasTruce 0 = .ok (.aload_n 0, 1) := by decide +kernel
theorem dX5_hasTruce_1 : decode cX5_hasTruce 1 = .ok (.getfield 37, 3) := by decide +kernel
theorem dX5_hasTruce_4 : decode cX5_hasTruce 4 = .ok (.aload_n 0, 1) := by decide +kernel
theorem dX5_hasTruce_5 : decode cX5_hasTruce 5 = .ok (.getfield 19, 3) := by decide +kernel
theorem dX5_hasTruce_8 : decode cX5_hasTruce 8 = .ok (.iconst 0, 1) := by decide +kernel
theorem dX5_hasTruce_9 : decode cX5_hasTruce 9 = .ok (.iaload, 1) := by decide +kernel
theorem dX5_hasTruce_10 : decode cX5_hasTruce 10 = .ok (.if_icmp .ge 20, 3) := by decide +kernel
theorem dX5_hasTruce_13 : decode cX5_hasTruce 13 = .ok (.aload_n 0, 1) := by decide +kernel
theorem dX5_hasTruce_14 : decode cX5_hasTruce 14 = .ok (.getfield 37, 3) := by decide +kernel
theorem dX5_hasTruce_17 : decode cX5_hasTruce 17 = .ok (.aload_n 0, 1) := by decide +kernel
theorem dX5_hasTruce_18 : decode cX5_hasTruce 18 = .ok (.getfield 19, 3) := by decide +kernel
theorem dX5_hasTruce_21 : decode cX5_hasTruce 21 = .ok (.iconst 1, 1) := by decide +kernel
theorem dX5_hasTruce_22 : decode cX5_hasTruce 22 = .ok (.iaload, 1) := by decide +kernel
theorem dX5_hasTruce_23 : decode cX5_hasTruce 23 = .ok (.if_icmp .ge 7, 3) := by decide +kernel
theorem dX5_hasTruce_26 : decode cX5_hasTruce 26 = .ok (.iconst 1, 1) := by decide +kernel
theorem dX5_hasTruce_27 : decode cX5_hasTruce 27 = .ok (.goto 4, 3) := by decide +kernel
theorem dX5_hasTruce_30 : decode cX5_hasTruce 30 = .ok (.iconst 0, 1) := by decide +kernel
theorem dX5_hasTruce_31 : decode cX5_hasTruce 31 = .ok (.ireturn, 1) := by decide +kernel
theorem dX5_lettersThatAre_0 : decode cX5_lettersThatAre 0 = .ok (.iconst 0, 1) := by decide +kernel
theorem dX5_lettersThatAre_1 : decode cX5_lettersThatAre 1 = .ok (.istore_n 2, 1) := by decide +kernel
theorem dX5_lettersThatAre_2 : decode cX5_lettersThatAre 2 = .ok (.iconst 0, 1) := by decide +kernel
theorem dX5_lettersThatAre_3 : decode cX5_lettersThatAre 3 = .ok (.istore_n 3, 1) := by decide +kernel
theorem dX5_lettersThatAre_4 : decode cX5_lettersThatAre 4 = .ok (.iload_n 3, 1) := by decide +kernel
theorem dX5_lettersThatAre_5 : decode cX5_lettersThatAre 5 = .ok (.aload_n 0, 1) := by decide +kernel
theorem dX5_lettersThatAre_6 : decode cX5_lettersThatAre 6 = .ok (.getfield 40, 3) := by decide +kernel
theorem dX5_lettersThatAre_9 : decode cX5_lettersThatAre 9 = .ok (.if_icmp .ge 23, 3) := by decide +kernel
theorem dX5_lettersThatAre_12 : decode cX5_lettersThatAre 12 = .ok (.aload_n 0, 1) := by decide +kernel
theorem dX5_lettersThatAre_13 : decode cX5_lettersThatAre 13 = .ok (.iload_n 3, 1) := by decide +kernel
theorem dX5_lettersThatAre_14 : decode cX5_lettersThatAre 14 = .ok (.bipush 6, 2) := by decide +kernel
theorem dX5_lettersThatAre_16 : decode cX5_lettersThatAre 16 = .ok (.invokevirtual 60, 3) := by decide +kernel
theorem dX5_lettersThatAre_19 : decode cX5_lettersThatAre 19 = .ok (.iload_n 1, 1) := by decide +kernel
theorem dX5_lettersThatAre_20 : decode cX5_lettersThatAre 20 = .ok (.if_icmp .ne 6, 3) := by decide +kernel
theorem dX5_lettersThatAre_23 : decode cX5_lettersThatAre 23 = .ok (.iinc 2 1, 3) := by decide +kernel
theorem dX5_lettersThatAre_26 : decode cX5_lettersThatAre 26 = .ok (.iinc 3 1, 3) := by decide +kernel
theorem dX5_lettersThatAre_29 : decode cX5_lettersThatAre 29 = .ok (.goto (-25), 3) := by decide +kernel
theorem dX5_lettersThatAre_32 : decode cX5_lettersThatAre 32 = .ok (.iload_n 2, 1) := by decide +kernel
theorem dX5_lettersThatAre_33 : decode cX5_lettersThatAre 33 = .ok (.ireturn, 1) := by decide +kernel
theorem dX5_turnsOfTwo_0 : decode cX5_turnsOfTwo 0 = .ok (.iconst 0, 1) := by decide +kernel
theorem dX5_turnsOfTwo_1 : decode cX5_turnsOfTwo 1 = .ok (.istore_n 1, 1) := by decide +kernel
theorem dX5_turnsOfTwo_2 : decode cX5_turnsOfTwo 2 = .ok (.iconst 0, 1) := by decide +kernel
theorem dX5_turnsOfTwo_3 : decode cX5_turnsOfTwo 3 = .ok (.istore_n 2, 1) := by decide +kernel
theorem dX5_turnsOfTwo_4 : decode cX5_turnsOfTwo 4 = .ok (.iload_n 2, 1) := by decide +kernel
theorem dX5_turnsOfTwo_5 : decode cX5_turnsOfTwo 5 = .ok (.aload_n 0, 1) := by decide +kernel
theorem dX5_turnsOfTwo_6 : decode cX5_turnsOfTwo 6 = .ok (.getfield 40, 3) := by decide +kernel
theorem dX5_turnsOfTwo_9 : decode cX5_turnsOfTwo 9 = .ok (.if_icmp .ge 24, 3) := by decide +kernel
theorem dX5_turnsOfTwo_12 : decode cX5_turnsOfTwo 12 = .ok (.aload_n 0, 1) := by decide +kernel
theorem dX5_turnsOfTwo_13 : decode cX5_turnsOfTwo 13 = .ok (.iload_n 2, 1) := by decide +kernel
theorem dX5_turnsOfTwo_14 : decode cX5_turnsOfTwo 14 = .ok (.bipush 9, 2) := by decide +kernel
theorem dX5_turnsOfTwo_16 : decode cX5_turnsOfTwo 16 = .ok (.invokevirtual 60, 3) := by decide +kernel
theorem dX5_turnsOfTwo_19 : decode cX5_turnsOfTwo 19 = .ok (.bipush (-5), 2) := by decide +kernel
theorem dX5_turnsOfTwo_21 : decode cX5_turnsOfTwo 21 = .ok (.if_icmp .eq 6, 3) := by decide +kernel
theorem dX5_turnsOfTwo_24 : decode cX5_turnsOfTwo 24 = .ok (.iinc 1 1, 3) := by decide +kernel
theorem dX5_turnsOfTwo_27 : decode cX5_turnsOfTwo 27 = .ok (.iinc 2 1, 3) := by decide +kernel
theorem dX5_turnsOfTwo_30 : decode cX5_turnsOfTwo 30 = .ok (.goto (-26), 3) := by decide +kernel
theorem dX5_turnsOfTwo_33 : decode cX5_turnsOfTwo 33 = .ok (.iload_n 1, 1) := by decide +kernel
theorem dX5_turnsOfTwo_34 : decode cX5_turnsOfTwo 34 = .ok (.iconst 2, 1) := by decide +kernel
theorem dX5_turnsOfTwo_35 : decode cX5_turnsOfTwo 35 = .ok (.idiv, 1) := by decide +kernel
theorem dX5_turnsOfTwo_36 : decode cX5_turnsOfTwo 36 = .ok (.ireturn, 1) := by decide +kernel
theorem dX5_fieldsOf_0 : decode cX5_fieldsOf 0 = .ok (.iconst 0, 1) := by decide +kernel
theorem dX5_fieldsOf_1 : decode cX5_fieldsOf 1 = .ok (.istore_n 2, 1) := by decide +kernel
theorem dX5_fieldsOf_2 : decode cX5_fieldsOf 2 = .ok (.iconst 0, 1) := by decide +kernel
theorem dX5_fieldsOf_3 : decode cX5_fieldsOf 3 = .ok (.istore_n 3, 1) := by decide +kernel
theorem dX5_fieldsOf_4 : decode cX5_fieldsOf 4 = .ok (.iload_n 3, 1) := by decide +kernel
theorem dX5_fieldsOf_5 : decode cX5_fieldsOf 5 = .ok (.bipush 48, 2) := by decide +kernel
theorem dX5_fieldsOf_7 : decode cX5_fieldsOf 7 = .ok (.if_icmp .ge 21, 3) := by decide +kernel
theorem dX5_fieldsOf_10 : decode cX5_fieldsOf 10 = .ok (.aload_n 0, 1) := by decide +kernel
theorem dX5_fieldsOf_11 : decode cX5_fieldsOf 11 = .ok (.iload_n 3, 1) := by decide +kernel
theorem dX5_fieldsOf_12 : decode cX5_fieldsOf 12 = .ok (.invokevirtual 78, 3) := by decide +kernel
theorem dX5_fieldsOf_15 : decode cX5_fieldsOf 15 = .ok (.iload_n 1, 1) := by decide +kernel
theorem dX5_fieldsOf_16 : decode cX5_fieldsOf 16 = .ok (.if_icmp .ne 6, 3) := by decide +kernel
theorem dX5_fieldsOf_19 : decode cX5_fieldsOf 19 = .ok (.iinc 2 1, 3) := by decide +kernel
theorem dX5_fieldsOf_22 : decode cX5_fieldsOf 22 = .ok (.iinc 3 1, 3) := by decide +kernel
theorem dX5_fieldsOf_25 : decode cX5_fieldsOf 25 = .ok (.goto (-21), 3) := by decide +kernel
theorem dX5_fieldsOf_28 : decode cX5_fieldsOf 28 = .ok (.iload_n 2, 1) := by decide +kernel
theorem dX5_fieldsOf_29 : decode cX5_fieldsOf 29 = .ok (.ireturn, 1) := by decide +kernel
theorem dX5_edgesWith_0 : decode cX5_edgesWith 0 = .ok (.iconst 0, 1) := by decide +kernel
theorem dX5_edgesWith_1 : decode cX5_edgesWith 1 = .ok (.istore_n 2, 1) := by decide +kernel
theorem dX5_edgesWith_2 : decode cX5_edgesWith 2 = .ok (.iconst 0, 1) := by decide +kernel
theorem dX5_edgesWith_3 : decode cX5_edgesWith 3 = .ok (.istore_n 3, 1) := by decide +kernel
theorem dX5_edgesWith_4 : decode cX5_edgesWith 4 = .ok (.iload_n 3, 1) := by decide +kernel
theorem dX5_edgesWith_5 : decode cX5_edgesWith 5 = .ok (.bipush 82, 2) := by decide +kernel
theorem dX5_edgesWith_7 : decode cX5_edgesWith 7 = .ok (.if_icmp .ge 22, 3) := by decide +kernel
theorem dX5_edgesWith_10 : decode cX5_edgesWith 10 = .ok (.aload_n 0, 1) := by decide +kernel
theorem dX5_edgesWith_11 : decode cX5_edgesWith 11 = .ok (.getfield 22, 3) := by decide +kernel
theorem dX5_edgesWith_14 : decode cX5_edgesWith 14 = .ok (.iload_n 3, 1) := by decide +kernel
theorem dX5_edgesWith_15 : decode cX5_edgesWith 15 = .ok (.iaload, 1) := by decide +kernel
theorem dX5_edgesWith_16 : decode cX5_edgesWith 16 = .ok (.iload_n 1, 1) := by decide +kernel
theorem dX5_edgesWith_17 : decode cX5_edgesWith 17 = .ok (.if_icmp .ne 6, 3) := by decide +kernel
theorem dX5_edgesWith_20 : decode cX5_edgesWith 20 = .ok (.iinc 2 1, 3) := by decide +kernel
theorem dX5_edgesWith_23 : decode cX5_edgesWith 23 = .ok (.iinc 3 1, 3) := by decide +kernel
theorem dX5_edgesWith_26 : decode cX5_edgesWith 26 = .ok (.goto (-22), 3) := by decide +kernel
theorem dX5_edgesWith_29 : decode cX5_edgesWith 29 = .ok (.iload_n 2, 1) := by decide +kernel
theorem dX5_edgesWith_30 : decode cX5_edgesWith 30 = .ok (.ireturn, 1) := by decide +kernel
theorem dX6_init_0 : decode cX6_init 0 = .ok (.aload_n 0, 1) := by decide +kernel
theorem dX6_init_1 : decode cX6_init 1 = .ok (.invokespecial 1, 3) := by decide +kernel
theorem dX6_init_4 : decode cX6_init 4 = .ok (.aload_n 0, 1) := by decide +kernel
theorem dX6_init_5 : decode cX6_init 5 = .ok (.new 7, 3) := by decide +kernel
theorem dX6_init_8 : decode cX6_init 8 = .ok (.dup, 1) := by decide +kernel
theorem dX6_init_9 : decode cX6_init 9 = .ok (.invokespecial 9, 3) := by decide +kernel
theorem dX6_init_12 : decode cX6_init 12 = .ok (.putfield 10, 3) := by decide +kernel
theorem dX6_init_15 : decode cX6_init 15 = .ok (.aload_n 0, 1) := by decide +kernel
theorem dX6_init_16 : decode cX6_init 16 = .ok (.new 16, 3) := by decide +kernel
theorem dX6_init_19 : decode cX6_init 19 = .ok (.dup, 1) := by decide +kernel
theorem dX6_init_20 : decode cX6_init 20 = .ok (.aload_n 0, 1) := by decide +kernel
theorem dX6_init_21 : decode cX6_init 21 = .ok (.getfield 10, 3) := by decide +kernel
theorem dX6_init_24 : decode cX6_init 24 = .ok (.invokespecial 18, 3) := by decide +kernel
theorem dX6_init_27 : decode cX6_init 27 = .ok (.putfield 21, 3) := by decide +kernel
theorem dX6_init_30 : decode cX6_init 30 = .ok (.aload_n 0, 1) := by decide +kernel
theorem dX6_init_31 : decode cX6_init 31 = .ok (.new 25, 3) := by decide +kernel
theorem dX6_init_34 : decode cX6_init 34 = .ok (.dup, 1) := by decide +kernel
theorem dX6_init_35 : decode cX6_init 35 = .ok (.aload_n 0, 1) := by decide +kernel
theorem dX6_init_36 : decode cX6_init 36 = .ok (.getfield 10, 3) := by decide +kernel
theorem dX6_init_39 : decode cX6_init 39 = .ok (.aload_n 0, 1) := by decide +kernel
theorem dX6_init_40 : decode cX6_init 40 = .ok (.getfield 21, 3) := by decide +kernel
theorem dX6_init_43 : decode cX6_init 43 = .ok (.invokespecial 27, 3) := by decide +kernel
theorem dX6_init_46 : decode cX6_init 46 = .ok (.putfield 30, 3) := by decide +kernel
theorem dX6_init_49 : decode cX6_init 49 = .ok (.aload_n 0, 1) := by decide +kernel
theorem dX6_init_50 : decode cX6_init 50 = .ok (.new 34, 3) := by decide +kernel
theorem dX6_init_53 : decode cX6_init 53 = .ok (.dup, 1) := by decide +kernel
theorem dX6_init_54 : decode cX6_init 54 = .ok (.invokespecial 36, 3) := by decide +kernel
theorem dX6_init_57 : decode cX6_init 57 = .ok (.putfield 37, 3) := by decide +kernel
theorem dX6_init_60 : decode cX6_init 60 = .ok (.aload_n 0, 1) := by decide +kernel
theorem dX6_init_61 : decode cX6_init 61 = .ok (.new 41, 3) := by decide +kernel
theorem dX6_init_64 : decode cX6_init 64 = .ok (.dup, 1) := by decide +kernel
theorem dX6_init_65 : decode cX6_init 65 = .ok (.invokespecial 43, 3) := by decide +kernel
theorem dX6_init_68 : decode cX6_init 68 = .ok (.putfield 44, 3) := by decide +kernel
theorem dX6_init_71 : decode cX6_init 71 = .ok (.aload_n 0, 1) := by decide +kernel
theorem dX6_init_72 : decode cX6_init 72 = .ok (.new 48, 3) := by decide +kernel
theorem dX6_init_75 : decode cX6_init 75 = .ok (.dup, 1) := by decide +kernel
theorem dX6_init_76 : decode cX6_init 76 = .ok (.invokespecial 50, 3) := by decide +kernel
theorem dX6_init_79 : decode cX6_init 79 = .ok (.putfield 51, 3) := by decide +kernel
theorem dX6_init_82 : decode cX6_init 82 = .ok (.aload_n 0, 1) := by decide +kernel
theorem dX6_init_83 : decode cX6_init 83 = .ok (.new 48, 3) := by decide +kernel
theorem dX6_init_86 : decode cX6_init 86 = .ok (.dup, 1) := by decide +kernel
theorem dX6_init_87 : decode cX6_init 87 = .ok (.invokespecial 50, 3) := by decide +kernel
theorem dX6_init_90 : decode cX6_init 90 = .ok (.putfield 55, 3) := by decide +kernel
theorem dX6_init_93 : decode cX6_init 93 = .ok (.aload_n 0, 1) := by decide +kernel
theorem dX6_init_94 : decode cX6_init 94 = .ok (.new 48, 3) := by decide +kernel
theorem dX6_init_97 : decode cX6_init 97 = .ok (.dup, 1) := by decide +kernel
theorem dX6_init_98 : decode cX6_init 98 = .ok (.invokespecial 50, 3) := by decide +kernel
theorem dX6_init_101 : decode cX6_init 101 = .ok (.putfield 58, 3) := by decide +kernel
theorem dX6_init_104 : decode cX6_init 104 = .ok (.aload_n 0, 1) := by decide +kernel
theorem dX6_init_105 : decode cX6_init 105 = .ok (.new 48, 3) := by decide +kernel
theorem dX6_init_108 : decode cX6_init 108 = .ok (.dup, 1) := by decide +kernel
theorem dX6_init_109 : decode cX6_init 109 = .ok (.invokespecial 50, 3) := by decide +kernel
theorem dX6_init_112 : decode cX6_init 112 = .ok (.putfield 61, 3) := by decide +kernel
theorem dX6_init_115 : decode cX6_init 115 = .ok (.return_, 1) := by decide +kernel
theorem dX6_writeEdge_0 : decode cX6_writeEdge 0 = .ok (.aload_n 0, 1) := by decide +kernel
theorem dX6_writeEdge_1 : decode cX6_writeEdge 1 = .ok (.getfield 55, 3) := by decide +kernel
theorem dX6_writeEdge_4 : decode cX6_writeEdge 4 = .ok (.aload_n 0, 1) := by decide +kernel
theorem dX6_writeEdge_5 : decode cX6_writeEdge 5 = .ok (.getfield 51, 3) := by decide +kernel
theorem dX6_writeEdge_8 : decode cX6_writeEdge 8 = .ok (.invokevirtual 64, 3) := by decide +kernel
theorem dX6_writeEdge_11 : decode cX6_writeEdge 11 = .ok (.aload_n 0, 1) := by decide +kernel
theorem dX6_writeEdge_12 : decode cX6_writeEdge 12 = .ok (.aload_n 0, 1) := by decide +kernel
theorem dX6_writeEdge_13 : decode cX6_writeEdge 13 = .ok (.iload_n 1, 1) := by decide +kernel
theorem dX6_writeEdge_14 : decode cX6_writeEdge 14 = .ok (.iload_n 2, 1) := by decide +kernel
theorem dX6_writeEdge_15 : decode cX6_writeEdge 15 = .ok (.ifCond .eq 7, 3) := by decide +kernel
theorem dX6_writeEdge_18 : decode cX6_writeEdge 18 = .ok (.iconst 1, 1) := by decide +kernel
theorem dX6_writeEdge_19 : decode cX6_writeEdge 19 = .ok (.goto 4, 3) := by decide +kernel
theorem dX6_writeEdge_22 : decode cX6_writeEdge 22 = .ok (.iconst 0, 1) := by decide +kernel
theorem dX6_writeEdge_23 : decode cX6_writeEdge 23 = .ok (.iload_n 3, 1) := by decide +kernel
theorem dX6_writeEdge_24 : decode cX6_writeEdge 24 = .ok (.iload 4, 2) := by decide +kernel
theorem dX6_writeEdge_26 : decode cX6_writeEdge 26 = .ok (.invokevirtual 68, 3) := by decide +kernel
theorem dX6_writeEdge_29 : decode cX6_writeEdge 29 = .ok (.invokevirtual 72, 3) := by decide +kernel
theorem dX6_writeEdge_32 : decode cX6_writeEdge 32 = .ok (.ireturn, 1) := by decide +kernel
theorem dX6_writeClaim_0 : decode cX6_writeClaim 0 = .ok (.aload_n 0, 1) := by decide +kernel
theorem dX6_writeClaim_1 : decode cX6_writeClaim 1 = .ok (.getfield 55, 3) := by decide +kernel
theorem dX6_writeClaim_4 : decode cX6_writeClaim 4 = .ok (.aload_n 0, 1) := by decide +kernel
theorem dX6_writeClaim_5 : decode cX6_writeClaim 5 = .ok (.getfield 51, 3) := by decide +kernel
theorem dX6_writeClaim_8 : decode cX6_writeClaim 8 = .ok (.invokevirtual 64, 3) := by decide +kernel
theorem dX6_writeClaim_11 : decode cX6_writeClaim 11 = .ok (.aload_n 0, 1) := by decide +kernel
theorem dX6_writeClaim_12 : decode cX6_writeClaim 12 = .ok (.aload_n 0, 1) := by decide +kernel
theorem dX6_writeClaim_13 : decode cX6_writeClaim 13 = .ok (.iload_n 1, 1) := by decide +kernel
theorem dX6_writeClaim_14 : decode cX6_writeClaim 14 = .ok (.iload_n 2, 1) := by decide +kernel
theorem dX6_writeClaim_15 : decode cX6_writeClaim 15 = .ok (.invokevirtual 76, 3) := by decide +kernel
theorem dX6_writeClaim_18 : decode cX6_writeClaim 18 = .ok (.invokevirtual 72, 3) := by decide +kernel
theorem dX6_writeClaim_21 : decode cX6_writeClaim 21 = .ok (.ireturn, 1) := by decide +kernel
theorem dX6_writeTruce_0 : decode cX6_writeTruce 0 = .ok (.aload_n 0, 1) := by decide +kernel
theorem dX6_writeTruce_1 : decode cX6_writeTruce 1 = .ok (.getfield 55, 3) := by decide +kernel
theorem dX6_writeTruce_4 : decode cX6_writeTruce 4 = .ok (.aload_n 0, 1) := by decide +kernel
theorem dX6_writeTruce_5 : decode cX6_writeTruce 5 = .ok (.getfield 51, 3) := by decide +kernel
theorem dX6_writeTruce_8 : decode cX6_writeTruce 8 = .ok (.invokevirtual 64, 3) := by decide +kernel
theorem dX6_writeTruce_11 : decode cX6_writeTruce 11 = .ok (.aload_n 0, 1) := by decide +kernel
theorem dX6_writeTruce_12 : decode cX6_writeTruce 12 = .ok (.aload_n 0, 1) := by decide +kernel
theorem dX6_writeTruce_13 : decode cX6_writeTruce 13 = .ok (.iload_n 1, 1) := by decide +kernel
theorem dX6_writeTruce_14 : decode cX6_writeTruce 14 = .ok (.iload_n 2, 1) := by decide +kernel
theorem dX6_writeTruce_15 : decode cX6_writeTruce 15 = .ok (.invokevirtual 80, 3) := by decide +kernel
theorem dX6_writeTruce_18 : decode cX6_writeTruce 18 = .ok (.invokevirtual 72, 3) := by decide +kernel
theorem dX6_writeTruce_21 : decode cX6_writeTruce 21 = .ok (.ireturn, 1) := by decide +kernel
theorem dX6_callBack_0 : decode cX6_callBack 0 = .ok (.aload_n 0, 1) := by decide +kernel
theorem dX6_callBack_1 : decode cX6_callBack 1 = .ok (.getfield 51, 3) := by decide +kernel
theorem dX6_callBack_4 : decode cX6_callBack 4 = .ok (.iload_n 1, 1) := by decide +kernel
theorem dX6_callBack_5 : decode cX6_callBack 5 = .ok (.invokevirtual 83, 3) := by decide +kernel
theorem dX6_callBack_8 : decode cX6_callBack 8 = .ok (.ifCond .ne 5, 3) := by decide +kernel
theorem dX6_callBack_11 : decode cX6_callBack 11 = .ok (.iconst (-1), 1) := by decide +kernel
theorem dX6_callBack_12 : decode cX6_callBack 12 = .ok (.ireturn, 1) := by decide +kernel
theorem dX6_callBack_13 : decode cX6_callBack 13 = .ok (.aload_n 0, 1) := by decide +kernel
theorem dX6_callBack_14 : decode cX6_callBack 14 = .ok (.getfield 51, 3) := by decide +kernel
theorem dX6_callBack_17 : decode cX6_callBack 17 = .ok (.iload_n 1, 1) := by decide +kernel
theorem dX6_callBack_18 : decode cX6_callBack 18 = .ok (.bipush 6, 2) := by decide +kernel
theorem dX6_callBack_20 : decode cX6_callBack 20 = .ok (.invokevirtual 87, 3) := by decide +kernel
theorem dX6_callBack_23 : decode cX6_callBack 23 = .ok (.ifCond .eq 6, 3) := by decide +kernel
theorem dX6_callBack_26 : decode cX6_callBack 26 = .ok (.bipush (-4), 2) := by decide +kernel
theorem dX6_callBack_28 : decode cX6_callBack 28 = .ok (.ireturn, 1) := by decide +kernel
theorem dX6_callBack_29 : decode cX6_callBack 29 = .ok (.aload_n 0, 1) := by decide +kernel
theorem dX6_callBack_30 : decode cX6_callBack 30 = .ok (.getfield 44, 3) := by decide +kernel
theorem dX6_callBack_33 : decode cX6_callBack 33 = .ok (.aload_n 0, 1) := by decide +kernel
theorem dX6_callBack_34 : decode cX6_callBack 34 = .ok (.getfield 51, 3) := by decide +kernel
theorem dX6_callBack_37 : decode cX6_callBack 37 = .ok (.invokevirtual 90, 3) := by decide +kernel
theorem dX6_callBack_40 : decode cX6_callBack 40 = .ok (.aload_n 0, 1) := by decide +kernel
theorem dX6_callBack_41 : decode cX6_callBack 41 = .ok (.getfield 51, 3) := by decide +kernel
theorem dX6_callBack_44 : decode cX6_callBack 44 = .ok (.iload_n 1, 1) := by decide +kernel
theorem dX6_callBack_45 : decode cX6_callBack 45 = .ok (.bipush 6, 2) := by decide +kernel
theorem dX6_callBack_47 : decode cX6_callBack 47 = .ok (.iconst 3, 1) := by decide +kernel
theorem dX6_callBack_48 : decode cX6_callBack 48 = .ok (.invokevirtual 93, 3) := by decide +kernel
theorem dX6_callBack_51 : decode cX6_callBack 51 = .ok (.aload_n 0, 1) := by decide +kernel
theorem dX6_callBack_52 : decode cX6_callBack 52 = .ok (.getfield 51, 3) := by decide +kernel
theorem dX6_callBack_55 : decode cX6_callBack 55 = .ok (.iload_n 1, 1) := by decide +kernel
theorem dX6_callBack_56 : decode cX6_callBack 56 = .ok (.iconst 5, 1) := by decide +kernel
theorem dX6_callBack_57 : decode cX6_callBack 57 = .ok (.invokevirtual 87, 3) := by decide +kernel
theorem dX6_callBack_60 : decode cX6_callBack 60 = .ok (.aload_n 0, 1) := by decide +kernel
theorem dX6_callBack_61 : decode cX6_callBack 61 = .ok (.getfield 51, 3) := by decide +kernel
theorem dX6_callBack_64 : decode cX6_callBack 64 = .ok (.getfield 97, 3) := by decide +kernel
theorem dX6_callBack_67 : decode cX6_callBack 67 = .ok (.isub, 1) := by decide +kernel
theorem dX6_callBack_68 : decode cX6_callBack 68 = .ok (.ireturn, 1) := by decide +kernel
theorem dX6_pass_0 : decode cX6_pass 0 = .ok (.aload_n 0, 1) := by decide +kernel
theorem dX6_pass_1 : decode cX6_pass 1 = .ok (.getfield 55, 3) := by decide +kernel
theorem dX6_pass_4 : decode cX6_pass 4 = .ok (.aload_n 0, 1) := by decide +kernel
theorem dX6_pass_5 : decode cX6_pass 5 = .ok (.getfield 51, 3) := by decide +kernel
theorem dX6_pass_8 : decode cX6_pass 8 = .ok (.invokevirtual 64, 3) := by decide +kernel
theorem dX6_pass_11 : decode cX6_pass 11 = .ok (.aload_n 0, 1) := by decide +kernel
theorem dX6_pass_12 : decode cX6_pass 12 = .ok (.aload_n 0, 1) := by decide +kernel
theorem dX6_pass_13 : decode cX6_pass 13 = .ok (.iload_n 1, 1) := by decide +kernel
theorem dX6_pass_14 : decode cX6_pass 14 = .ok (.invokevirtual 101, 3) := by decide +kernel
theorem dX6_pass_17 : decode cX6_pass 17 = .ok (.invokevirtual 72, 3) := by decide +kernel
theorem dX6_pass_20 : decode cX6_pass 20 = .ok (.ireturn, 1) := by decide +kernel
theorem dX6_set_0 : decode cX6_set 0 = .ok (.iload_n 1, 1) := by decide +kernel
theorem dX6_set_1 : decode cX6_set 1 = .ok (.ifCond .lt 8, 3) := by decide +kernel
theorem dX6_set_4 : decode cX6_set 4 = .ok (.iload_n 1, 1) := by decide +kernel
theorem dX6_set_5 : decode cX6_set 5 = .ok (.iconst 2, 1) := by decide +kernel
theorem dX6_set_6 : decode cX6_set 6 = .ok (.if_icmp .lt 5, 3) := by decide +kernel
theorem dX6_set_9 : decode cX6_set 9 = .ok (.iconst (-1), 1) := by decide +kernel
theorem dX6_set_10 : decode cX6_set 10 = .ok (.ireturn, 1) := by decide +kernel
theorem dX6_set_11 : decode cX6_set 11 = .ok (.iload_n 1, 1) := by decide +kernel
theorem dX6_set_12 : decode cX6_set 12 = .ok (.ifCond .ne 8, 3) := by decide +kernel
theorem dX6_set_15 : decode cX6_set 15 = .ok (.bipush 9, 2) := by decide +kernel
theorem dX6_set_17 : decode cX6_set 17 = .ok (.goto 5, 3) := by decide +kernel
theorem dX6_set_20 : decode cX6_set 20 = .ok (.bipush 48, 2) := by decide +kernel
theorem dX6_set_22 : decode cX6_set 22 = .ok (.istore_n 3, 1) := by decide +kernel
theorem dX6_set_23 : decode cX6_set 23 = .ok (.iload_n 2, 1) := by decide +kernel
theorem dX6_set_24 : decode cX6_set 24 = .ok (.iconst 1, 1) := by decide +kernel
theorem dX6_set_25 : decode cX6_set 25 = .ok (.if_icmp .lt 8, 3) := by decide +kernel
theorem dX6_set_28 : decode cX6_set 28 = .ok (.iload_n 2, 1) := by decide +kernel
theorem dX6_set_29 : decode cX6_set 29 = .ok (.iload_n 3, 1) := by decide +kernel
theorem dX6_set_30 : decode cX6_set 30 = .ok (.if_icmp .le 6, 3) := by decide +kernel
theorem dX6_set_33 : decode cX6_set 33 = .ok (.bipush (-2), 2) := by decide +kernel
theorem dX6_set_35 : decode cX6_set 35 = .ok (.ireturn, 1) := by decide +kernel
theorem dX6_set_36 : decode cX6_set 36 = .ok (.aload_n 0, 1) := by decide +kernel
theorem dX6_set_37 : decode cX6_set 37 = .ok (.getfield 51, 3) := by decide +kernel
theorem dX6_set_40 : decode cX6_set 40 = .ok (.getfield 104, 3) := by decide +kernel
theorem dX6_set_43 : decode cX6_set 43 = .ok (.iload_n 1, 1) := by decide +kernel
theorem dX6_set_44 : decode cX6_set 44 = .ok (.iaload, 1) := by decide +kernel
theorem dX6_set_45 : decode cX6_set 45 = .ok (.istore 4, 2) := by decide +kernel
theorem dX6_set_47 : decode cX6_set 47 = .ok (.iload 4, 2) := by decide +kernel
theorem dX6_set_49 : decode cX6_set 49 = .ok (.iload_n 2, 1) := by decide +kernel
theorem dX6_set_50 : decode cX6_set 50 = .ok (.if_icmp .ne 6, 3) := by decide +kernel
theorem dX6_set_53 : decode cX6_set 53 = .ok (.bipush (-5), 2) := by decide +kernel
theorem dX6_set_55 : decode cX6_set 55 = .ok (.ireturn, 1) := by decide +kernel
theorem dX6_set_56 : decode cX6_set 56 = .ok (.aload_n 0, 1) := by decide +kernel
theorem dX6_set_57 : decode cX6_set 57 = .ok (.getfield 44, 3) := by decide +kernel
theorem dX6_set_60 : decode cX6_set 60 = .ok (.aload_n 0, 1) := by decide +kernel
theorem dX6_set_61 : decode cX6_set 61 = .ok (.getfield 51, 3) := by decide +kernel
theorem dX6_set_64 : decode cX6_set 64 = .ok (.invokevirtual 90, 3) := by decide +kernel
theorem dX6_set_67 : decode cX6_set 67 = .ok (.aload_n 0, 1) := by decide +kernel
theorem dX6_set_68 : decode cX6_set 68 = .ok (.getfield 51, 3) := by decide +kernel
theorem dX6_set_71 : decode cX6_set 71 = .ok (.getfield 104, 3) := by decide +kernel
theorem dX6_set_74 : decode cX6_set 74 = .ok (.iload_n 1, 1) := by decide +kernel
theorem dX6_set_75 : decode cX6_set 75 = .ok (.iload_n 2, 1) := by decide +kernel
theorem dX6_set_76 : decode cX6_set 76 = .ok (.iastore, 1) := by decide +kernel
theorem dX6_set_77 : decode cX6_set 77 = .ok (.iload 4, 2) := by decide +kernel
theorem dX6_set_79 : decode cX6_set 79 = .ok (.ireturn, 1) := by decide +kernel
theorem dX6_type_0 : decode cX6_type 0 = .ok (.aload_n 0, 1) := by decide +kernel
theorem dX6_type_1 : decode cX6_type 1 = .ok (.getfield 37, 3) := by decide +kernel
theorem dX6_type_4 : decode cX6_type 4 = .ok (.iload_n 1, 1) := by decide +kernel
theorem dX6_type_5 : decode cX6_type 5 = .ok (.invokevirtual 108, 3) := by decide +kernel
theorem dX6_type_8 : decode cX6_type 8 = .ok (.ireturn, 1) := by decide +kernel
theorem dX6_clearText_0 : decode cX6_clearText 0 = .ok (.aload_n 0, 1) := by decide +kernel
theorem dX6_clearText_1 : decode cX6_clearText 1 = .ok (.getfield 37, 3) := by decide +kernel
theorem dX6_clearText_4 : decode cX6_clearText 4 = .ok (.invokevirtual 112, 3) := by decide +kernel
theorem dX6_clearText_7 : decode cX6_clearText 7 = .ok (.ireturn, 1) := by decide +kernel
theorem dX6_perform_0 : decode cX6_perform 0 = .ok (.aload_n 0, 1) := by decide +kernel
theorem dX6_perform_1 : decode cX6_perform 1 = .ok (.getfield 37, 3) := by decide +kernel
theorem dX6_perform_4 : decode cX6_perform 4 = .ok (.invokevirtual 116, 3) := by decide +kernel
theorem dX6_perform_7 : decode cX6_perform 7 = .ok (.istore_n 1, 1) := by decide +kernel
theorem dX6_perform_8 : decode cX6_perform 8 = .ok (.iload_n 1, 1) := by decide +kernel
theorem dX6_perform_9 : decode cX6_perform 9 = .ok (.bipush (-5), 2) := by decide +kernel
theorem dX6_perform_11 : decode cX6_perform 11 = .ok (.if_icmp .eq 8, 3) := by decide +kernel
theorem dX6_perform_14 : decode cX6_perform 14 = .ok (.bipush (-100), 2) := by decide +kernel
theorem dX6_perform_16 : decode cX6_perform 16 = .ok (.iload_n 1, 1) := by decide +kernel
theorem dX6_perform_17 : decode cX6_perform 17 = .ok (.isub, 1) := by decide +kernel
theorem dX6_perform_18 : decode cX6_perform 18 = .ok (.ireturn, 1) := by decide +kernel
theorem dX6_perform_19 : decode cX6_perform 19 = .ok (.aload_n 0, 1) := by decide +kernel
theorem dX6_perform_20 : decode cX6_perform 20 = .ok (.getfield 55, 3) := by decide +kernel
theorem dX6_perform_23 : decode cX6_perform 23 = .ok (.aload_n 0, 1) := by decide +kernel
theorem dX6_perform_24 : decode cX6_perform 24 = .ok (.getfield 51, 3) := by decide +kernel
theorem dX6_perform_27 : decode cX6_perform 27 = .ok (.invokevirtual 64, 3) := by decide +kernel
theorem dX6_perform_30 : decode cX6_perform 30 = .ok (.iconst 0, 1) := by decide +kernel
theorem dX6_perform_31 : decode cX6_perform 31 = .ok (.istore_n 2, 1) := by decide +kernel
theorem dX6_perform_32 : decode cX6_perform 32 = .ok (.iload_n 2, 1) := by decide +kernel
theorem dX6_perform_33 : decode cX6_perform 33 = .ok (.aload_n 0, 1) := by decide +kernel
theorem dX6_perform_34 : decode cX6_perform 34 = .ok (.getfield 37, 3) := by decide +kernel
theorem dX6_perform_37 : decode cX6_perform 37 = .ok (.getfield 119, 3) := by decide +kernel
theorem dX6_perform_40 : decode cX6_perform 40 = .ok (.if_icmp .ge 102, 3) := by decide +kernel
theorem dX6_perform_43 : decode cX6_perform 43 = .ok (.aload_n 0, 1) := by decide +kernel
theorem dX6_perform_44 : decode cX6_perform 44 = .ok (.getfield 37, 3) := by decide +kernel
theorem dX6_perform_47 : decode cX6_perform 47 = .ok (.aload_n 0, 1) := by decide +kernel
theorem dX6_perform_48 : decode cX6_perform 48 = .ok (.getfield 37, 3) := by decide +kernel
theorem dX6_perform_51 : decode cX6_perform 51 = .ok (.getfield 122, 3) := by decide +kernel
theorem dX6_perform_54 : decode cX6_perform 54 = .ok (.iload_n 2, 1) := by decide +kernel
theorem dX6_perform_55 : decode cX6_perform 55 = .ok (.invokevirtual 125, 3) := by decide +kernel
theorem dX6_perform_58 : decode cX6_perform 58 = .ok (.iconst 4, 1) := by decide +kernel
theorem dX6_perform_59 : decode cX6_perform 59 = .ok (.if_icmp .ne 7, 3) := by decide +kernel
theorem dX6_perform_62 : decode cX6_perform 62 = .ok (.iconst 1, 1) := by decide +kernel
theorem dX6_perform_63 : decode cX6_perform 63 = .ok (.goto 4, 3) := by decide +kernel
theorem dX6_perform_66 : decode cX6_perform 66 = .ok (.iconst 0, 1) := by decide +kernel
theorem dX6_perform_67 : decode cX6_perform 67 = .ok (.istore_n 3, 1) := by decide +kernel
theorem dX6_perform_68 : decode cX6_perform 68 = .ok (.iload_n 3, 1) := by decide +kernel
theorem dX6_perform_69 : decode cX6_perform 69 = .ok (.ifCond .eq 25, 3) := by decide +kernel
theorem dX6_perform_72 : decode cX6_perform 72 = .ok (.aload_n 0, 1) := by decide +kernel
theorem dX6_perform_73 : decode cX6_perform 73 = .ok (.aload_n 0, 1) := by decide +kernel
theorem dX6_perform_74 : decode cX6_perform 74 = .ok (.getfield 37, 3) := by decide +kernel
theorem dX6_perform_77 : decode cX6_perform 77 = .ok (.aload_n 0, 1) := by decide +kernel
theorem dX6_perform_78 : decode cX6_perform 78 = .ok (.getfield 37, 3) := by decide +kernel
theorem dX6_perform_81 : decode cX6_perform 81 = .ok (.getfield 129, 3) := by decide +kernel
theorem dX6_perform_84 : decode cX6_perform 84 = .ok (.iload_n 2, 1) := by decide +kernel
theorem dX6_perform_85 : decode cX6_perform 85 = .ok (.invokevirtual 125, 3) := by decide +kernel
theorem dX6_perform_88 : decode cX6_perform 88 = .ok (.invokevirtual 101, 3) := by decide +kernel
theorem dX6_perform_91 : decode cX6_perform 91 = .ok (.goto 8, 3) := by decide +kernel
theorem dX6_perform_94 : decode cX6_perform 94 = .ok (.aload_n 0, 1) := by decide +kernel
theorem dX6_perform_95 : decode cX6_perform 95 = .ok (.iload_n 2, 1) := by decide +kernel
theorem dX6_perform_96 : decode cX6_perform 96 = .ok (.invokevirtual 132, 3) := by decide +kernel
theorem dX6_perform_99 : decode cX6_perform 99 = .ok (.istore 4, 2) := by decide +kernel
theorem dX6_perform_101 : decode cX6_perform 101 = .ok (.iload 4, 2) := by decide +kernel
theorem dX6_perform_103 : decode cX6_perform 103 = .ok (.ifCond .ge 33, 3) := by decide +kernel
theorem dX6_perform_106 : decode cX6_perform 106 = .ok (.aload_n 0, 1) := by decide +kernel
theorem dX6_perform_107 : decode cX6_perform 107 = .ok (.getfield 51, 3) := by decide +kernel
theorem dX6_perform_110 : decode cX6_perform 110 = .ok (.aload_n 0, 1) := by decide +kernel
theorem dX6_perform_111 : decode cX6_perform 111 = .ok (.getfield 55, 3) := by decide +kernel
theorem dX6_perform_114 : decode cX6_perform 114 = .ok (.invokevirtual 64, 3) := by decide +kernel
theorem dX6_perform_117 : decode cX6_perform 117 = .ok (.aload_n 0, 1) := by decide +kernel
theorem dX6_perform_118 : decode cX6_perform 118 = .ok (.iconst 1, 1) := by decide +kernel
theorem dX6_perform_119 : decode cX6_perform 119 = .ok (.putfield 135, 3) := by decide +kernel
theorem dX6_perform_122 : decode cX6_perform 122 = .ok (.aload_n 0, 1) := by decide +kernel
theorem dX6_perform_123 : decode cX6_perform 123 = .ok (.iload_n 2, 1) := by decide +kernel
theorem dX6_perform_124 : decode cX6_perform 124 = .ok (.putfield 139, 3) := by decide +kernel
theorem dX6_perform_127 : decode cX6_perform 127 = .ok (.aload_n 0, 1) := by decide +kernel
theorem dX6_perform_128 : decode cX6_perform 128 = .ok (.iload 4, 2) := by decide +kernel
theorem dX6_perform_130 : decode cX6_perform 130 = .ok (.putfield 142, 3) := by decide +kernel
theorem dX6_perform_133 : decode cX6_perform 133 = .ok (.bipush (-4), 2) := by decide +kernel
theorem dX6_perform_135 : decode cX6_perform 135 = .ok (.ireturn, 1) := by decide +kernel
theorem dX6_perform_136 : decode cX6_perform 136 = .ok (.iinc 2 1, 3) := by decide +kernel
theorem dX6_perform_139 : decode cX6_perform 139 = .ok (.goto (-107), 3) := by decide +kernel
theorem dX6_perform_142 : decode cX6_perform 142 = .ok (.aload_n 0, 1) := by decide +kernel
theorem dX6_perform_143 : decode cX6_perform 143 = .ok (.aload_n 0, 1) := by decide +kernel
theorem dX6_perform_144 : decode cX6_perform 144 = .ok (.getfield 37, 3) := by decide +kernel
theorem dX6_perform_147 : decode cX6_perform 147 = .ok (.getfield 119, 3) := by decide +kernel
theorem dX6_perform_150 : decode cX6_perform 150 = .ok (.invokevirtual 72, 3) := by decide +kernel
theorem dX6_perform_153 : decode cX6_perform 153 = .ok (.ireturn, 1) := by decide +kernel
theorem dX6_stopped_0 : decode cX6_stopped 0 = .ok (.iload_n 1, 1) := by decide +kernel
theorem dX6_stopped_1 : decode cX6_stopped 1 = .ok (.ifCond .lt 8, 3) := by decide +kernel
theorem dX6_stopped_4 : decode cX6_stopped 4 = .ok (.iload_n 1, 1) := by decide +kernel
theorem dX6_stopped_5 : decode cX6_stopped 5 = .ok (.iconst 1, 1) := by decide +kernel
theorem dX6_stopped_6 : decode cX6_stopped 6 = .ok (.if_icmp .le 6, 3) := by decide +kernel
theorem dX6_stopped_9 : decode cX6_stopped 9 = .ok (.bipush (-2), 2) := by decide +kernel
theorem dX6_stopped_11 : decode cX6_stopped 11 = .ok (.ireturn, 1) := by decide +kernel
theorem dX6_stopped_12 : decode cX6_stopped 12 = .ok (.aload_n 0, 1) := by decide +kernel
theorem dX6_stopped_13 : decode cX6_stopped 13 = .ok (.getfield 135, 3) := by decide +kernel
theorem dX6_stopped_16 : decode cX6_stopped 16 = .ok (.ifCond .ne 6, 3) := by decide +kernel
theorem dX6_stopped_19 : decode cX6_stopped 19 = .ok (.bipush (-5), 2) := by decide +kernel
theorem dX6_stopped_21 : decode cX6_stopped 21 = .ok (.ireturn, 1) := by decide +kernel
theorem dX6_stopped_22 : decode cX6_stopped 22 = .ok (.iload_n 1, 1) := by decide +kernel
theorem dX6_stopped_23 : decode cX6_stopped 23 = .ok (.ifCond .ne 10, 3) := by decide +kernel
theorem dX6_stopped_26 : decode cX6_stopped 26 = .ok (.aload_n 0, 1) := by decide +kernel
theorem dX6_stopped_27 : decode cX6_stopped 27 = .ok (.getfield 139, 3) := by decide +kernel
theorem dX6_stopped_30 : decode cX6_stopped 30 = .ok (.goto 7, 3) := by decide +kernel
theorem dX6_stopped_33 : decode cX6_stopped 33 = .ok (.aload_n 0, 1) := by decide +kernel
theorem dX6_stopped_34 : decode cX6_stopped 34 = .ok (.getfield 142, 3) := by decide +kernel
theorem dX6_stopped_37 : decode cX6_stopped 37 = .ok (.ireturn, 1) := by decide +kernel
theorem dX6_undo_0 : decode cX6_undo 0 = .ok (.aload_n 0, 1) := by decide +kernel
theorem dX6_undo_1 : decode cX6_undo 1 = .ok (.getfield 44, 3) := by decide +kernel
theorem dX6_undo_4 : decode cX6_undo 4 = .ok (.aload_n 0, 1) := by decide +kernel
theorem dX6_undo_5 : decode cX6_undo 5 = .ok (.getfield 51, 3) := by decide +kernel
theorem dX6_undo_8 : decode cX6_undo 8 = .ok (.invokevirtual 145, 3) := by decide +kernel
theorem dX6_undo_11 : decode cX6_undo 11 = .ok (.ireturn, 1) := by decide +kernel
theorem dX6_keep_0 : decode cX6_keep 0 = .ok (.aload_n 0, 1) := by decide +kernel
theorem dX6_keep_1 : decode cX6_keep 1 = .ok (.getfield 61, 3) := by decide +kernel
theorem dX6_keep_4 : decode cX6_keep 4 = .ok (.aload_n 0, 1) := by decide +kernel
theorem dX6_keep_5 : decode cX6_keep 5 = .ok (.getfield 51, 3) := by decide +kernel
theorem dX6_keep_8 : decode cX6_keep 8 = .ok (.invokevirtual 64, 3) := by decide +kernel
theorem dX6_keep_11 : decode cX6_keep 11 = .ok (.aload_n 0, 1) := by decide +kernel
theorem dX6_keep_12 : decode cX6_keep 12 = .ok (.iconst 1, 1) := by decide +kernel
theorem dX6_keep_13 : decode cX6_keep 13 = .ok (.putfield 149, 3) := by decide +kernel
theorem dX6_keep_16 : decode cX6_keep 16 = .ok (.aload_n 0, 1) := by decide +kernel
theorem dX6_keep_17 : decode cX6_keep 17 = .ok (.getfield 51, 3) := by decide +kernel
theorem dX6_keep_20 : decode cX6_keep 20 = .ok (.getfield 97, 3) := by decide +kernel
theorem dX6_keep_23 : decode cX6_keep 23 = .ok (.ireturn, 1) := by decide +kernel
theorem dX6_restore_0 : decode cX6_restore 0 = .ok (.aload_n 0, 1) := by decide +kernel
theorem dX6_restore_1 : decode cX6_restore 1 = .ok (.getfield 149, 3) := by decide +kernel
theorem dX6_restore_4 : decode cX6_restore 4 = .ok (.ifCond .ne 6, 3) := by decide +kernel
theorem dX6_restore_7 : decode cX6_restore 7 = .ok (.bipush (-5), 2) := by decide +kernel
theorem dX6_restore_9 : decode cX6_restore 9 = .ok (.ireturn, 1) := by decide +kernel
theorem dX6_restore_10 : decode cX6_restore 10 = .ok (.aload_n 0, 1) := by decide +kernel
theorem dX6_restore_11 : decode cX6_restore 11 = .ok (.getfield 44, 3) := by decide +kernel
theorem dX6_restore_14 : decode cX6_restore 14 = .ok (.aload_n 0, 1) := by decide +kernel
theorem dX6_restore_15 : decode cX6_restore 15 = .ok (.getfield 51, 3) := by decide +kernel
theorem dX6_restore_18 : decode cX6_restore 18 = .ok (.invokevirtual 90, 3) := by decide +kernel
theorem dX6_restore_21 : decode cX6_restore 21 = .ok (.aload_n 0, 1) := by decide +kernel
theorem dX6_restore_22 : decode cX6_restore 22 = .ok (.getfield 51, 3) := by decide +kernel
theorem dX6_restore_25 : decode cX6_restore 25 = .ok (.aload_n 0, 1) := by decide +kernel
theorem dX6_restore_26 : decode cX6_restore 26 = .ok (.getfield 61, 3) := by decide +kernel
theorem dX6_restore_29 : decode cX6_restore 29 = .ok (.invokevirtual 64, 3) := by decide +kernel
theorem dX6_restore_32 : decode cX6_restore 32 = .ok (.aload_n 0, 1) := by decide +kernel
theorem dX6_restore_33 : decode cX6_restore 33 = .ok (.getfield 51, 3) := by decide +kernel
theorem dX6_restore_36 : decode cX6_restore 36 = .ok (.getfield 97, 3) := by decide +kernel
theorem dX6_restore_39 : decode cX6_restore 39 = .ok (.ireturn, 1) := by decide +kernel
theorem dX6_edge_0 : decode cX6_edge 0 = .ok (.aload_n 0, 1) := by decide +kernel
theorem dX6_edge_1 : decode cX6_edge 1 = .ok (.getfield 10, 3) := by decide +kernel
theorem dX6_edge_4 : decode cX6_edge 4 = .ok (.iload_n 1, 1) := by decide +kernel
theorem dX6_edge_5 : decode cX6_edge 5 = .ok (.iload_n 2, 1) := by decide +kernel
theorem dX6_edge_6 : decode cX6_edge 6 = .ok (.invokevirtual 152, 3) := by decide +kernel
theorem dX6_edge_9 : decode cX6_edge 9 = .ok (.istore_n 3, 1) := by decide +kernel
theorem dX6_edge_10 : decode cX6_edge 10 = .ok (.iload_n 3, 1) := by decide +kernel
theorem dX6_edge_11 : decode cX6_edge 11 = .ok (.invokestatic 155, 3) := by decide +kernel
theorem dX6_edge_14 : decode cX6_edge 14 = .ok (.ifCond .eq 14, 3) := by decide +kernel
theorem dX6_edge_17 : decode cX6_edge 17 = .ok (.aload_n 0, 1) := by decide +kernel
theorem dX6_edge_18 : decode cX6_edge 18 = .ok (.getfield 51, 3) := by decide +kernel
theorem dX6_edge_21 : decode cX6_edge 21 = .ok (.iload_n 3, 1) := by decide +kernel
theorem dX6_edge_22 : decode cX6_edge 22 = .ok (.invokevirtual 158, 3) := by decide +kernel
theorem dX6_edge_25 : decode cX6_edge 25 = .ok (.goto 4, 3) := by decide +kernel
theorem dX6_edge_28 : decode cX6_edge 28 = .ok (.iconst (-1), 1) := by decide +kernel
theorem dX6_edge_29 : decode cX6_edge 29 = .ok (.ireturn, 1) := by decide +kernel
theorem dX6_field_0 : decode cX6_field 0 = .ok (.iload_n 1, 1) := by decide +kernel
theorem dX6_field_1 : decode cX6_field 1 = .ok (.invokestatic 161, 3) := by decide +kernel
theorem dX6_field_4 : decode cX6_field 4 = .ok (.ifCond .ne 5, 3) := by decide +kernel
theorem dX6_field_7 : decode cX6_field 7 = .ok (.iconst (-1), 1) := by decide +kernel
theorem dX6_field_8 : decode cX6_field 8 = .ok (.ireturn, 1) := by decide +kernel
theorem dX6_field_9 : decode cX6_field 9 = .ok (.aload_n 0, 1) := by decide +kernel
theorem dX6_field_10 : decode cX6_field 10 = .ok (.getfield 21, 3) := by decide +kernel
theorem dX6_field_13 : decode cX6_field 13 = .ok (.aload_n 0, 1) := by decide +kernel
theorem dX6_field_14 : decode cX6_field 14 = .ok (.getfield 51, 3) := by decide +kernel
theorem dX6_field_17 : decode cX6_field 17 = .ok (.invokevirtual 164, 3) := by decide +kernel
theorem dX6_field_20 : decode cX6_field 20 = .ok (.pop, 1) := by decide +kernel
theorem dX6_field_21 : decode cX6_field 21 = .ok (.iload_n 2, 1) := by decide +kernel
theorem dX6_field_22 : decode cX6_field 22 = .ok (.tableswitch 76 0 4 #[34, 43, 52, 61, 70], 34) := by decide +kernel
theorem dX6_field_56 : decode cX6_field 56 = .ok (.aload_n 0, 1) := by decide +kernel
theorem dX6_field_57 : decode cX6_field 57 = .ok (.getfield 51, 3) := by decide +kernel
theorem dX6_field_60 : decode cX6_field 60 = .ok (.iload_n 1, 1) := by decide +kernel
theorem dX6_field_61 : decode cX6_field 61 = .ok (.invokevirtual 167, 3) := by decide +kernel
theorem dX6_field_64 : decode cX6_field 64 = .ok (.ireturn, 1) := by decide +kernel
theorem dX6_field_65 : decode cX6_field 65 = .ok (.aload_n 0, 1) := by decide +kernel
theorem dX6_field_66 : decode cX6_field 66 = .ok (.getfield 21, 3) := by decide +kernel
theorem dX6_field_69 : decode cX6_field 69 = .ok (.iload_n 1, 1) := by decide +kernel
theorem dX6_field_70 : decode cX6_field 70 = .ok (.invokevirtual 170, 3) := by decide +kernel
theorem dX6_field_73 : decode cX6_field 73 = .ok (.ireturn, 1) := by decide +kernel
theorem dX6_field_74 : decode cX6_field 74 = .ok (.aload_n 0, 1) := by decide +kernel
theorem dX6_field_75 : decode cX6_field 75 = .ok (.getfield 21, 3) := by decide +kernel
theorem dX6_field_78 : decode cX6_field 78 = .ok (.iload_n 1, 1) := by decide +kernel
theorem dX6_field_79 : decode cX6_field 79 = .ok (.invokevirtual 173, 3) := by decide +kernel
theorem dX6_field_82 : decode cX6_field 82 = .ok (.ireturn, 1) := by decide +kernel
theorem dX6_field_83 : decode cX6_field 83 = .ok (.aload_n 0, 1) := by decide +kernel
theorem dX6_field_84 : decode cX6_field 84 = .ok (.getfield 21, 3) := by decide +kernel
theorem dX6_field_87 : decode cX6_field 87 = .ok (.iload_n 1, 1) := by decide +kernel
theorem dX6_field_88 : decode cX6_field 88 = .ok (.invokevirtual 176, 3) := by decide +kernel
theorem dX6_field_91 : decode cX6_field 91 = .ok (.ireturn, 1) := by decide +kernel
theorem dX6_field_92 : decode cX6_field 92 = .ok (.aload_n 0, 1) := by decide +kernel
theorem dX6_field_93 : decode cX6_field 93 = .ok (.iload_n 1, 1) := by decide +kernel
theorem dX6_field_94 : decode cX6_field 94 = .ok (.invokevirtual 179, 3) := by decide +kernel
theorem dX6_field_97 : decode cX6_field 97 = .ok (.ireturn, 1) := by decide +kernel
theorem dX6_field_98 : decode cX6_field 98 = .ok (.bipush (-2), 2) := by decide +kernel
theorem dX6_field_100 : decode cX6_field 100 = .ok (.ireturn, 1) := by decide +kernel
theorem dX6_joined_0 : decode cX6_joined 0 = .ok (.iload_n 1, 1) := by decide +kernel
theorem dX6_joined_1 : decode cX6_joined 1 = .ok (.invokestatic 161, 3) := by decide +kernel
theorem dX6_joined_4 : decode cX6_joined 4 = .ok (.ifCond .eq 18, 3) := by decide +kernel
theorem dX6_joined_7 : decode cX6_joined 7 = .ok (.aload_n 0, 1) := by decide +kernel
theorem dX6_joined_8 : decode cX6_joined 8 = .ok (.getfield 21, 3) := by decide +kernel
theorem dX6_joined_11 : decode cX6_joined 11 = .ok (.aload_n 0, 1) := by decide +kernel
theorem dX6_joined_12 : decode cX6_joined 12 = .ok (.getfield 51, 3) := by decide +kernel
theorem dX6_joined_15 : decode cX6_joined 15 = .ok (.iload_n 1, 1) := by decide +kernel
theorem dX6_joined_16 : decode cX6_joined 16 = .ok (.invokevirtual 182, 3) := by decide +kernel
theorem dX6_joined_19 : decode cX6_joined 19 = .ok (.goto 4, 3) := by decide +kernel
theorem dX6_joined_22 : decode cX6_joined 22 = .ok (.iconst (-1), 1) := by decide +kernel
theorem dX6_joined_23 : decode cX6_joined 23 = .ok (.ireturn, 1) := by decide +kernel
theorem dX6_letter_0 : decode cX6_letter 0 = .ok (.aload_n 0, 1) := by decide +kernel
theorem dX6_letter_1 : decode cX6_letter 1 = .ok (.getfield 51, 3) := by decide +kernel
theorem dX6_letter_4 : decode cX6_letter 4 = .ok (.iload_n 1, 1) := by decide +kernel
theorem dX6_letter_5 : decode cX6_letter 5 = .ok (.invokevirtual 83, 3) := by decide +kernel
theorem dX6_letter_8 : decode cX6_letter 8 = .ok (.ifCond .ne 5, 3) := by decide +kernel
theorem dX6_letter_11 : decode cX6_letter 11 = .ok (.iconst (-1), 1) := by decide +kernel
theorem dX6_letter_12 : decode cX6_letter 12 = .ok (.ireturn, 1) := by decide +kernel
theorem dX6_letter_13 : decode cX6_letter 13 = .ok (.iload_n 2, 1) := by decide +kernel
theorem dX6_letter_14 : decode cX6_letter 14 = .ok (.ifCond .lt 9, 3) := by decide +kernel
theorem dX6_letter_17 : decode cX6_letter 17 = .ok (.iload_n 2, 1) := by decide +kernel
theorem dX6_letter_18 : decode cX6_letter 18 = .ok (.bipush 10, 2) := by decide +kernel
theorem dX6_letter_20 : decode cX6_letter 20 = .ok (.if_icmp .lt 6, 3) := by decide +kernel
theorem dX6_letter_23 : decode cX6_letter 23 = .ok (.bipush (-2), 2) := by decide +kernel
theorem dX6_letter_25 : decode cX6_letter 25 = .ok (.ireturn, 1) := by decide +kernel
theorem dX6_letter_26 : decode cX6_letter 26 = .ok (.aload_n 0, 1) := by decide +kernel
theorem dX6_letter_27 : decode cX6_letter 27 = .ok (.getfield 51, 3) := by decide +kernel
theorem dX6_letter_30 : decode cX6_letter 30 = .ok (.iload_n 1, 1) := by decide +kernel
theorem dX6_letter_31 : decode cX6_letter 31 = .ok (.iload_n 2, 1) := by decide +kernel
theorem dX6_letter_32 : decode cX6_letter 32 = .ok (.invokevirtual 87, 3) := by decide +kernel
theorem dX6_letter_35 : decode cX6_letter 35 = .ok (.ireturn, 1) := by decide +kernel
theorem dX6_crossed_0 : decode cX6_crossed 0 = .ok (.aload_n 0, 1) := by decide +kernel
theorem dX6_crossed_1 : decode cX6_crossed 1 = .ok (.getfield 51, 3) := by decide +kernel
theorem dX6_crossed_4 : decode cX6_crossed 4 = .ok (.iload_n 1, 1) := by decide +kernel
theorem dX6_crossed_5 : decode cX6_crossed 5 = .ok (.invokevirtual 83, 3) := by decide +kernel
theorem dX6_crossed_8 : decode cX6_crossed 8 = .ok (.ifCond .eq 14, 3) := by decide +kernel
theorem dX6_crossed_11 : decode cX6_crossed 11 = .ok (.aload_n 0, 1) := by decide +kernel
theorem dX6_crossed_12 : decode cX6_crossed 12 = .ok (.getfield 51, 3) := by decide +kernel
theorem dX6_crossed_15 : decode cX6_crossed 15 = .ok (.iload_n 2, 1) := by decide +kernel
theorem dX6_crossed_16 : decode cX6_crossed 16 = .ok (.invokevirtual 83, 3) := by decide +kernel
theorem dX6_crossed_19 : decode cX6_crossed 19 = .ok (.ifCond .ne 5, 3) := by decide +kernel
theorem dX6_crossed_22 : decode cX6_crossed 22 = .ok (.iconst (-1), 1) := by decide +kernel
theorem dX6_crossed_23 : decode cX6_crossed 23 = .ok (.ireturn, 1) := by decide +kernel
theorem dX6_crossed_24 : decode cX6_crossed 24 = .ok (.iload_n 1, 1) := by decide +kernel
theorem dX6_crossed_25 : decode cX6_crossed 25 = .ok (.iload_n 2, 1) := by decide +kernel
theorem dX6_crossed_26 : decode cX6_crossed 26 = .ok (.if_icmp .ne 6, 3) := by decide +kernel
theorem dX6_crossed_29 : decode cX6_crossed 29 = .ok (.bipush (-2), 2) := by decide +kernel
theorem dX6_crossed_31 : decode cX6_crossed 31 = .ok (.ireturn, 1) := by decide +kernel
theorem dX6_crossed_32 : decode cX6_crossed 32 = .ok (.aload_n 0, 1) := by decide +kernel
theorem dX6_crossed_33 : decode cX6_crossed 33 = .ok (.getfield 51, 3) := by decide +kernel
theorem dX6_crossed_36 : decode cX6_crossed 36 = .ok (.iload_n 1, 1) := by decide +kernel
theorem dX6_crossed_37 : decode cX6_crossed 37 = .ok (.iload_n 2, 1) := by decide +kernel
theorem dX6_crossed_38 : decode cX6_crossed 38 = .ok (.invokevirtual 186, 3) := by decide +kernel
theorem dX6_crossed_41 : decode cX6_crossed 41 = .ok (.ifCond .eq 7, 3) := by decide +kernel
theorem dX6_crossed_44 : decode cX6_crossed 44 = .ok (.iconst 1, 1) := by decide +kernel
theorem dX6_crossed_45 : decode cX6_crossed 45 = .ok (.goto 4, 3) := by decide +kernel
theorem dX6_crossed_48 : decode cX6_crossed 48 = .ok (.iconst 0, 1) := by decide +kernel
theorem dX6_crossed_49 : decode cX6_crossed 49 = .ok (.ireturn, 1) := by decide +kernel
theorem dX6_reasonEdge_0 : decode cX6_reasonEdge 0 = .ok (.aload_n 0, 1) := by decide +kernel
theorem dX6_reasonEdge_1 : decode cX6_reasonEdge 1 = .ok (.getfield 10, 3) := by decide +kernel
theorem dX6_reasonEdge_4 : decode cX6_reasonEdge 4 = .ok (.iload_n 2, 1) := by decide +kernel
theorem dX6_reasonEdge_5 : decode cX6_reasonEdge 5 = .ok (.iload_n 3, 1) := by decide +kernel
theorem dX6_reasonEdge_6 : decode cX6_reasonEdge 6 = .ok (.invokevirtual 152, 3) := by decide +kernel
theorem dX6_reasonEdge_9 : decode cX6_reasonEdge 9 = .ok (.istore 4, 2) := by decide +kernel
theorem dX6_reasonEdge_11 : decode cX6_reasonEdge 11 = .ok (.iload 4, 2) := by decide +kernel
theorem dX6_reasonEdge_13 : decode cX6_reasonEdge 13 = .ok (.invokestatic 155, 3) := by decide +kernel
theorem dX6_reasonEdge_16 : decode cX6_reasonEdge 16 = .ok (.ifCond .ne 5, 3) := by decide +kernel
theorem dX6_reasonEdge_19 : decode cX6_reasonEdge 19 = .ok (.iconst (-1), 1) := by decide +kernel
theorem dX6_reasonEdge_20 : decode cX6_reasonEdge 20 = .ok (.ireturn, 1) := by decide +kernel
theorem dX6_reasonEdge_21 : decode cX6_reasonEdge 21 = .ok (.iload_n 1, 1) := by decide +kernel
theorem dX6_reasonEdge_22 : decode cX6_reasonEdge 22 = .ok (.ifCond .eq 19, 3) := by decide +kernel
theorem dX6_reasonEdge_25 : decode cX6_reasonEdge 25 = .ok (.aload_n 0, 1) := by decide +kernel
theorem dX6_reasonEdge_26 : decode cX6_reasonEdge 26 = .ok (.getfield 30, 3) := by decide +kernel
theorem dX6_reasonEdge_29 : decode cX6_reasonEdge 29 = .ok (.aload_n 0, 1) := by decide +kernel
theorem dX6_reasonEdge_30 : decode cX6_reasonEdge 30 = .ok (.getfield 51, 3) := by decide +kernel
theorem dX6_reasonEdge_33 : decode cX6_reasonEdge 33 = .ok (.iload 4, 2) := by decide +kernel
theorem dX6_reasonEdge_35 : decode cX6_reasonEdge 35 = .ok (.invokevirtual 190, 3) := by decide +kernel
theorem dX6_reasonEdge_38 : decode cX6_reasonEdge 38 = .ok (.goto 16, 3) := by decide +kernel
theorem dX6_reasonEdge_41 : decode cX6_reasonEdge 41 = .ok (.aload_n 0, 1) := by decide +kernel
theorem dX6_reasonEdge_42 : decode cX6_reasonEdge 42 = .ok (.getfield 30, 3) := by decide +kernel
theorem dX6_reasonEdge_45 : decode cX6_reasonEdge 45 = .ok (.aload_n 0, 1) := by decide +kernel
theorem dX6_reasonEdge_46 : decode cX6_reasonEdge 46 = .ok (.getfield 51, 3) := by decide +kernel
theorem dX6_reasonEdge_49 : decode cX6_reasonEdge 49 = .ok (.iload 4, 2) := by decide +kernel
theorem dX6_reasonEdge_51 : decode cX6_reasonEdge 51 = .ok (.invokevirtual 193, 3) := by decide +kernel
theorem dX6_reasonEdge_54 : decode cX6_reasonEdge 54 = .ok (.ireturn, 1) := by decide +kernel
theorem dX6_reasonClaim_0 : decode cX6_reasonClaim 0 = .ok (.iload_n 1, 1) := by decide +kernel
theorem dX6_reasonClaim_1 : decode cX6_reasonClaim 1 = .ok (.invokestatic 161, 3) := by decide +kernel
theorem dX6_reasonClaim_4 : decode cX6_reasonClaim 4 = .ok (.ifCond .ne 5, 3) := by decide +kernel
theorem dX6_reasonClaim_7 : decode cX6_reasonClaim 7 = .ok (.iconst (-1), 1) := by decide +kernel
theorem dX6_reasonClaim_8 : decode cX6_reasonClaim 8 = .ok (.ireturn, 1) := by decide +kernel
theorem dX6_reasonClaim_9 : decode cX6_reasonClaim 9 = .ok (.aload_n 0, 1) := by decide +kernel
theorem dX6_reasonClaim_10 : decode cX6_reasonClaim 10 = .ok (.getfield 21, 3) := by decide +kernel
theorem dX6_reasonClaim_13 : decode cX6_reasonClaim 13 = .ok (.aload_n 0, 1) := by decide +kernel
theorem dX6_reasonClaim_14 : decode cX6_reasonClaim 14 = .ok (.getfield 51, 3) := by decide +kernel
theorem dX6_reasonClaim_17 : decode cX6_reasonClaim 17 = .ok (.invokevirtual 164, 3) := by decide +kernel
theorem dX6_reasonClaim_20 : decode cX6_reasonClaim 20 = .ok (.pop, 1) := by decide +kernel
theorem dX6_reasonClaim_21 : decode cX6_reasonClaim 21 = .ok (.aload_n 0, 1) := by decide +kernel
theorem dX6_reasonClaim_22 : decode cX6_reasonClaim 22 = .ok (.getfield 30, 3) := by decide +kernel
theorem dX6_reasonClaim_25 : decode cX6_reasonClaim 25 = .ok (.aload_n 0, 1) := by decide +kernel
theorem dX6_reasonClaim_26 : decode cX6_reasonClaim 26 = .ok (.getfield 51, 3) := by decide +kernel
theorem dX6_reasonClaim_29 : decode cX6_reasonClaim 29 = .ok (.iload_n 1, 1) := by decide +kernel
theorem dX6_reasonClaim_30 : decode cX6_reasonClaim 30 = .ok (.invokevirtual 196, 3) := by decide +kernel
theorem dX6_reasonClaim_33 : decode cX6_reasonClaim 33 = .ok (.ireturn, 1) := by decide +kernel
theorem dX6_next_0 : decode cX6_next 0 = .ok (.iload_n 1, 1) := by decide +kernel
theorem dX6_next_1 : decode cX6_next 1 = .ok (.ifCond .lt 8, 3) := by decide +kernel
theorem dX6_next_4 : decode cX6_next 4 = .ok (.iload_n 1, 1) := by decide +kernel
theorem dX6_next_5 : decode cX6_next 5 = .ok (.iconst 1, 1) := by decide +kernel
theorem dX6_next_6 : decode cX6_next 6 = .ok (.if_icmp .le 6, 3) := by decide +kernel
theorem dX6_next_9 : decode cX6_next 9 = .ok (.bipush (-2), 2) := by decide +kernel
theorem dX6_next_11 : decode cX6_next 11 = .ok (.ireturn, 1) := by decide +kernel
theorem dX6_next_12 : decode cX6_next 12 = .ok (.aload_n 0, 1) := by decide +kernel
theorem dX6_next_13 : decode cX6_next 13 = .ok (.getfield 51, 3) := by decide +kernel
theorem dX6_next_16 : decode cX6_next 16 = .ok (.invokevirtual 199, 3) := by decide +kernel
theorem dX6_next_19 : decode cX6_next 19 = .ok (.istore_n 2, 1) := by decide +kernel
theorem dX6_next_20 : decode cX6_next 20 = .ok (.iload_n 2, 1) := by decide +kernel
theorem dX6_next_21 : decode cX6_next 21 = .ok (.bipush (-5), 2) := by decide +kernel
theorem dX6_next_23 : decode cX6_next 23 = .ok (.if_icmp .ne 6, 3) := by decide +kernel
theorem dX6_next_26 : decode cX6_next 26 = .ok (.bipush (-5), 2) := by decide +kernel
theorem dX6_next_28 : decode cX6_next 28 = .ok (.ireturn, 1) := by decide +kernel
theorem dX6_next_29 : decode cX6_next 29 = .ok (.iload_n 1, 1) := by decide +kernel
theorem dX6_next_30 : decode cX6_next 30 = .ok (.ifCond .ne 7, 3) := by decide +kernel
theorem dX6_next_33 : decode cX6_next 33 = .ok (.iload_n 2, 1) := by decide +kernel
theorem dX6_next_34 : decode cX6_next 34 = .ok (.goto 20, 3) := by decide +kernel
theorem dX6_next_37 : decode cX6_next 37 = .ok (.aload_n 0, 1) := by decide +kernel
theorem dX6_next_38 : decode cX6_next 38 = .ok (.getfield 51, 3) := by decide +kernel
theorem dX6_next_41 : decode cX6_next 41 = .ok (.iload_n 2, 1) := by decide +kernel
theorem dX6_next_42 : decode cX6_next 42 = .ok (.iconst 5, 1) := by decide +kernel
theorem dX6_next_43 : decode cX6_next 43 = .ok (.invokevirtual 87, 3) := by decide +kernel
theorem dX6_next_46 : decode cX6_next 46 = .ok (.aload_n 0, 1) := by decide +kernel
theorem dX6_next_47 : decode cX6_next 47 = .ok (.getfield 51, 3) := by decide +kernel
theorem dX6_next_50 : decode cX6_next 50 = .ok (.getfield 97, 3) := by decide +kernel
theorem dX6_next_53 : decode cX6_next 53 = .ok (.isub, 1) := by decide +kernel
theorem dX6_next_54 : decode cX6_next 54 = .ok (.ireturn, 1) := by decide +kernel
theorem dX6_ifAllCome_0 : decode cX6_ifAllCome 0 = .ok (.iload_n 1, 1) := by decide +kernel
theorem dX6_ifAllCome_1 : decode cX6_ifAllCome 1 = .ok (.ifCond .lt 8, 3) := by decide +kernel
theorem dX6_ifAllCome_4 : decode cX6_ifAllCome 4 = .ok (.iload_n 1, 1) := by decide +kernel
theorem dX6_ifAllCome_5 : decode cX6_ifAllCome 5 = .ok (.iconst 3, 1) := by decide +kernel
theorem dX6_ifAllCome_6 : decode cX6_ifAllCome 6 = .ok (.if_icmp .le 6, 3) := by decide +kernel
theorem dX6_ifAllCome_9 : decode cX6_ifAllCome 9 = .ok (.bipush (-2), 2) := by decide +kernel
theorem dX6_ifAllCome_11 : decode cX6_ifAllCome 11 = .ok (.ireturn, 1) := by decide +kernel
theorem dX6_ifAllCome_12 : decode cX6_ifAllCome 12 = .ok (.aload_n 0, 1) := by decide +kernel
theorem dX6_ifAllCome_13 : decode cX6_ifAllCome 13 = .ok (.getfield 58, 3) := by decide +kernel
theorem dX6_ifAllCome_16 : decode cX6_ifAllCome 16 = .ok (.aload_n 0, 1) := by decide +kernel
theorem dX6_ifAllCome_17 : decode cX6_ifAllCome 17 = .ok (.getfield 51, 3) := by decide +kernel
theorem dX6_ifAllCome_20 : decode cX6_ifAllCome 20 = .ok (.invokevirtual 64, 3) := by decide +kernel
theorem dX6_ifAllCome_23 : decode cX6_ifAllCome 23 = .ok (.aload_n 0, 1) := by decide +kernel
theorem dX6_ifAllCome_24 : decode cX6_ifAllCome 24 = .ok (.getfield 30, 3) := by decide +kernel
theorem dX6_ifAllCome_27 : decode cX6_ifAllCome 27 = .ok (.aload_n 0, 1) := by decide +kernel
theorem dX6_ifAllCome_28 : decode cX6_ifAllCome 28 = .ok (.getfield 58, 3) := by decide +kernel
theorem dX6_ifAllCome_31 : decode cX6_ifAllCome 31 = .ok (.sipush 10008, 3) := by decide +kernel
theorem dX6_ifAllCome_34 : decode cX6_ifAllCome 34 = .ok (.invokevirtual 202, 3) := by decide +kernel
theorem dX6_ifAllCome_37 : decode cX6_ifAllCome 37 = .ok (.pop, 1) := by decide +kernel
theorem dX6_ifAllCome_38 : decode cX6_ifAllCome 38 = .ok (.iload_n 1, 1) := by decide +kernel
theorem dX6_ifAllCome_39 : decode cX6_ifAllCome 39 = .ok (.lookupswitch 43 #[(2, 25), (3, 34)], 25) := by decide +kernel
theorem dX6_ifAllCome_64 : decode cX6_ifAllCome 64 = .ok (.aload_n 0, 1) := by decide +kernel
theorem dX6_ifAllCome_65 : decode cX6_ifAllCome 65 = .ok (.getfield 58, 3) := by decide +kernel
theorem dX6_ifAllCome_68 : decode cX6_ifAllCome 68 = .ok (.iconst 3, 1) := by decide +kernel
theorem dX6_ifAllCome_69 : decode cX6_ifAllCome 69 = .ok (.invokevirtual 205, 3) := by decide +kernel
theorem dX6_ifAllCome_72 : decode cX6_ifAllCome 72 = .ok (.ireturn, 1) := by decide +kernel
theorem dX6_ifAllCome_73 : decode cX6_ifAllCome 73 = .ok (.aload_n 0, 1) := by decide +kernel
theorem dX6_ifAllCome_74 : decode cX6_ifAllCome 74 = .ok (.getfield 58, 3) := by decide +kernel
theorem dX6_ifAllCome_77 : decode cX6_ifAllCome 77 = .ok (.iconst 2, 1) := by decide +kernel
theorem dX6_ifAllCome_78 : decode cX6_ifAllCome 78 = .ok (.invokevirtual 208, 3) := by decide +kernel
theorem dX6_ifAllCome_81 : decode cX6_ifAllCome 81 = .ok (.ireturn, 1) := by decide +kernel
theorem dX6_ifAllCome_82 : decode cX6_ifAllCome 82 = .ok (.aload_n 0, 1) := by decide +kernel
theorem dX6_ifAllCome_83 : decode cX6_ifAllCome 83 = .ok (.getfield 58, 3) := by decide +kernel
theorem dX6_ifAllCome_86 : decode cX6_ifAllCome 86 = .ok (.iload_n 1, 1) := by decide +kernel
theorem dX6_ifAllCome_87 : decode cX6_ifAllCome 87 = .ok (.invokevirtual 211, 3) := by decide +kernel
theorem dX6_ifAllCome_90 : decode cX6_ifAllCome 90 = .ok (.ireturn, 1) := by decide +kernel
theorem dX6_bestClaim_0 : decode cX6_bestClaim 0 = .ok (.iload_n 1, 1) := by decide +kernel
theorem dX6_bestClaim_1 : decode cX6_bestClaim 1 = .ok (.ifCond .lt 8, 3) := by decide +kernel
theorem dX6_bestClaim_4 : decode cX6_bestClaim 4 = .ok (.iload_n 1, 1) := by decide +kernel
theorem dX6_bestClaim_5 : decode cX6_bestClaim 5 = .ok (.iconst 1, 1) := by decide +kernel
theorem dX6_bestClaim_6 : decode cX6_bestClaim 6 = .ok (.if_icmp .le 6, 3) := by decide +kernel
theorem dX6_bestClaim_9 : decode cX6_bestClaim 9 = .ok (.bipush (-2), 2) := by decide +kernel
theorem dX6_bestClaim_11 : decode cX6_bestClaim 11 = .ok (.ireturn, 1) := by decide +kernel
theorem dX6_bestClaim_12 : decode cX6_bestClaim 12 = .ok (.aload_n 0, 1) := by decide +kernel
theorem dX6_bestClaim_13 : decode cX6_bestClaim 13 = .ok (.getfield 21, 3) := by decide +kernel
theorem dX6_bestClaim_16 : decode cX6_bestClaim 16 = .ok (.aload_n 0, 1) := by decide +kernel
theorem dX6_bestClaim_17 : decode cX6_bestClaim 17 = .ok (.getfield 51, 3) := by decide +kernel
theorem dX6_bestClaim_20 : decode cX6_bestClaim 20 = .ok (.invokevirtual 164, 3) := by decide +kernel
theorem dX6_bestClaim_23 : decode cX6_bestClaim 23 = .ok (.pop, 1) := by decide +kernel
theorem dX6_bestClaim_24 : decode cX6_bestClaim 24 = .ok (.bipush (-5), 2) := by decide +kernel
theorem dX6_bestClaim_26 : decode cX6_bestClaim 26 = .ok (.istore_n 2, 1) := by decide +kernel
theorem dX6_bestClaim_27 : decode cX6_bestClaim 27 = .ok (.iconst 0, 1) := by decide +kernel
theorem dX6_bestClaim_28 : decode cX6_bestClaim 28 = .ok (.istore_n 3, 1) := by decide +kernel
theorem dX6_bestClaim_29 : decode cX6_bestClaim 29 = .ok (.iconst 0, 1) := by decide +kernel
theorem dX6_bestClaim_30 : decode cX6_bestClaim 30 = .ok (.istore 4, 2) := by decide +kernel
theorem dX6_bestClaim_32 : decode cX6_bestClaim 32 = .ok (.iload 4, 2) := by decide +kernel
theorem dX6_bestClaim_34 : decode cX6_bestClaim 34 = .ok (.bipush 48, 2) := by decide +kernel
theorem dX6_bestClaim_36 : decode cX6_bestClaim 36 = .ok (.if_icmp .ge 48, 3) := by decide +kernel
theorem dX6_bestClaim_39 : decode cX6_bestClaim 39 = .ok (.aload_n 0, 1) := by decide +kernel
theorem dX6_bestClaim_40 : decode cX6_bestClaim 40 = .ok (.getfield 21, 3) := by decide +kernel
theorem dX6_bestClaim_43 : decode cX6_bestClaim 43 = .ok (.iload 4, 2) := by decide +kernel
theorem dX6_bestClaim_45 : decode cX6_bestClaim 45 = .ok (.invokevirtual 173, 3) := by decide +kernel
theorem dX6_bestClaim_48 : decode cX6_bestClaim 48 = .ok (.istore 5, 2) := by decide +kernel
theorem dX6_bestClaim_50 : decode cX6_bestClaim 50 = .ok (.iload 5, 2) := by decide +kernel
theorem dX6_bestClaim_52 : decode cX6_bestClaim 52 = .ok (.iload_n 3, 1) := by decide +kernel
theorem dX6_bestClaim_53 : decode cX6_bestClaim 53 = .ok (.if_icmp .le 25, 3) := by decide +kernel
theorem dX6_bestClaim_56 : decode cX6_bestClaim 56 = .ok (.aload_n 0, 1) := by decide +kernel
theorem dX6_bestClaim_57 : decode cX6_bestClaim 57 = .ok (.getfield 30, 3) := by decide +kernel
theorem dX6_bestClaim_60 : decode cX6_bestClaim 60 = .ok (.aload_n 0, 1) := by decide +kernel
theorem dX6_bestClaim_61 : decode cX6_bestClaim 61 = .ok (.getfield 51, 3) := by decide +kernel
theorem dX6_bestClaim_64 : decode cX6_bestClaim 64 = .ok (.iload 4, 2) := by decide +kernel
theorem dX6_bestClaim_66 : decode cX6_bestClaim 66 = .ok (.invokevirtual 196, 3) := by decide +kernel
theorem dX6_bestClaim_69 : decode cX6_bestClaim 69 = .ok (.ifCond .ne 9, 3) := by decide +kernel
theorem dX6_bestClaim_72 : decode cX6_bestClaim 72 = .ok (.iload 4, 2) := by decide +kernel
theorem dX6_bestClaim_74 : decode cX6_bestClaim 74 = .ok (.istore_n 2, 1) := by decide +kernel
theorem dX6_bestClaim_75 : decode cX6_bestClaim 75 = .ok (.iload 5, 2) := by decide +kernel
theorem dX6_bestClaim_77 : decode cX6_bestClaim 77 = .ok (.istore_n 3, 1) := by decide +kernel
theorem dX6_bestClaim_78 : decode cX6_bestClaim 78 = .ok (.iinc 4 1, 3) := by decide +kernel
theorem dX6_bestClaim_81 : decode cX6_bestClaim 81 = .ok (.goto (-49), 3) := by decide +kernel
theorem dX6_bestClaim_84 : decode cX6_bestClaim 84 = .ok (.iload_n 2, 1) := by decide +kernel
theorem dX6_bestClaim_85 : decode cX6_bestClaim 85 = .ok (.bipush (-5), 2) := by decide +kernel
theorem dX6_bestClaim_87 : decode cX6_bestClaim 87 = .ok (.if_icmp .ne 6, 3) := by decide +kernel
theorem dX6_bestClaim_90 : decode cX6_bestClaim 90 = .ok (.bipush (-5), 2) := by decide +kernel
theorem dX6_bestClaim_92 : decode cX6_bestClaim 92 = .ok (.ireturn, 1) := by decide +kernel
theorem dX6_bestClaim_93 : decode cX6_bestClaim 93 = .ok (.iload_n 1, 1) := by decide +kernel
theorem dX6_bestClaim_94 : decode cX6_bestClaim 94 = .ok (.ifCond .ne 7, 3) := by decide +kernel
theorem dX6_bestClaim_97 : decode cX6_bestClaim 97 = .ok (.iload_n 2, 1) := by decide +kernel
theorem dX6_bestClaim_98 : decode cX6_bestClaim 98 = .ok (.goto 4, 3) := by decide +kernel
theorem dX6_bestClaim_101 : decode cX6_bestClaim 101 = .ok (.iload_n 3, 1) := by decide +kernel
theorem dX6_bestClaim_102 : decode cX6_bestClaim 102 = .ok (.ireturn, 1) := by decide +kernel
theorem dX6_count_0 : decode cX6_count 0 = .ok (.iload_n 1, 1) := by decide +kernel
theorem dX6_count_1 : decode cX6_count 1 = .ok (.tableswitch 289 0 19 #[95, 103, 111, 120, 129, 138, 146, 154, 163, 172, 184, 196, 205, 217, 233, 243, 253, 263, 273, 281], 95) := by decide +kernel
theorem dX6_count_96 : decode cX6_count 96 = .ok (.aload_n 0, 1) := by decide +kernel
theorem dX6_count_97 : decode cX6_count 97 = .ok (.getfield 51, 3) := by decide +kernel
theorem dX6_count_100 : decode cX6_count 100 = .ok (.getfield 97, 3) := by decide +kernel
theorem dX6_count_103 : decode cX6_count 103 = .ok (.ireturn, 1) := by decide +kernel
theorem dX6_count_104 : decode cX6_count 104 = .ok (.aload_n 0, 1) := by decide +kernel
theorem dX6_count_105 : decode cX6_count 105 = .ok (.getfield 51, 3) := by decide +kernel
theorem dX6_count_108 : decode cX6_count 108 = .ok (.getfield 214, 3) := by decide +kernel
theorem dX6_count_111 : decode cX6_count 111 = .ok (.ireturn, 1) := by decide +kernel
theorem dX6_count_112 : decode cX6_count 112 = .ok (.aload_n 0, 1) := by decide +kernel
theorem dX6_count_113 : decode cX6_count 113 = .ok (.getfield 51, 3) := by decide +kernel
theorem dX6_count_116 : decode cX6_count 116 = .ok (.iconst 0, 1) := by decide +kernel
theorem dX6_count_117 : decode cX6_count 117 = .ok (.invokevirtual 208, 3) := by decide +kernel
theorem dX6_count_120 : decode cX6_count 120 = .ok (.ireturn, 1) := by decide +kernel
theorem dX6_count_121 : decode cX6_count 121 = .ok (.aload_n 0, 1) := by decide +kernel
theorem dX6_count_122 : decode cX6_count 122 = .ok (.getfield 51, 3) := by decide +kernel
theorem dX6_count_125 : decode cX6_count 125 = .ok (.iconst 1, 1) := by decide +kernel
theorem dX6_count_126 : decode cX6_count 126 = .ok (.invokevirtual 208, 3) := by decide +kernel
theorem dX6_count_129 : decode cX6_count 129 = .ok (.ireturn, 1) := by decide +kernel
theorem dX6_count_130 : decode cX6_count 130 = .ok (.aload_n 0, 1) := by decide +kernel
theorem dX6_count_131 : decode cX6_count 131 = .ok (.getfield 51, 3) := by decide +kernel
theorem dX6_count_134 : decode cX6_count 134 = .ok (.iconst 2, 1) := by decide +kernel
theorem dX6_count_135 : decode cX6_count 135 = .ok (.invokevirtual 208, 3) := by decide +kernel
theorem dX6_count_138 : decode cX6_count 138 = .ok (.ireturn, 1) := by decide +kernel
theorem dX6_count_139 : decode cX6_count 139 = .ok (.aload_n 0, 1) := by decide +kernel
theorem dX6_count_140 : decode cX6_count 140 = .ok (.getfield 51, 3) := by decide +kernel
theorem dX6_count_143 : decode cX6_count 143 = .ok (.getfield 217, 3) := by decide +kernel
theorem dX6_count_146 : decode cX6_count 146 = .ok (.ireturn, 1) := by decide +kernel
theorem dX6_count_147 : decode cX6_count 147 = .ok (.aload_n 0, 1) := by decide +kernel
theorem dX6_count_148 : decode cX6_count 148 = .ok (.getfield 51, 3) := by decide +kernel
theorem dX6_count_151 : decode cX6_count 151 = .ok (.invokevirtual 220, 3) := by decide +kernel
theorem dX6_count_154 : decode cX6_count 154 = .ok (.ireturn, 1) := by decide +kernel
theorem dX6_count_155 : decode cX6_count 155 = .ok (.aload_n 0, 1) := by decide +kernel
theorem dX6_count_156 : decode cX6_count 156 = .ok (.getfield 51, 3) := by decide +kernel
theorem dX6_count_159 : decode cX6_count 159 = .ok (.iconst 0, 1) := by decide +kernel
theorem dX6_count_160 : decode cX6_count 160 = .ok (.invokevirtual 211, 3) := by decide +kernel
theorem dX6_count_163 : decode cX6_count 163 = .ok (.ireturn, 1) := by decide +kernel
theorem dX6_count_164 : decode cX6_count 164 = .ok (.aload_n 0, 1) := by decide +kernel
theorem dX6_count_165 : decode cX6_count 165 = .ok (.getfield 51, 3) := by decide +kernel
theorem dX6_count_168 : decode cX6_count 168 = .ok (.iconst 1, 1) := by decide +kernel
theorem dX6_count_169 : decode cX6_count 169 = .ok (.invokevirtual 211, 3) := by decide +kernel
theorem dX6_count_172 : decode cX6_count 172 = .ok (.ireturn, 1) := by decide +kernel
theorem dX6_count_173 : decode cX6_count 173 = .ok (.aload_n 0, 1) := by decide +kernel
theorem dX6_count_174 : decode cX6_count 174 = .ok (.getfield 51, 3) := by decide +kernel
theorem dX6_count_177 : decode cX6_count 177 = .ok (.iconst 0, 1) := by decide +kernel
theorem dX6_count_178 : decode cX6_count 178 = .ok (.invokestatic 223, 3) := by decide +kernel
theorem dX6_count_181 : decode cX6_count 181 = .ok (.invokevirtual 205, 3) := by decide +kernel
theorem dX6_count_184 : decode cX6_count 184 = .ok (.ireturn, 1) := by decide +kernel
theorem dX6_count_185 : decode cX6_count 185 = .ok (.aload_n 0, 1) := by decide +kernel
theorem dX6_count_186 : decode cX6_count 186 = .ok (.getfield 51, 3) := by decide +kernel
theorem dX6_count_189 : decode cX6_count 189 = .ok (.iconst 1, 1) := by decide +kernel
theorem dX6_count_190 : decode cX6_count 190 = .ok (.invokestatic 223, 3) := by decide +kernel
theorem dX6_count_193 : decode cX6_count 193 = .ok (.invokevirtual 205, 3) := by decide +kernel
theorem dX6_count_196 : decode cX6_count 196 = .ok (.ireturn, 1) := by decide +kernel
theorem dX6_count_197 : decode cX6_count 197 = .ok (.aload_n 0, 1) := by decide +kernel
theorem dX6_count_198 : decode cX6_count 198 = .ok (.getfield 51, 3) := by decide +kernel
theorem dX6_count_201 : decode cX6_count 201 = .ok (.iconst 3, 1) := by decide +kernel
theorem dX6_count_202 : decode cX6_count 202 = .ok (.invokevirtual 205, 3) := by decide +kernel
theorem dX6_count_205 : decode cX6_count 205 = .ok (.ireturn, 1) := by decide +kernel
theorem dX6_count_206 : decode cX6_count 206 = .ok (.aload_n 0, 1) := by decide +kernel
theorem dX6_count_207 : decode cX6_count 207 = .ok (.getfield 21, 3) := by decide +kernel
theorem dX6_count_210 : decode cX6_count 210 = .ok (.aload_n 0, 1) := by decide +kernel
theorem dX6_count_211 : decode cX6_count 211 = .ok (.getfield 51, 3) := by decide +kernel
theorem dX6_count_214 : decode cX6_count 214 = .ok (.invokevirtual 164, 3) := by decide +kernel
theorem dX6_count_217 : decode cX6_count 217 = .ok (.ireturn, 1) := by decide +kernel
theorem dX6_count_218 : decode cX6_count 218 = .ok (.aload_n 0, 1) := by decide +kernel
theorem dX6_count_219 : decode cX6_count 219 = .ok (.getfield 51, 3) := by decide +kernel
theorem dX6_count_222 : decode cX6_count 222 = .ok (.invokevirtual 226, 3) := by decide +kernel
theorem dX6_count_225 : decode cX6_count 225 = .ok (.ifCond .eq 7, 3) := by decide +kernel
theorem dX6_count_228 : decode cX6_count 228 = .ok (.iconst 1, 1) := by decide +kernel
theorem dX6_count_229 : decode cX6_count 229 = .ok (.goto 4, 3) := by decide +kernel
theorem dX6_count_232 : decode cX6_count 232 = .ok (.iconst 0, 1) := by decide +kernel
theorem dX6_count_233 : decode cX6_count 233 = .ok (.ireturn, 1) := by decide +kernel
theorem dX6_count_234 : decode cX6_count 234 = .ok (.aload_n 0, 1) := by decide +kernel
theorem dX6_count_235 : decode cX6_count 235 = .ok (.getfield 51, 3) := by decide +kernel
theorem dX6_count_238 : decode cX6_count 238 = .ok (.getfield 230, 3) := by decide +kernel
theorem dX6_count_241 : decode cX6_count 241 = .ok (.iconst 0, 1) := by decide +kernel
theorem dX6_count_242 : decode cX6_count 242 = .ok (.iaload, 1) := by decide +kernel
theorem dX6_count_243 : decode cX6_count 243 = .ok (.ireturn, 1) := by decide +kernel
theorem dX6_count_244 : decode cX6_count 244 = .ok (.aload_n 0, 1) := by decide +kernel
theorem dX6_count_245 : decode cX6_count 245 = .ok (.getfield 51, 3) := by decide +kernel
theorem dX6_count_248 : decode cX6_count 248 = .ok (.getfield 230, 3) := by decide +kernel
theorem dX6_count_251 : decode cX6_count 251 = .ok (.iconst 1, 1) := by decide +kernel
theorem dX6_count_252 : decode cX6_count 252 = .ok (.iaload, 1) := by decide +kernel
theorem dX6_count_253 : decode cX6_count 253 = .ok (.ireturn, 1) := by decide +kernel
theorem dX6_count_254 : decode cX6_count 254 = .ok (.aload_n 0, 1) := by decide +kernel
theorem dX6_count_255 : decode cX6_count 255 = .ok (.getfield 51, 3) := by decide +kernel
theorem dX6_count_258 : decode cX6_count 258 = .ok (.getfield 104, 3) := by decide +kernel
theorem dX6_count_261 : decode cX6_count 261 = .ok (.iconst 0, 1) := by decide +kernel
theorem dX6_count_262 : decode cX6_count 262 = .ok (.iaload, 1) := by decide +kernel
theorem dX6_count_263 : decode cX6_count 263 = .ok (.ireturn, 1) := by decide +kernel
theorem dX6_count_264 : decode cX6_count 264 = .ok (.aload_n 0, 1) := by decide +kernel
theorem dX6_count_265 : decode cX6_count 265 = .ok (.getfield 51, 3) := by decide +kernel
theorem dX6_count_268 : decode cX6_count 268 = .ok (.getfield 104, 3) := by decide +kernel
theorem dX6_count_271 : decode cX6_count 271 = .ok (.iconst 1, 1) := by decide +kernel
theorem dX6_count_272 : decode cX6_count 272 = .ok (.iaload, 1) := by decide +kernel
theorem dX6_count_273 : decode cX6_count 273 = .ok (.ireturn, 1) := by decide +kernel
theorem dX6_count_274 : decode cX6_count 274 = .ok (.aload_n 0, 1) := by decide +kernel
theorem dX6_count_275 : decode cX6_count 275 = .ok (.getfield 44, 3) := by decide +kernel
theorem dX6_count_278 : decode cX6_count 278 = .ok (.getfield 233, 3) := by decide +kernel
theorem dX6_count_281 : decode cX6_count 281 = .ok (.ireturn, 1) := by decide +kernel
theorem dX6_count_282 : decode cX6_count 282 = .ok (.aload_n 0, 1) := by decide +kernel
theorem dX6_count_283 : decode cX6_count 283 = .ok (.getfield 37, 3) := by decide +kernel
theorem dX6_count_286 : decode cX6_count 286 = .ok (.getfield 236, 3) := by decide +kernel
theorem dX6_count_289 : decode cX6_count 289 = .ok (.ireturn, 1) := by decide +kernel
theorem dX6_count_290 : decode cX6_count 290 = .ok (.bipush (-2), 2) := by decide +kernel
theorem dX6_count_292 : decode cX6_count 292 = .ok (.ireturn, 1) := by decide +kernel
theorem dX6_addEdgeLetter_0 : decode cX6_addEdgeLetter 0 = .ok (.iload_n 1, 1) := by decide +kernel
theorem dX6_addEdgeLetter_1 : decode cX6_addEdgeLetter 1 = .ok (.invokestatic 239, 3) := by decide +kernel
theorem dX6_addEdgeLetter_4 : decode cX6_addEdgeLetter 4 = .ok (.ifCond .eq 19, 3) := by decide +kernel
theorem dX6_addEdgeLetter_7 : decode cX6_addEdgeLetter 7 = .ok (.aload_n 0, 1) := by decide +kernel
theorem dX6_addEdgeLetter_8 : decode cX6_addEdgeLetter 8 = .ok (.getfield 10, 3) := by decide +kernel
theorem dX6_addEdgeLetter_11 : decode cX6_addEdgeLetter 11 = .ok (.iload_n 3, 1) := by decide +kernel
theorem dX6_addEdgeLetter_12 : decode cX6_addEdgeLetter 12 = .ok (.iload 4, 2) := by decide +kernel
theorem dX6_addEdgeLetter_14 : decode cX6_addEdgeLetter 14 = .ok (.invokevirtual 152, 3) := by decide +kernel
theorem dX6_addEdgeLetter_17 : decode cX6_addEdgeLetter 17 = .ok (.invokestatic 155, 3) := by decide +kernel
theorem dX6_addEdgeLetter_20 : decode cX6_addEdgeLetter 20 = .ok (.ifCond .ne 5, 3) := by decide +kernel
theorem dX6_addEdgeLetter_23 : decode cX6_addEdgeLetter 23 = .ok (.iconst (-1), 1) := by decide +kernel
theorem dX6_addEdgeLetter_24 : decode cX6_addEdgeLetter 24 = .ok (.ireturn, 1) := by decide +kernel
theorem dX6_addEdgeLetter_25 : decode cX6_addEdgeLetter 25 = .ok (.aload_n 0, 1) := by decide +kernel
theorem dX6_addEdgeLetter_26 : decode cX6_addEdgeLetter 26 = .ok (.getfield 51, 3) := by decide +kernel
theorem dX6_addEdgeLetter_29 : decode cX6_addEdgeLetter 29 = .ok (.iload_n 1, 1) := by decide +kernel
theorem dX6_addEdgeLetter_30 : decode cX6_addEdgeLetter 30 = .ok (.iload_n 2, 1) := by decide +kernel
theorem dX6_addEdgeLetter_31 : decode cX6_addEdgeLetter 31 = .ok (.iload_n 3, 1) := by decide +kernel
theorem dX6_addEdgeLetter_32 : decode cX6_addEdgeLetter 32 = .ok (.iload 4, 2) := by decide +kernel
theorem dX6_addEdgeLetter_34 : decode cX6_addEdgeLetter 34 = .ok (.invokevirtual 242, 3) := by decide +kernel
theorem dX6_addEdgeLetter_37 : decode cX6_addEdgeLetter 37 = .ok (.ireturn, 1) := by decide +kernel
theorem dX6_addClaim_0 : decode cX6_addClaim 0 = .ok (.iload_n 1, 1) := by decide +kernel
theorem dX6_addClaim_1 : decode cX6_addClaim 1 = .ok (.invokestatic 239, 3) := by decide +kernel
theorem dX6_addClaim_4 : decode cX6_addClaim 4 = .ok (.ifCond .eq 10, 3) := by decide +kernel
theorem dX6_addClaim_7 : decode cX6_addClaim 7 = .ok (.iload_n 2, 1) := by decide +kernel
theorem dX6_addClaim_8 : decode cX6_addClaim 8 = .ok (.invokestatic 161, 3) := by decide +kernel
theorem dX6_addClaim_11 : decode cX6_addClaim 11 = .ok (.ifCond .ne 5, 3) := by decide +kernel
theorem dX6_addClaim_14 : decode cX6_addClaim 14 = .ok (.iconst (-1), 1) := by decide +kernel
theorem dX6_addClaim_15 : decode cX6_addClaim 15 = .ok (.ireturn, 1) := by decide +kernel
theorem dX6_addClaim_16 : decode cX6_addClaim 16 = .ok (.aload_n 0, 1) := by decide +kernel
theorem dX6_addClaim_17 : decode cX6_addClaim 17 = .ok (.getfield 51, 3) := by decide +kernel
theorem dX6_addClaim_20 : decode cX6_addClaim 20 = .ok (.iload_n 1, 1) := by decide +kernel
theorem dX6_addClaim_21 : decode cX6_addClaim 21 = .ok (.iconst 2, 1) := by decide +kernel
theorem dX6_addClaim_22 : decode cX6_addClaim 22 = .ok (.iload_n 2, 1) := by decide +kernel
theorem dX6_addClaim_23 : decode cX6_addClaim 23 = .ok (.bipush (-5), 2) := by decide +kernel
theorem dX6_addClaim_25 : decode cX6_addClaim 25 = .ok (.invokevirtual 242, 3) := by decide +kernel
theorem dX6_addClaim_28 : decode cX6_addClaim 28 = .ok (.ireturn, 1) := by decide +kernel
theorem dX6_addTruce_0 : decode cX6_addTruce 0 = .ok (.iload_n 1, 1) := by decide +kernel
theorem dX6_addTruce_1 : decode cX6_addTruce 1 = .ok (.invokestatic 239, 3) := by decide +kernel
theorem dX6_addTruce_4 : decode cX6_addTruce 4 = .ok (.ifCond .ne 5, 3) := by decide +kernel
theorem dX6_addTruce_7 : decode cX6_addTruce 7 = .ok (.iconst (-1), 1) := by decide +kernel
theorem dX6_addTruce_8 : decode cX6_addTruce 8 = .ok (.ireturn, 1) := by decide +kernel
theorem dX6_addTruce_9 : decode cX6_addTruce 9 = .ok (.iload_n 2, 1) := by decide +kernel
theorem dX6_addTruce_10 : decode cX6_addTruce 10 = .ok (.iconst 1, 1) := by decide +kernel
theorem dX6_addTruce_11 : decode cX6_addTruce 11 = .ok (.if_icmp .lt 9, 3) := by decide +kernel
theorem dX6_addTruce_14 : decode cX6_addTruce 14 = .ok (.iload_n 2, 1) := by decide +kernel
theorem dX6_addTruce_15 : decode cX6_addTruce 15 = .ok (.bipush 99, 2) := by decide +kernel
theorem dX6_addTruce_17 : decode cX6_addTruce 17 = .ok (.if_icmp .le 6, 3) := by decide +kernel
theorem dX6_addTruce_20 : decode cX6_addTruce 20 = .ok (.bipush (-2), 2) := by decide +kernel
theorem dX6_addTruce_22 : decode cX6_addTruce 22 = .ok (.ireturn, 1) := by decide +kernel
theorem dX6_addTruce_23 : decode cX6_addTruce 23 = .ok (.aload_n 0, 1) := by decide +kernel
theorem dX6_addTruce_24 : decode cX6_addTruce 24 = .ok (.getfield 51, 3) := by decide +kernel
theorem dX6_addTruce_27 : decode cX6_addTruce 27 = .ok (.iload_n 1, 1) := by decide +kernel
theorem dX6_addTruce_28 : decode cX6_addTruce 28 = .ok (.iconst 3, 1) := by decide +kernel
theorem dX6_addTruce_29 : decode cX6_addTruce 29 = .ok (.bipush (-5), 2) := by decide +kernel
theorem dX6_addTruce_31 : decode cX6_addTruce 31 = .ok (.iload_n 2, 1) := by decide +kernel
theorem dX6_addTruce_32 : decode cX6_addTruce 32 = .ok (.invokevirtual 242, 3) := by decide +kernel
theorem dX6_addTruce_35 : decode cX6_addTruce 35 = .ok (.ireturn, 1) := by decide +kernel
theorem dX6_addLetterOfGame_0 : decode cX6_addLetterOfGame 0 = .ok (.aload_n 0, 1) := by decide +kernel
theorem dX6_addLetterOfGame_1 : decode cX6_addLetterOfGame 1 = .ok (.getfield 37, 3) := by decide +kernel
theorem dX6_addLetterOfGame_4 : decode cX6_addLetterOfGame 4 = .ok (.aload_n 0, 1) := by decide +kernel
theorem dX6_addLetterOfGame_5 : decode cX6_addLetterOfGame 5 = .ok (.getfield 37, 3) := by decide +kernel
theorem dX6_addLetterOfGame_8 : decode cX6_addLetterOfGame 8 = .ok (.getfield 122, 3) := by decide +kernel
theorem dX6_addLetterOfGame_11 : decode cX6_addLetterOfGame 11 = .ok (.iload_n 1, 1) := by decide +kernel
theorem dX6_addLetterOfGame_12 : decode cX6_addLetterOfGame 12 = .ok (.invokevirtual 125, 3) := by decide +kernel
theorem dX6_addLetterOfGame_15 : decode cX6_addLetterOfGame 15 = .ok (.istore_n 2, 1) := by decide +kernel
theorem dX6_addLetterOfGame_16 : decode cX6_addLetterOfGame 16 = .ok (.aload_n 0, 1) := by decide +kernel
theorem dX6_addLetterOfGame_17 : decode cX6_addLetterOfGame 17 = .ok (.getfield 37, 3) := by decide +kernel
theorem dX6_addLetterOfGame_20 : decode cX6_addLetterOfGame 20 = .ok (.aload_n 0, 1) := by decide +kernel
theorem dX6_addLetterOfGame_21 : decode cX6_addLetterOfGame 21 = .ok (.getfield 37, 3) := by decide +kernel
theorem dX6_addLetterOfGame_24 : decode cX6_addLetterOfGame 24 = .ok (.getfield 245, 3) := by decide +kernel
theorem dX6_addLetterOfGame_27 : decode cX6_addLetterOfGame 27 = .ok (.iload_n 1, 1) := by decide +kernel
theorem dX6_addLetterOfGame_28 : decode cX6_addLetterOfGame 28 = .ok (.invokevirtual 125, 3) := by decide +kernel
theorem dX6_addLetterOfGame_31 : decode cX6_addLetterOfGame 31 = .ok (.istore_n 3, 1) := by decide +kernel
theorem dX6_addLetterOfGame_32 : decode cX6_addLetterOfGame 32 = .ok (.aload_n 0, 1) := by decide +kernel
theorem dX6_addLetterOfGame_33 : decode cX6_addLetterOfGame 33 = .ok (.getfield 37, 3) := by decide +kernel
theorem dX6_addLetterOfGame_36 : decode cX6_addLetterOfGame 36 = .ok (.aload_n 0, 1) := by decide +kernel
theorem dX6_addLetterOfGame_37 : decode cX6_addLetterOfGame 37 = .ok (.getfield 37, 3) := by decide +kernel
theorem dX6_addLetterOfGame_40 : decode cX6_addLetterOfGame 40 = .ok (.getfield 129, 3) := by decide +kernel
theorem dX6_addLetterOfGame_43 : decode cX6_addLetterOfGame 43 = .ok (.iload_n 1, 1) := by decide +kernel
theorem dX6_addLetterOfGame_44 : decode cX6_addLetterOfGame 44 = .ok (.invokevirtual 125, 3) := by decide +kernel
theorem dX6_addLetterOfGame_47 : decode cX6_addLetterOfGame 47 = .ok (.istore 4, 2) := by decide +kernel
theorem dX6_addLetterOfGame_49 : decode cX6_addLetterOfGame 49 = .ok (.iload_n 2, 1) := by decide +kernel
theorem dX6_addLetterOfGame_50 : decode cX6_addLetterOfGame 50 = .ok (.lookupswitch 42 #[(2, 26), (3, 34)], 26) := by decide +kernel
theorem dX6_addLetterOfGame_76 : decode cX6_addLetterOfGame 76 = .ok (.aload_n 0, 1) := by decide +kernel
theorem dX6_addLetterOfGame_77 : decode cX6_addLetterOfGame 77 = .ok (.iload_n 3, 1) := by decide +kernel
theorem dX6_addLetterOfGame_78 : decode cX6_addLetterOfGame 78 = .ok (.iload 4, 2) := by decide +kernel
theorem dX6_addLetterOfGame_80 : decode cX6_addLetterOfGame 80 = .ok (.invokevirtual 76, 3) := by decide +kernel
theorem dX6_addLetterOfGame_83 : decode cX6_addLetterOfGame 83 = .ok (.ireturn, 1) := by decide +kernel
theorem dX6_addLetterOfGame_84 : decode cX6_addLetterOfGame 84 = .ok (.aload_n 0, 1) := by decide +kernel
theorem dX6_addLetterOfGame_85 : decode cX6_addLetterOfGame 85 = .ok (.iload_n 3, 1) := by decide +kernel
theorem dX6_addLetterOfGame_86 : decode cX6_addLetterOfGame 86 = .ok (.iload 4, 2) := by decide +kernel
theorem dX6_addLetterOfGame_88 : decode cX6_addLetterOfGame 88 = .ok (.invokevirtual 80, 3) := by decide +kernel
theorem dX6_addLetterOfGame_91 : decode cX6_addLetterOfGame 91 = .ok (.ireturn, 1) := by decide +kernel
theorem dX6_addLetterOfGame_92 : decode cX6_addLetterOfGame 92 = .ok (.aload_n 0, 1) := by decide +kernel
theorem dX6_addLetterOfGame_93 : decode cX6_addLetterOfGame 93 = .ok (.iload_n 3, 1) := by decide +kernel
theorem dX6_addLetterOfGame_94 : decode cX6_addLetterOfGame 94 = .ok (.iload_n 2, 1) := by decide +kernel
theorem dX6_addLetterOfGame_95 : decode cX6_addLetterOfGame 95 = .ok (.iload 4, 2) := by decide +kernel
theorem dX6_addLetterOfGame_97 : decode cX6_addLetterOfGame 97 = .ok (.aload_n 0, 1) := by decide +kernel
theorem dX6_addLetterOfGame_98 : decode cX6_addLetterOfGame 98 = .ok (.getfield 37, 3) := by decide +kernel
theorem dX6_addLetterOfGame_101 : decode cX6_addLetterOfGame 101 = .ok (.aload_n 0, 1) := by decide +kernel
theorem dX6_addLetterOfGame_102 : decode cX6_addLetterOfGame 102 = .ok (.getfield 37, 3) := by decide +kernel
theorem dX6_addLetterOfGame_105 : decode cX6_addLetterOfGame 105 = .ok (.getfield 248, 3) := by decide +kernel
theorem dX6_addLetterOfGame_108 : decode cX6_addLetterOfGame 108 = .ok (.iload_n 1, 1) := by decide +kernel
theorem dX6_addLetterOfGame_109 : decode cX6_addLetterOfGame 109 = .ok (.invokevirtual 125, 3) := by decide +kernel
theorem dX6_addLetterOfGame_112 : decode cX6_addLetterOfGame 112 = .ok (.invokevirtual 68, 3) := by decide +kernel
theorem dX6_addLetterOfGame_115 : decode cX6_addLetterOfGame 115 = .ok (.ireturn, 1) := by decide +kernel
theorem dX6_letDaysPass_0 : decode cX6_letDaysPass 0 = .ok (.iload_n 1, 1) := by decide +kernel
theorem dX6_letDaysPass_1 : decode cX6_letDaysPass 1 = .ok (.iconst 1, 1) := by decide +kernel
theorem dX6_letDaysPass_2 : decode cX6_letDaysPass 2 = .ok (.if_icmp .lt 9, 3) := by decide +kernel
theorem dX6_letDaysPass_5 : decode cX6_letDaysPass 5 = .ok (.iload_n 1, 1) := by decide +kernel
theorem dX6_letDaysPass_6 : decode cX6_letDaysPass 6 = .ok (.bipush 99, 2) := by decide +kernel
theorem dX6_letDaysPass_8 : decode cX6_letDaysPass 8 = .ok (.if_icmp .le 6, 3) := by decide +kernel
theorem dX6_letDaysPass_11 : decode cX6_letDaysPass 11 = .ok (.bipush (-2), 2) := by decide +kernel
theorem dX6_letDaysPass_13 : decode cX6_letDaysPass 13 = .ok (.ireturn, 1) := by decide +kernel
theorem dX6_letDaysPass_14 : decode cX6_letDaysPass 14 = .ok (.aload_n 0, 1) := by decide +kernel
theorem dX6_letDaysPass_15 : decode cX6_letDaysPass 15 = .ok (.getfield 51, 3) := by decide +kernel
theorem dX6_letDaysPass_18 : decode cX6_letDaysPass 18 = .ok (.getfield 97, 3) := by decide +kernel
theorem dX6_letDaysPass_21 : decode cX6_letDaysPass 21 = .ok (.iload_n 1, 1) := by decide +kernel
theorem dX6_letDaysPass_22 : decode cX6_letDaysPass 22 = .ok (.iadd, 1) := by decide +kernel
theorem dX6_letDaysPass_23 : decode cX6_letDaysPass 23 = .ok (.sipush 9999, 3) := by decide +kernel
theorem dX6_letDaysPass_26 : decode cX6_letDaysPass 26 = .ok (.if_icmp .le 6, 3) := by decide +kernel
theorem dX6_letDaysPass_29 : decode cX6_letDaysPass 29 = .ok (.bipush (-3), 2) := by decide +kernel
theorem dX6_letDaysPass_31 : decode cX6_letDaysPass 31 = .ok (.ireturn, 1) := by decide +kernel
theorem dX6_letDaysPass_32 : decode cX6_letDaysPass 32 = .ok (.aload_n 0, 1) := by decide +kernel
theorem dX6_letDaysPass_33 : decode cX6_letDaysPass 33 = .ok (.getfield 30, 3) := by decide +kernel
theorem dX6_letDaysPass_36 : decode cX6_letDaysPass 36 = .ok (.aload_n 0, 1) := by decide +kernel
theorem dX6_letDaysPass_37 : decode cX6_letDaysPass 37 = .ok (.getfield 51, 3) := by decide +kernel
theorem dX6_letDaysPass_40 : decode cX6_letDaysPass 40 = .ok (.aload_n 0, 1) := by decide +kernel
theorem dX6_letDaysPass_41 : decode cX6_letDaysPass 41 = .ok (.getfield 51, 3) := by decide +kernel
theorem dX6_letDaysPass_44 : decode cX6_letDaysPass 44 = .ok (.getfield 97, 3) := by decide +kernel
theorem dX6_letDaysPass_47 : decode cX6_letDaysPass 47 = .ok (.iload_n 1, 1) := by decide +kernel
theorem dX6_letDaysPass_48 : decode cX6_letDaysPass 48 = .ok (.iadd, 1) := by decide +kernel
theorem dX6_letDaysPass_49 : decode cX6_letDaysPass 49 = .ok (.invokevirtual 202, 3) := by decide +kernel
theorem dX6_letDaysPass_52 : decode cX6_letDaysPass 52 = .ok (.ireturn, 1) := by decide +kernel
theorem dX6_recordUnlessError_0 : decode cX6_recordUnlessError 0 = .ok (.iload_n 1, 1) := by decide +kernel
theorem dX6_recordUnlessError_1 : decode cX6_recordUnlessError 1 = .ok (.ifCond .lt 14, 3) := by decide +kernel
theorem dX6_recordUnlessError_4 : decode cX6_recordUnlessError 4 = .ok (.aload_n 0, 1) := by decide +kernel
theorem dX6_recordUnlessError_5 : decode cX6_recordUnlessError 5 = .ok (.getfield 44, 3) := by decide +kernel
theorem dX6_recordUnlessError_8 : decode cX6_recordUnlessError 8 = .ok (.aload_n 0, 1) := by decide +kernel
theorem dX6_recordUnlessError_9 : decode cX6_recordUnlessError 9 = .ok (.getfield 55, 3) := by decide +kernel
theorem dX6_recordUnlessError_12 : decode cX6_recordUnlessError 12 = .ok (.invokevirtual 90, 3) := by decide +kernel
theorem dX6_recordUnlessError_15 : decode cX6_recordUnlessError 15 = .ok (.iload_n 1, 1) := by decide +kernel
theorem dX6_recordUnlessError_16 : decode cX6_recordUnlessError 16 = .ok (.ireturn, 1) := by decide +kernel
theorem dX6_edgesWithSomething_0 : decode cX6_edgesWithSomething 0 = .ok (.iconst 0, 1) := by decide +kernel
theorem dX6_edgesWithSomething_1 : decode cX6_edgesWithSomething 1 = .ok (.istore_n 2, 1) := by decide +kernel
theorem dX6_edgesWithSomething_2 : decode cX6_edgesWithSomething 2 = .ok (.iconst 0, 1) := by decide +kernel
theorem dX6_edgesWithSomething_3 : decode cX6_edgesWithSomething 3 = .ok (.istore_n 3, 1) := by decide +kernel
theorem dX6_edgesWithSomething_4 : decode cX6_edgesWithSomething 4 = .ok (.iload_n 3, 1) := by decide +kernel
theorem dX6_edgesWithSomething_5 : decode cX6_edgesWithSomething 5 = .ok (.iconst 4, 1) := by decide +kernel
theorem dX6_edgesWithSomething_6 : decode cX6_edgesWithSomething 6 = .ok (.if_icmp .ge 43, 3) := by decide +kernel
theorem dX6_edgesWithSomething_9 : decode cX6_edgesWithSomething 9 = .ok (.aload_n 0, 1) := by decide +kernel
theorem dX6_edgesWithSomething_10 : decode cX6_edgesWithSomething 10 = .ok (.getfield 10, 3) := by decide +kernel
theorem dX6_edgesWithSomething_13 : decode cX6_edgesWithSomething 13 = .ok (.iload_n 1, 1) := by decide +kernel
theorem dX6_edgesWithSomething_14 : decode cX6_edgesWithSomething 14 = .ok (.iload_n 3, 1) := by decide +kernel
theorem dX6_edgesWithSomething_15 : decode cX6_edgesWithSomething 15 = .ok (.invokevirtual 152, 3) := by decide +kernel
theorem dX6_edgesWithSomething_18 : decode cX6_edgesWithSomething 18 = .ok (.istore 4, 2) := by decide +kernel
theorem dX6_edgesWithSomething_20 : decode cX6_edgesWithSomething 20 = .ok (.iload 4, 2) := by decide +kernel
theorem dX6_edgesWithSomething_22 : decode cX6_edgesWithSomething 22 = .ok (.invokestatic 155, 3) := by decide +kernel
theorem dX6_edgesWithSomething_25 : decode cX6_edgesWithSomething 25 = .ok (.ifCond .eq 18, 3) := by decide +kernel
theorem dX6_edgesWithSomething_28 : decode cX6_edgesWithSomething 28 = .ok (.aload_n 0, 1) := by decide +kernel
theorem dX6_edgesWithSomething_29 : decode cX6_edgesWithSomething 29 = .ok (.getfield 51, 3) := by decide +kernel
theorem dX6_edgesWithSomething_32 : decode cX6_edgesWithSomething 32 = .ok (.iload 4, 2) := by decide +kernel
theorem dX6_edgesWithSomething_34 : decode cX6_edgesWithSomething 34 = .ok (.invokevirtual 158, 3) := by decide +kernel
theorem dX6_edgesWithSomething_37 : decode cX6_edgesWithSomething 37 = .ok (.ifCond .eq 6, 3) := by decide +kernel
theorem dX6_edgesWithSomething_40 : decode cX6_edgesWithSomething 40 = .ok (.iinc 2 1, 3) := by decide +kernel
theorem dX6_edgesWithSomething_43 : decode cX6_edgesWithSomething 43 = .ok (.iinc 3 1, 3) := by decide +kernel
theorem dX6_edgesWithSomething_46 : decode cX6_edgesWithSomething 46 = .ok (.goto (-42), 3) := by decide +kernel
theorem dX6_edgesWithSomething_49 : decode cX6_edgesWithSomething 49 = .ok (.iload_n 2, 1) := by decide +kernel
theorem dX6_edgesWithSomething_50 : decode cX6_edgesWithSomething 50 = .ok (.ireturn, 1) := by decide +kernel
theorem dX6_isPlayer_0 : decode cX6_isPlayer 0 = .ok (.iload_n 0, 1) := by decide +kernel
theorem dX6_isPlayer_1 : decode cX6_isPlayer 1 = .ok (.ifCond .lt 12, 3) := by decide +kernel
theorem dX6_isPlayer_4 : decode cX6_isPlayer 4 = .ok (.iload_n 0, 1) := by decide +kernel
theorem dX6_isPlayer_5 : decode cX6_isPlayer 5 = .ok (.iconst 2, 1) := by decide +kernel
theorem dX6_isPlayer_6 : decode cX6_isPlayer 6 = .ok (.if_icmp .ge 7, 3) := by decide +kernel
theorem dX6_isPlayer_9 : decode cX6_isPlayer 9 = .ok (.iconst 1, 1) := by decide +kernel
theorem dX6_isPlayer_10 : decode cX6_isPlayer 10 = .ok (.goto 4, 3) := by decide +kernel
theorem dX6_isPlayer_13 : decode cX6_isPlayer 13 = .ok (.iconst 0, 1) := by decide +kernel
theorem dX6_isPlayer_14 : decode cX6_isPlayer 14 = .ok (.ireturn, 1) := by decide +kernel
theorem dX6_isField_0 : decode cX6_isField 0 = .ok (.iload_n 0, 1) := by decide +kernel
theorem dX6_isField_1 : decode cX6_isField 1 = .ok (.ifCond .lt 13, 3) := by decide +kernel
theorem dX6_isField_4 : decode cX6_isField 4 = .ok (.iload_n 0, 1) := by decide +kernel
theorem dX6_isField_5 : decode cX6_isField 5 = .ok (.bipush 48, 2) := by decide +kernel
theorem dX6_isField_7 : decode cX6_isField 7 = .ok (.if_icmp .ge 7, 3) := by decide +kernel
theorem dX6_isField_10 : decode cX6_isField 10 = .ok (.iconst 1, 1) := by decide +kernel
theorem dX6_isField_11 : decode cX6_isField 11 = .ok (.goto 4, 3) := by decide +kernel
theorem dX6_isField_14 : decode cX6_isField 14 = .ok (.iconst 0, 1) := by decide +kernel
theorem dX6_isField_15 : decode cX6_isField 15 = .ok (.ireturn, 1) := by decide +kernel
theorem dX6_isEdge_0 : decode cX6_isEdge 0 = .ok (.iload_n 0, 1) := by decide +kernel
theorem dX6_isEdge_1 : decode cX6_isEdge 1 = .ok (.ifCond .lt 13, 3) := by decide +kernel
theorem dX6_isEdge_4 : decode cX6_isEdge 4 = .ok (.iload_n 0, 1) := by decide +kernel
theorem dX6_isEdge_5 : decode cX6_isEdge 5 = .ok (.bipush 82, 2) := by decide +kernel
theorem dX6_isEdge_7 : decode cX6_isEdge 7 = .ok (.if_icmp .ge 7, 3) := by decide +kernel
theorem dX6_isEdge_10 : decode cX6_isEdge 10 = .ok (.iconst 1, 1) := by decide +kernel
theorem dX6_isEdge_11 : decode cX6_isEdge 11 = .ok (.goto 4, 3) := by decide +kernel
theorem dX6_isEdge_14 : decode cX6_isEdge 14 = .ok (.iconst 0, 1) := by decide +kernel
theorem dX6_isEdge_15 : decode cX6_isEdge 15 = .ok (.ireturn, 1) := by decide +kernel
theorem dX6_fenceOf_0 : decode cX6_fenceOf 0 = .ok (.iload_n 0, 1) := by decide +kernel
theorem dX6_fenceOf_1 : decode cX6_fenceOf 1 = .ok (.iconst 1, 1) := by decide +kernel
theorem dX6_fenceOf_2 : decode cX6_fenceOf 2 = .ok (.iadd, 1) := by decide +kernel
theorem dX6_fenceOf_3 : decode cX6_fenceOf 3 = .ok (.ireturn, 1) := by decide +kernel
theorem dX7_init_0 : decode cX7_init 0 = .ok (.aload_n 0, 1) := by decide +kernel
theorem dX7_init_1 : decode cX7_init 1 = .ok (.invokespecial 1, 3) := by decide +kernel
theorem dX7_init_4 : decode cX7_init 4 = .ok (.aload_n 0, 1) := by decide +kernel
theorem dX7_init_5 : decode cX7_init 5 = .ok (.sipush 742, 3) := by decide +kernel
theorem dX7_init_8 : decode cX7_init 8 = .ok (.newarray .int, 2) := by decide +kernel
theorem dX7_init_10 : decode cX7_init 10 = .ok (.putfield 7, 3) := by decide +kernel
theorem dX7_init_13 : decode cX7_init 13 = .ok (.aload_n 0, 1) := by decide +kernel
theorem dX7_init_14 : decode cX7_init 14 = .ok (.sipush 742, 3) := by decide +kernel
theorem dX7_init_17 : decode cX7_init 17 = .ok (.newarray .int, 2) := by decide +kernel
theorem dX7_init_19 : decode cX7_init 19 = .ok (.putfield 13, 3) := by decide +kernel
theorem dX7_init_22 : decode cX7_init 22 = .ok (.aload_n 0, 1) := by decide +kernel
theorem dX7_init_23 : decode cX7_init 23 = .ok (.sipush 742, 3) := by decide +kernel
theorem dX7_init_26 : decode cX7_init 26 = .ok (.newarray .int, 2) := by decide +kernel
theorem dX7_init_28 : decode cX7_init 28 = .ok (.putfield 16, 3) := by decide +kernel
theorem dX7_init_31 : decode cX7_init 31 = .ok (.aload_n 0, 1) := by decide +kernel
theorem dX7_init_32 : decode cX7_init 32 = .ok (.sipush 742, 3) := by decide +kernel
theorem dX7_init_35 : decode cX7_init 35 = .ok (.newarray .int, 2) := by decide +kernel
theorem dX7_init_37 : decode cX7_init 37 = .ok (.putfield 19, 3) := by decide +kernel
theorem dX7_init_40 : decode cX7_init 40 = .ok (.aload_n 0, 1) := by decide +kernel
theorem dX7_init_41 : decode cX7_init 41 = .ok (.sipush 2968, 3) := by decide +kernel
theorem dX7_init_44 : decode cX7_init 44 = .ok (.newarray .int, 2) := by decide +kernel
theorem dX7_init_46 : decode cX7_init 46 = .ok (.putfield 22, 3) := by decide +kernel
theorem dX7_init_49 : decode cX7_init 49 = .ok (.aload_n 0, 1) := by decide +kernel
theorem dX7_init_50 : decode cX7_init 50 = .ok (.bipush 60, 2) := by decide +kernel
theorem dX7_init_52 : decode cX7_init 52 = .ok (.newarray .int, 2) := by decide +kernel
theorem dX7_init_54 : decode cX7_init 54 = .ok (.putfield 25, 3) := by decide +kernel
theorem dX7_init_57 : decode cX7_init 57 = .ok (.aload_n 0, 1) := by decide +kernel
theorem dX7_init_58 : decode cX7_init 58 = .ok (.bipush (-5), 2) := by decide +kernel
theorem dX7_init_60 : decode cX7_init 60 = .ok (.putfield 28, 3) := by decide +kernel
theorem dX7_init_63 : decode cX7_init 63 = .ok (.aload_n 0, 1) := by decide +kernel
theorem dX7_init_64 : decode cX7_init 64 = .ok (.bipush (-5), 2) := by decide +kernel
theorem dX7_init_66 : decode cX7_init 66 = .ok (.putfield 32, 3) := by decide +kernel
theorem dX7_init_69 : decode cX7_init 69 = .ok (.aload_n 0, 1) := by decide +kernel
theorem dX7_init_70 : decode cX7_init 70 = .ok (.bipush 48, 2) := by decide +kernel
theorem dX7_init_72 : decode cX7_init 72 = .ok (.newarray .boolean, 2) := by decide +kernel
theorem dX7_init_74 : decode cX7_init 74 = .ok (.putfield 35, 3) := by decide +kernel
theorem dX7_init_77 : decode cX7_init 77 = .ok (.aload_n 0, 1) := by decide +kernel
theorem dX7_init_78 : decode cX7_init 78 = .ok (.getfield 7, 3) := by decide +kernel
theorem dX7_init_81 : decode cX7_init 81 = .ok (.iconst 4, 1) := by decide +kernel
theorem dX7_init_82 : decode cX7_init 82 = .ok (.iconst 3, 1) := by decide +kernel
theorem dX7_init_83 : decode cX7_init 83 = .ok (.iastore, 1) := by decide +kernel
theorem dX7_init_84 : decode cX7_init 84 = .ok (.aload_n 0, 1) := by decide +kernel
theorem dX7_init_85 : decode cX7_init 85 = .ok (.getfield 7, 3) := by decide +kernel
theorem dX7_init_88 : decode cX7_init 88 = .ok (.iconst 5, 1) := by decide +kernel
theorem dX7_init_89 : decode cX7_init 89 = .ok (.bipush 9, 2) := by decide +kernel
theorem dX7_init_91 : decode cX7_init 91 = .ok (.iastore, 1) := by decide +kernel
theorem dX7_init_92 : decode cX7_init 92 = .ok (.aload_n 0, 1) := by decide +kernel
theorem dX7_init_93 : decode cX7_init 93 = .ok (.getfield 7, 3) := by decide +kernel
theorem dX7_init_96 : decode cX7_init 96 = .ok (.bipush 8, 2) := by decide +kernel
theorem dX7_init_98 : decode cX7_init 98 = .ok (.bipush (-5), 2) := by decide +kernel
theorem dX7_init_100 : decode cX7_init 100 = .ok (.iastore, 1) := by decide +kernel
theorem dX7_init_101 : decode cX7_init 101 = .ok (.iconst 0, 1) := by decide +kernel
theorem dX7_init_102 : decode cX7_init 102 = .ok (.istore_n 1, 1) := by decide +kernel
theorem dX7_init_103 : decode cX7_init 103 = .ok (.iload_n 1, 1) := by decide +kernel
theorem dX7_init_104 : decode cX7_init 104 = .ok (.bipush 48, 2) := by decide +kernel
theorem dX7_init_106 : decode cX7_init 106 = .ok (.if_icmp .ge 20, 3) := by decide +kernel
theorem dX7_init_109 : decode cX7_init 109 = .ok (.aload_n 0, 1) := by decide +kernel
theorem dX7_init_110 : decode cX7_init 110 = .ok (.getfield 7, 3) := by decide +kernel
theorem dX7_init_113 : decode cX7_init 113 = .ok (.bipush 94, 2) := by decide +kernel
theorem dX7_init_115 : decode cX7_init 115 = .ok (.iload_n 1, 1) := by decide +kernel
theorem dX7_init_116 : decode cX7_init 116 = .ok (.iadd, 1) := by decide +kernel
theorem dX7_init_117 : decode cX7_init 117 = .ok (.bipush (-5), 2) := by decide +kernel
theorem dX7_init_119 : decode cX7_init 119 = .ok (.iastore, 1) := by decide +kernel
theorem dX7_init_120 : decode cX7_init 120 = .ok (.iinc 1 1, 3) := by decide +kernel
theorem dX7_init_123 : decode cX7_init 123 = .ok (.goto (-20), 3) := by decide +kernel
theorem dX7_init_126 : decode cX7_init 126 = .ok (.return_, 1) := by decide +kernel
theorem dX7_in_0 : decode cX7_in 0 = .ok (.iload_n 0, 1) := by decide +kernel
theorem dX7_in_1 : decode cX7_in 1 = .ok (.iload_n 1, 1) := by decide +kernel
theorem dX7_in_2 : decode cX7_in 2 = .ok (.if_icmp .lt 12, 3) := by decide +kernel
theorem dX7_in_5 : decode cX7_in 5 = .ok (.iload_n 0, 1) := by decide +kernel
theorem dX7_in_6 : decode cX7_in 6 = .ok (.iload_n 2, 1) := by decide +kernel
theorem dX7_in_7 : decode cX7_in 7 = .ok (.if_icmp .gt 7, 3) := by decide +kernel
theorem dX7_in_10 : decode cX7_in 10 = .ok (.iconst 1, 1) := by decide +kernel
theorem dX7_in_11 : decode cX7_in 11 = .ok (.goto 4, 3) := by decide +kernel
theorem dX7_in_14 : decode cX7_in 14 = .ok (.iconst 0, 1) := by decide +kernel
theorem dX7_in_15 : decode cX7_in 15 = .ok (.ireturn, 1) := by decide +kernel
theorem dX7_isPlayer_0 : decode cX7_isPlayer 0 = .ok (.iload_n 0, 1) := by decide +kernel
theorem dX7_isPlayer_1 : decode cX7_isPlayer 1 = .ok (.iconst 0, 1) := by decide +kernel
theorem dX7_isPlayer_2 : decode cX7_isPlayer 2 = .ok (.iconst 1, 1) := by decide +kernel
theorem dX7_isPlayer_3 : decode cX7_isPlayer 3 = .ok (.invokestatic 39, 3) := by decide +kernel
theorem dX7_isPlayer_6 : decode cX7_isPlayer 6 = .ok (.ireturn, 1) := by decide +kernel
theorem dX7_isField_0 : decode cX7_isField 0 = .ok (.iload_n 0, 1) := by decide +kernel
theorem dX7_isField_1 : decode cX7_isField 1 = .ok (.iconst 0, 1) := by decide +kernel
theorem dX7_isField_2 : decode cX7_isField 2 = .ok (.bipush 47, 2) := by decide +kernel
theorem dX7_isField_4 : decode cX7_isField 4 = .ok (.invokestatic 39, 3) := by decide +kernel
theorem dX7_isField_7 : decode cX7_isField 7 = .ok (.ireturn, 1) := by decide +kernel
theorem dX7_isLetter_0 : decode cX7_isLetter 0 = .ok (.iload_n 1, 1) := by decide +kernel
theorem dX7_isLetter_1 : decode cX7_isLetter 1 = .ok (.iconst 0, 1) := by decide +kernel
theorem dX7_isLetter_2 : decode cX7_isLetter 2 = .ok (.aload_n 0, 1) := by decide +kernel
theorem dX7_isLetter_3 : decode cX7_isLetter 3 = .ok (.getfield 7, 3) := by decide +kernel
theorem dX7_isLetter_6 : decode cX7_isLetter 6 = .ok (.iconst 1, 1) := by decide +kernel
theorem dX7_isLetter_7 : decode cX7_isLetter 7 = .ok (.iaload, 1) := by decide +kernel
