theorem dX7_isLetter_8 : decode cX7_isLetter 8 = .ok (.iconst 1, 1) := by decide +kernel
theorem dX7_isLetter_9 : decode cX7_isLetter 9 = .ok (.isub, 1) := by decide +kernel
theorem dX7_isLetter_10 : decode cX7_isLetter 10 = .ok (.invokestatic 39, 3) := by decide +kernel
theorem dX7_isLetter_13 : decode cX7_isLetter 13 = .ok (.ireturn, 1) := by decide +kernel
theorem dX7_at_0 : decode cX7_at 0 = .ok (.sipush 142, 3) := by decide +kernel
theorem dX7_at_3 : decode cX7_at 3 = .ok (.bipush 10, 2) := by decide +kernel
theorem dX7_at_5 : decode cX7_at 5 = .ok (.iload_n 0, 1) := by decide +kernel
theorem dX7_at_6 : decode cX7_at 6 = .ok (.imul, 1) := by decide +kernel
theorem dX7_at_7 : decode cX7_at 7 = .ok (.iadd, 1) := by decide +kernel
theorem dX7_at_8 : decode cX7_at 8 = .ok (.iload_n 1, 1) := by decide +kernel
theorem dX7_at_9 : decode cX7_at 9 = .ok (.iadd, 1) := by decide +kernel
theorem dX7_at_10 : decode cX7_at 10 = .ok (.ireturn, 1) := by decide +kernel
theorem dX7_of_0 : decode cX7_of 0 = .ok (.aload_n 0, 1) := by decide +kernel
theorem dX7_of_1 : decode cX7_of 1 = .ok (.getfield 7, 3) := by decide +kernel
theorem dX7_of_4 : decode cX7_of 4 = .ok (.iload_n 1, 1) := by decide +kernel
theorem dX7_of_5 : decode cX7_of 5 = .ok (.iload_n 2, 1) := by decide +kernel
theorem dX7_of_6 : decode cX7_of 6 = .ok (.invokestatic 43, 3) := by decide +kernel
theorem dX7_of_9 : decode cX7_of 9 = .ok (.iaload, 1) := by decide +kernel
theorem dX7_of_10 : decode cX7_of 10 = .ok (.ireturn, 1) := by decide +kernel
theorem dX7_looks_0 : decode cX7_looks 0 = .ok (.iconst 0, 1) := by decide +kernel
theorem dX7_looks_1 : decode cX7_looks 1 = .ok (.istore_n 1, 1) := by decide +kernel
theorem dX7_looks_2 : decode cX7_looks 2 = .ok (.iload_n 1, 1) := by decide +kernel
theorem dX7_looks_3 : decode cX7_looks 3 = .ok (.sipush 742, 3) := by decide +kernel
theorem dX7_looks_6 : decode cX7_looks 6 = .ok (.if_icmp .ge 21, 3) := by decide +kernel
theorem dX7_looks_9 : decode cX7_looks 9 = .ok (.aload_n 0, 1) := by decide +kernel
theorem dX7_looks_10 : decode cX7_looks 10 = .ok (.getfield 16, 3) := by decide +kernel
theorem dX7_looks_13 : decode cX7_looks 13 = .ok (.iload_n 1, 1) := by decide +kernel
theorem dX7_looks_14 : decode cX7_looks 14 = .ok (.aload_n 0, 1) := by decide +kernel
theorem dX7_looks_15 : decode cX7_looks 15 = .ok (.getfield 7, 3) := by decide +kernel
theorem dX7_looks_18 : decode cX7_looks 18 = .ok (.iload_n 1, 1) := by decide +kernel
theorem dX7_looks_19 : decode cX7_looks 19 = .ok (.iaload, 1) := by decide +kernel
theorem dX7_looks_20 : decode cX7_looks 20 = .ok (.iastore, 1) := by decide +kernel
theorem dX7_looks_21 : decode cX7_looks 21 = .ok (.iinc 1 1, 3) := by decide +kernel
theorem dX7_looks_24 : decode cX7_looks 24 = .ok (.goto (-22), 3) := by decide +kernel
theorem dX7_looks_27 : decode cX7_looks 27 = .ok (.return_, 1) := by decide +kernel
theorem dX7_records_0 : decode cX7_records 0 = .ok (.aload_n 0, 1) := by decide +kernel
theorem dX7_records_1 : decode cX7_records 1 = .ok (.getfield 47, 3) := by decide +kernel
theorem dX7_records_4 : decode cX7_records 4 = .ok (.iconst 4, 1) := by decide +kernel
theorem dX7_records_5 : decode cX7_records 5 = .ok (.if_icmp .ne 44, 3) := by decide +kernel
theorem dX7_records_8 : decode cX7_records 8 = .ok (.iconst 0, 1) := by decide +kernel
theorem dX7_records_9 : decode cX7_records 9 = .ok (.istore_n 1, 1) := by decide +kernel
theorem dX7_records_10 : decode cX7_records 10 = .ok (.iload_n 1, 1) := by decide +kernel
theorem dX7_records_11 : decode cX7_records 11 = .ok (.sipush 2226, 3) := by decide +kernel
theorem dX7_records_14 : decode cX7_records 14 = .ok (.if_icmp .ge 25, 3) := by decide +kernel
theorem dX7_records_17 : decode cX7_records 17 = .ok (.aload_n 0, 1) := by decide +kernel
theorem dX7_records_18 : decode cX7_records 18 = .ok (.getfield 22, 3) := by decide +kernel
theorem dX7_records_21 : decode cX7_records 21 = .ok (.iload_n 1, 1) := by decide +kernel
theorem dX7_records_22 : decode cX7_records 22 = .ok (.aload_n 0, 1) := by decide +kernel
theorem dX7_records_23 : decode cX7_records 23 = .ok (.getfield 22, 3) := by decide +kernel
theorem dX7_records_26 : decode cX7_records 26 = .ok (.sipush 742, 3) := by decide +kernel
theorem dX7_records_29 : decode cX7_records 29 = .ok (.iload_n 1, 1) := by decide +kernel
theorem dX7_records_30 : decode cX7_records 30 = .ok (.iadd, 1) := by decide +kernel
theorem dX7_records_31 : decode cX7_records 31 = .ok (.iaload, 1) := by decide +kernel
theorem dX7_records_32 : decode cX7_records 32 = .ok (.iastore, 1) := by decide +kernel
theorem dX7_records_33 : decode cX7_records 33 = .ok (.iinc 1 1, 3) := by decide +kernel
theorem dX7_records_36 : decode cX7_records 36 = .ok (.goto (-26), 3) := by decide +kernel
theorem dX7_records_39 : decode cX7_records 39 = .ok (.aload_n 0, 1) := by decide +kernel
theorem dX7_records_40 : decode cX7_records 40 = .ok (.dup, 1) := by decide +kernel
theorem dX7_records_41 : decode cX7_records 41 = .ok (.getfield 47, 3) := by decide +kernel
theorem dX7_records_44 : decode cX7_records 44 = .ok (.iconst 1, 1) := by decide +kernel
theorem dX7_records_45 : decode cX7_records 45 = .ok (.isub, 1) := by decide +kernel
theorem dX7_records_46 : decode cX7_records 46 = .ok (.putfield 47, 3) := by decide +kernel
theorem dX7_records_49 : decode cX7_records 49 = .ok (.iconst 0, 1) := by decide +kernel
theorem dX7_records_50 : decode cX7_records 50 = .ok (.istore_n 1, 1) := by decide +kernel
theorem dX7_records_51 : decode cX7_records 51 = .ok (.iload_n 1, 1) := by decide +kernel
theorem dX7_records_52 : decode cX7_records 52 = .ok (.sipush 742, 3) := by decide +kernel
theorem dX7_records_55 : decode cX7_records 55 = .ok (.if_icmp .ge 30, 3) := by decide +kernel
theorem dX7_records_58 : decode cX7_records 58 = .ok (.aload_n 0, 1) := by decide +kernel
theorem dX7_records_59 : decode cX7_records 59 = .ok (.getfield 22, 3) := by decide +kernel
theorem dX7_records_62 : decode cX7_records 62 = .ok (.sipush 742, 3) := by decide +kernel
theorem dX7_records_65 : decode cX7_records 65 = .ok (.aload_n 0, 1) := by decide +kernel
theorem dX7_records_66 : decode cX7_records 66 = .ok (.getfield 47, 3) := by decide +kernel
theorem dX7_records_69 : decode cX7_records 69 = .ok (.imul, 1) := by decide +kernel
theorem dX7_records_70 : decode cX7_records 70 = .ok (.iload_n 1, 1) := by decide +kernel
theorem dX7_records_71 : decode cX7_records 71 = .ok (.iadd, 1) := by decide +kernel
theorem dX7_records_72 : decode cX7_records 72 = .ok (.aload_n 0, 1) := by decide +kernel
theorem dX7_records_73 : decode cX7_records 73 = .ok (.getfield 16, 3) := by decide +kernel
theorem dX7_records_76 : decode cX7_records 76 = .ok (.iload_n 1, 1) := by decide +kernel
theorem dX7_records_77 : decode cX7_records 77 = .ok (.iaload, 1) := by decide +kernel
theorem dX7_records_78 : decode cX7_records 78 = .ok (.iastore, 1) := by decide +kernel
theorem dX7_records_79 : decode cX7_records 79 = .ok (.iinc 1 1, 3) := by decide +kernel
theorem dX7_records_82 : decode cX7_records 82 = .ok (.goto (-31), 3) := by decide +kernel
theorem dX7_records_85 : decode cX7_records 85 = .ok (.aload_n 0, 1) := by decide +kernel
theorem dX7_records_86 : decode cX7_records 86 = .ok (.dup, 1) := by decide +kernel
theorem dX7_records_87 : decode cX7_records 87 = .ok (.getfield 47, 3) := by decide +kernel
theorem dX7_records_90 : decode cX7_records 90 = .ok (.iconst 1, 1) := by decide +kernel
theorem dX7_records_91 : decode cX7_records 91 = .ok (.iadd, 1) := by decide +kernel
theorem dX7_records_92 : decode cX7_records 92 = .ok (.putfield 47, 3) := by decide +kernel
theorem dX7_records_95 : decode cX7_records 95 = .ok (.return_, 1) := by decide +kernel
theorem dX7_putAside_0 : decode cX7_putAside 0 = .ok (.iconst 0, 1) := by decide +kernel
theorem dX7_putAside_1 : decode cX7_putAside 1 = .ok (.istore_n 1, 1) := by decide +kernel
theorem dX7_putAside_2 : decode cX7_putAside 2 = .ok (.iload_n 1, 1) := by decide +kernel
theorem dX7_putAside_3 : decode cX7_putAside 3 = .ok (.sipush 742, 3) := by decide +kernel
theorem dX7_putAside_6 : decode cX7_putAside 6 = .ok (.if_icmp .ge 21, 3) := by decide +kernel
theorem dX7_putAside_9 : decode cX7_putAside 9 = .ok (.aload_n 0, 1) := by decide +kernel
theorem dX7_putAside_10 : decode cX7_putAside 10 = .ok (.getfield 13, 3) := by decide +kernel
theorem dX7_putAside_13 : decode cX7_putAside 13 = .ok (.iload_n 1, 1) := by decide +kernel
theorem dX7_putAside_14 : decode cX7_putAside 14 = .ok (.aload_n 0, 1) := by decide +kernel
theorem dX7_putAside_15 : decode cX7_putAside 15 = .ok (.getfield 7, 3) := by decide +kernel
theorem dX7_putAside_18 : decode cX7_putAside 18 = .ok (.iload_n 1, 1) := by decide +kernel
theorem dX7_putAside_19 : decode cX7_putAside 19 = .ok (.iaload, 1) := by decide +kernel
theorem dX7_putAside_20 : decode cX7_putAside 20 = .ok (.iastore, 1) := by decide +kernel
theorem dX7_putAside_21 : decode cX7_putAside 21 = .ok (.iinc 1 1, 3) := by decide +kernel
theorem dX7_putAside_24 : decode cX7_putAside 24 = .ok (.goto (-22), 3) := by decide +kernel
theorem dX7_putAside_27 : decode cX7_putAside 27 = .ok (.return_, 1) := by decide +kernel
theorem dX7_putBack_0 : decode cX7_putBack 0 = .ok (.iconst 0, 1) := by decide +kernel
theorem dX7_putBack_1 : decode cX7_putBack 1 = .ok (.istore_n 1, 1) := by decide +kernel
theorem dX7_putBack_2 : decode cX7_putBack 2 = .ok (.iload_n 1, 1) := by decide +kernel
theorem dX7_putBack_3 : decode cX7_putBack 3 = .ok (.sipush 742, 3) := by decide +kernel
theorem dX7_putBack_6 : decode cX7_putBack 6 = .ok (.if_icmp .ge 21, 3) := by decide +kernel
theorem dX7_putBack_9 : decode cX7_putBack 9 = .ok (.aload_n 0, 1) := by decide +kernel
theorem dX7_putBack_10 : decode cX7_putBack 10 = .ok (.getfield 7, 3) := by decide +kernel
theorem dX7_putBack_13 : decode cX7_putBack 13 = .ok (.iload_n 1, 1) := by decide +kernel
theorem dX7_putBack_14 : decode cX7_putBack 14 = .ok (.aload_n 0, 1) := by decide +kernel
theorem dX7_putBack_15 : decode cX7_putBack 15 = .ok (.getfield 13, 3) := by decide +kernel
theorem dX7_putBack_18 : decode cX7_putBack 18 = .ok (.iload_n 1, 1) := by decide +kernel
theorem dX7_putBack_19 : decode cX7_putBack 19 = .ok (.iaload, 1) := by decide +kernel
theorem dX7_putBack_20 : decode cX7_putBack 20 = .ok (.iastore, 1) := by decide +kernel
theorem dX7_putBack_21 : decode cX7_putBack 21 = .ok (.iinc 1 1, 3) := by decide +kernel
theorem dX7_putBack_24 : decode cX7_putBack 24 = .ok (.goto (-22), 3) := by decide +kernel
theorem dX7_putBack_27 : decode cX7_putBack 27 = .ok (.return_, 1) := by decide +kernel
theorem dX7_edgeAt_0 : decode cX7_edgeAt 0 = .ok (.iload_n 0, 1) := by decide +kernel
theorem dX7_edgeAt_1 : decode cX7_edgeAt 1 = .ok (.invokestatic 50, 3) := by decide +kernel
theorem dX7_edgeAt_4 : decode cX7_edgeAt 4 = .ok (.ifCond .ne 6, 3) := by decide +kernel
theorem dX7_edgeAt_7 : decode cX7_edgeAt 7 = .ok (.bipush (-5), 2) := by decide +kernel
theorem dX7_edgeAt_9 : decode cX7_edgeAt 9 = .ok (.ireturn, 1) := by decide +kernel
theorem dX7_edgeAt_10 : decode cX7_edgeAt 10 = .ok (.iload_n 0, 1) := by decide +kernel
theorem dX7_edgeAt_11 : decode cX7_edgeAt 11 = .ok (.bipush 8, 2) := by decide +kernel
theorem dX7_edgeAt_13 : decode cX7_edgeAt 13 = .ok (.idiv, 1) := by decide +kernel
theorem dX7_edgeAt_14 : decode cX7_edgeAt 14 = .ok (.istore_n 2, 1) := by decide +kernel
theorem dX7_edgeAt_15 : decode cX7_edgeAt 15 = .ok (.iload_n 0, 1) := by decide +kernel
theorem dX7_edgeAt_16 : decode cX7_edgeAt 16 = .ok (.bipush 8, 2) := by decide +kernel
theorem dX7_edgeAt_18 : decode cX7_edgeAt 18 = .ok (.irem, 1) := by decide +kernel
theorem dX7_edgeAt_19 : decode cX7_edgeAt 19 = .ok (.istore_n 3, 1) := by decide +kernel
theorem dX7_edgeAt_20 : decode cX7_edgeAt 20 = .ok (.iload_n 1, 1) := by decide +kernel
theorem dX7_edgeAt_21 : decode cX7_edgeAt 21 = .ok (.tableswitch 99 0 3 #[31, 48, 66, 81], 31) := by decide +kernel
theorem dX7_edgeAt_52 : decode cX7_edgeAt 52 = .ok (.iload_n 2, 1) := by decide +kernel
theorem dX7_edgeAt_53 : decode cX7_edgeAt 53 = .ok (.ifCond .le 13, 3) := by decide +kernel
theorem dX7_edgeAt_56 : decode cX7_edgeAt 56 = .ok (.bipush 42, 2) := by decide +kernel
theorem dX7_edgeAt_58 : decode cX7_edgeAt 58 = .ok (.iload_n 0, 1) := by decide +kernel
theorem dX7_edgeAt_59 : decode cX7_edgeAt 59 = .ok (.iadd, 1) := by decide +kernel
theorem dX7_edgeAt_60 : decode cX7_edgeAt 60 = .ok (.bipush 8, 2) := by decide +kernel
theorem dX7_edgeAt_62 : decode cX7_edgeAt 62 = .ok (.isub, 1) := by decide +kernel
theorem dX7_edgeAt_63 : decode cX7_edgeAt 63 = .ok (.goto 5, 3) := by decide +kernel
theorem dX7_edgeAt_66 : decode cX7_edgeAt 66 = .ok (.bipush (-5), 2) := by decide +kernel
theorem dX7_edgeAt_68 : decode cX7_edgeAt 68 = .ok (.ireturn, 1) := by decide +kernel
theorem dX7_edgeAt_69 : decode cX7_edgeAt 69 = .ok (.iload_n 3, 1) := by decide +kernel
theorem dX7_edgeAt_70 : decode cX7_edgeAt 70 = .ok (.bipush 7, 2) := by decide +kernel
theorem dX7_edgeAt_72 : decode cX7_edgeAt 72 = .ok (.if_icmp .ge 12, 3) := by decide +kernel
theorem dX7_edgeAt_75 : decode cX7_edgeAt 75 = .ok (.bipush 7, 2) := by decide +kernel
theorem dX7_edgeAt_77 : decode cX7_edgeAt 77 = .ok (.iload_n 2, 1) := by decide +kernel
theorem dX7_edgeAt_78 : decode cX7_edgeAt 78 = .ok (.imul, 1) := by decide +kernel
theorem dX7_edgeAt_79 : decode cX7_edgeAt 79 = .ok (.iload_n 3, 1) := by decide +kernel
theorem dX7_edgeAt_80 : decode cX7_edgeAt 80 = .ok (.iadd, 1) := by decide +kernel
theorem dX7_edgeAt_81 : decode cX7_edgeAt 81 = .ok (.goto 5, 3) := by decide +kernel
theorem dX7_edgeAt_84 : decode cX7_edgeAt 84 = .ok (.bipush (-5), 2) := by decide +kernel
theorem dX7_edgeAt_86 : decode cX7_edgeAt 86 = .ok (.ireturn, 1) := by decide +kernel
theorem dX7_edgeAt_87 : decode cX7_edgeAt 87 = .ok (.iload_n 2, 1) := by decide +kernel
theorem dX7_edgeAt_88 : decode cX7_edgeAt 88 = .ok (.iconst 5, 1) := by decide +kernel
theorem dX7_edgeAt_89 : decode cX7_edgeAt 89 = .ok (.if_icmp .ge 10, 3) := by decide +kernel
theorem dX7_edgeAt_92 : decode cX7_edgeAt 92 = .ok (.bipush 42, 2) := by decide +kernel
theorem dX7_edgeAt_94 : decode cX7_edgeAt 94 = .ok (.iload_n 0, 1) := by decide +kernel
theorem dX7_edgeAt_95 : decode cX7_edgeAt 95 = .ok (.iadd, 1) := by decide +kernel
theorem dX7_edgeAt_96 : decode cX7_edgeAt 96 = .ok (.goto 5, 3) := by decide +kernel
theorem dX7_edgeAt_99 : decode cX7_edgeAt 99 = .ok (.bipush (-5), 2) := by decide +kernel
theorem dX7_edgeAt_101 : decode cX7_edgeAt 101 = .ok (.ireturn, 1) := by decide +kernel
theorem dX7_edgeAt_102 : decode cX7_edgeAt 102 = .ok (.iload_n 3, 1) := by decide +kernel
theorem dX7_edgeAt_103 : decode cX7_edgeAt 103 = .ok (.ifCond .le 14, 3) := by decide +kernel
theorem dX7_edgeAt_106 : decode cX7_edgeAt 106 = .ok (.bipush 7, 2) := by decide +kernel
theorem dX7_edgeAt_108 : decode cX7_edgeAt 108 = .ok (.iload_n 2, 1) := by decide +kernel
theorem dX7_edgeAt_109 : decode cX7_edgeAt 109 = .ok (.imul, 1) := by decide +kernel
theorem dX7_edgeAt_110 : decode cX7_edgeAt 110 = .ok (.iload_n 3, 1) := by decide +kernel
theorem dX7_edgeAt_111 : decode cX7_edgeAt 111 = .ok (.iadd, 1) := by decide +kernel
theorem dX7_edgeAt_112 : decode cX7_edgeAt 112 = .ok (.iconst 1, 1) := by decide +kernel
theorem dX7_edgeAt_113 : decode cX7_edgeAt 113 = .ok (.isub, 1) := by decide +kernel
theorem dX7_edgeAt_114 : decode cX7_edgeAt 114 = .ok (.goto 5, 3) := by decide +kernel
theorem dX7_edgeAt_117 : decode cX7_edgeAt 117 = .ok (.bipush (-5), 2) := by decide +kernel
theorem dX7_edgeAt_119 : decode cX7_edgeAt 119 = .ok (.ireturn, 1) := by decide +kernel
theorem dX7_edgeAt_120 : decode cX7_edgeAt 120 = .ok (.bipush (-5), 2) := by decide +kernel
theorem dX7_edgeAt_122 : decode cX7_edgeAt 122 = .ok (.ireturn, 1) := by decide +kernel
theorem dX7_oneOf_0 : decode cX7_oneOf 0 = .ok (.iload_n 0, 1) := by decide +kernel
theorem dX7_oneOf_1 : decode cX7_oneOf 1 = .ok (.bipush 42, 2) := by decide +kernel
theorem dX7_oneOf_3 : decode cX7_oneOf 3 = .ok (.if_icmp .ge 18, 3) := by decide +kernel
theorem dX7_oneOf_6 : decode cX7_oneOf 6 = .ok (.iload_n 0, 1) := by decide +kernel
theorem dX7_oneOf_7 : decode cX7_oneOf 7 = .ok (.bipush 7, 2) := by decide +kernel
theorem dX7_oneOf_9 : decode cX7_oneOf 9 = .ok (.idiv, 1) := by decide +kernel
theorem dX7_oneOf_10 : decode cX7_oneOf 10 = .ok (.bipush 8, 2) := by decide +kernel
theorem dX7_oneOf_12 : decode cX7_oneOf 12 = .ok (.imul, 1) := by decide +kernel
theorem dX7_oneOf_13 : decode cX7_oneOf 13 = .ok (.iload_n 0, 1) := by decide +kernel
theorem dX7_oneOf_14 : decode cX7_oneOf 14 = .ok (.bipush 7, 2) := by decide +kernel
theorem dX7_oneOf_16 : decode cX7_oneOf 16 = .ok (.irem, 1) := by decide +kernel
theorem dX7_oneOf_17 : decode cX7_oneOf 17 = .ok (.iadd, 1) := by decide +kernel
theorem dX7_oneOf_18 : decode cX7_oneOf 18 = .ok (.goto 7, 3) := by decide +kernel
theorem dX7_oneOf_21 : decode cX7_oneOf 21 = .ok (.iload_n 0, 1) := by decide +kernel
theorem dX7_oneOf_22 : decode cX7_oneOf 22 = .ok (.bipush 42, 2) := by decide +kernel
theorem dX7_oneOf_24 : decode cX7_oneOf 24 = .ok (.isub, 1) := by decide +kernel
theorem dX7_oneOf_25 : decode cX7_oneOf 25 = .ok (.ireturn, 1) := by decide +kernel
theorem dX7_otherOf_0 : decode cX7_otherOf 0 = .ok (.iload_n 0, 1) := by decide +kernel
theorem dX7_otherOf_1 : decode cX7_otherOf 1 = .ok (.invokestatic 54, 3) := by decide +kernel
theorem dX7_otherOf_4 : decode cX7_otherOf 4 = .ok (.iload_n 0, 1) := by decide +kernel
theorem dX7_otherOf_5 : decode cX7_otherOf 5 = .ok (.bipush 42, 2) := by decide +kernel
theorem dX7_otherOf_7 : decode cX7_otherOf 7 = .ok (.if_icmp .ge 7, 3) := by decide +kernel
theorem dX7_otherOf_10 : decode cX7_otherOf 10 = .ok (.iconst 1, 1) := by decide +kernel
theorem dX7_otherOf_11 : decode cX7_otherOf 11 = .ok (.goto 5, 3) := by decide +kernel
theorem dX7_otherOf_14 : decode cX7_otherOf 14 = .ok (.bipush 8, 2) := by decide +kernel
theorem dX7_otherOf_16 : decode cX7_otherOf 16 = .ok (.iadd, 1) := by decide +kernel
theorem dX7_otherOf_17 : decode cX7_otherOf 17 = .ok (.ireturn, 1) := by decide +kernel
theorem dX7_mark_0 : decode cX7_mark 0 = .ok (.iconst 0, 1) := by decide +kernel
theorem dX7_mark_1 : decode cX7_mark 1 = .ok (.istore_n 2, 1) := by decide +kernel
theorem dX7_mark_2 : decode cX7_mark 2 = .ok (.iload_n 2, 1) := by decide +kernel
theorem dX7_mark_3 : decode cX7_mark 3 = .ok (.bipush 48, 2) := by decide +kernel
theorem dX7_mark_5 : decode cX7_mark 5 = .ok (.if_icmp .ge 25, 3) := by decide +kernel
theorem dX7_mark_8 : decode cX7_mark 8 = .ok (.aload_n 0, 1) := by decide +kernel
theorem dX7_mark_9 : decode cX7_mark 9 = .ok (.getfield 35, 3) := by decide +kernel
theorem dX7_mark_12 : decode cX7_mark 12 = .ok (.iload_n 2, 1) := by decide +kernel
theorem dX7_mark_13 : decode cX7_mark 13 = .ok (.iload_n 2, 1) := by decide +kernel
theorem dX7_mark_14 : decode cX7_mark 14 = .ok (.iload_n 1, 1) := by decide +kernel
theorem dX7_mark_15 : decode cX7_mark 15 = .ok (.if_icmp .ne 7, 3) := by decide +kernel
theorem dX7_mark_18 : decode cX7_mark 18 = .ok (.iconst 1, 1) := by decide +kernel
theorem dX7_mark_19 : decode cX7_mark 19 = .ok (.goto 4, 3) := by decide +kernel
theorem dX7_mark_22 : decode cX7_mark 22 = .ok (.iconst 0, 1) := by decide +kernel
theorem dX7_mark_23 : decode cX7_mark 23 = .ok (.bastore, 1) := by decide +kernel
theorem dX7_mark_24 : decode cX7_mark 24 = .ok (.iinc 2 1, 3) := by decide +kernel
theorem dX7_mark_27 : decode cX7_mark 27 = .ok (.goto (-25), 3) := by decide +kernel
theorem dX7_mark_30 : decode cX7_mark 30 = .ok (.iconst 1, 1) := by decide +kernel
theorem dX7_mark_31 : decode cX7_mark 31 = .ok (.istore_n 2, 1) := by decide +kernel
theorem dX7_mark_32 : decode cX7_mark 32 = .ok (.iload_n 2, 1) := by decide +kernel
theorem dX7_mark_33 : decode cX7_mark 33 = .ok (.ifCond .eq 89, 3) := by decide +kernel
theorem dX7_mark_36 : decode cX7_mark 36 = .ok (.iconst 0, 1) := by decide +kernel
theorem dX7_mark_37 : decode cX7_mark 37 = .ok (.istore_n 2, 1) := by decide +kernel
theorem dX7_mark_38 : decode cX7_mark 38 = .ok (.iconst 0, 1) := by decide +kernel
theorem dX7_mark_39 : decode cX7_mark 39 = .ok (.istore_n 3, 1) := by decide +kernel
theorem dX7_mark_40 : decode cX7_mark 40 = .ok (.iload_n 3, 1) := by decide +kernel
theorem dX7_mark_41 : decode cX7_mark 41 = .ok (.bipush 82, 2) := by decide +kernel
theorem dX7_mark_43 : decode cX7_mark 43 = .ok (.if_icmp .ge 76, 3) := by decide +kernel
theorem dX7_mark_46 : decode cX7_mark 46 = .ok (.aload_n 0, 1) := by decide +kernel
theorem dX7_mark_47 : decode cX7_mark 47 = .ok (.getfield 7, 3) := by decide +kernel
theorem dX7_mark_50 : decode cX7_mark 50 = .ok (.bipush 12, 2) := by decide +kernel
theorem dX7_mark_52 : decode cX7_mark 52 = .ok (.iload_n 3, 1) := by decide +kernel
theorem dX7_mark_53 : decode cX7_mark 53 = .ok (.iadd, 1) := by decide +kernel
theorem dX7_mark_54 : decode cX7_mark 54 = .ok (.iaload, 1) := by decide +kernel
theorem dX7_mark_55 : decode cX7_mark 55 = .ok (.ifCond .ne 28, 3) := by decide +kernel
theorem dX7_mark_58 : decode cX7_mark 58 = .ok (.aload_n 0, 1) := by decide +kernel
theorem dX7_mark_59 : decode cX7_mark 59 = .ok (.getfield 35, 3) := by decide +kernel
theorem dX7_mark_62 : decode cX7_mark 62 = .ok (.iload_n 3, 1) := by decide +kernel
theorem dX7_mark_63 : decode cX7_mark 63 = .ok (.invokestatic 54, 3) := by decide +kernel
theorem dX7_mark_66 : decode cX7_mark 66 = .ok (.baload, 1) := by decide +kernel
theorem dX7_mark_67 : decode cX7_mark 67 = .ok (.aload_n 0, 1) := by decide +kernel
theorem dX7_mark_68 : decode cX7_mark 68 = .ok (.getfield 35, 3) := by decide +kernel
theorem dX7_mark_71 : decode cX7_mark 71 = .ok (.iload_n 3, 1) := by decide +kernel
theorem dX7_mark_72 : decode cX7_mark 72 = .ok (.invokestatic 58, 3) := by decide +kernel
theorem dX7_mark_75 : decode cX7_mark 75 = .ok (.baload, 1) := by decide +kernel
theorem dX7_mark_76 : decode cX7_mark 76 = .ok (.if_icmp .eq 7, 3) := by decide +kernel
theorem dX7_mark_79 : decode cX7_mark 79 = .ok (.iconst 1, 1) := by decide +kernel
theorem dX7_mark_80 : decode cX7_mark 80 = .ok (.goto 4, 3) := by decide +kernel
theorem dX7_mark_83 : decode cX7_mark 83 = .ok (.iconst 0, 1) := by decide +kernel
theorem dX7_mark_84 : decode cX7_mark 84 = .ok (.istore 4, 2) := by decide +kernel
theorem dX7_mark_86 : decode cX7_mark 86 = .ok (.iload 4, 2) := by decide +kernel
theorem dX7_mark_88 : decode cX7_mark 88 = .ok (.ifCond .eq 25, 3) := by decide +kernel
theorem dX7_mark_91 : decode cX7_mark 91 = .ok (.aload_n 0, 1) := by decide +kernel
theorem dX7_mark_92 : decode cX7_mark 92 = .ok (.getfield 35, 3) := by decide +kernel
theorem dX7_mark_95 : decode cX7_mark 95 = .ok (.iload_n 3, 1) := by decide +kernel
theorem dX7_mark_96 : decode cX7_mark 96 = .ok (.invokestatic 54, 3) := by decide +kernel
theorem dX7_mark_99 : decode cX7_mark 99 = .ok (.iconst 1, 1) := by decide +kernel
theorem dX7_mark_100 : decode cX7_mark 100 = .ok (.bastore, 1) := by decide +kernel
theorem dX7_mark_101 : decode cX7_mark 101 = .ok (.aload_n 0, 1) := by decide +kernel
theorem dX7_mark_102 : decode cX7_mark 102 = .ok (.getfield 35, 3) := by decide +kernel
theorem dX7_mark_105 : decode cX7_mark 105 = .ok (.iload_n 3, 1) := by decide +kernel
theorem dX7_mark_106 : decode cX7_mark 106 = .ok (.invokestatic 58, 3) := by decide +kernel
theorem dX7_mark_109 : decode cX7_mark 109 = .ok (.iconst 1, 1) := by decide +kernel
theorem dX7_mark_110 : decode cX7_mark 110 = .ok (.bastore, 1) := by decide +kernel
theorem dX7_mark_111 : decode cX7_mark 111 = .ok (.iconst 1, 1) := by decide +kernel
theorem dX7_mark_112 : decode cX7_mark 112 = .ok (.istore_n 2, 1) := by decide +kernel
theorem dX7_mark_113 : decode cX7_mark 113 = .ok (.iinc 3 1, 3) := by decide +kernel
theorem dX7_mark_116 : decode cX7_mark 116 = .ok (.goto (-76), 3) := by decide +kernel
theorem dX7_mark_119 : decode cX7_mark 119 = .ok (.goto (-87), 3) := by decide +kernel
theorem dX7_mark_122 : decode cX7_mark 122 = .ok (.iconst 0, 1) := by decide +kernel
theorem dX7_mark_123 : decode cX7_mark 123 = .ok (.istore_n 3, 1) := by decide +kernel
theorem dX7_mark_124 : decode cX7_mark 124 = .ok (.iconst 0, 1) := by decide +kernel
theorem dX7_mark_125 : decode cX7_mark 125 = .ok (.istore 4, 2) := by decide +kernel
theorem dX7_mark_127 : decode cX7_mark 127 = .ok (.iload 4, 2) := by decide +kernel
theorem dX7_mark_129 : decode cX7_mark 129 = .ok (.bipush 48, 2) := by decide +kernel
theorem dX7_mark_131 : decode cX7_mark 131 = .ok (.if_icmp .ge 27, 3) := by decide +kernel
theorem dX7_mark_134 : decode cX7_mark 134 = .ok (.iload_n 3, 1) := by decide +kernel
theorem dX7_mark_135 : decode cX7_mark 135 = .ok (.aload_n 0, 1) := by decide +kernel
theorem dX7_mark_136 : decode cX7_mark 136 = .ok (.getfield 35, 3) := by decide +kernel
theorem dX7_mark_139 : decode cX7_mark 139 = .ok (.iload 4, 2) := by decide +kernel
theorem dX7_mark_141 : decode cX7_mark 141 = .ok (.baload, 1) := by decide +kernel
theorem dX7_mark_142 : decode cX7_mark 142 = .ok (.ifCond .eq 7, 3) := by decide +kernel
theorem dX7_mark_145 : decode cX7_mark 145 = .ok (.iconst 1, 1) := by decide +kernel
theorem dX7_mark_146 : decode cX7_mark 146 = .ok (.goto 4, 3) := by decide +kernel
theorem dX7_mark_149 : decode cX7_mark 149 = .ok (.iconst 0, 1) := by decide +kernel
theorem dX7_mark_150 : decode cX7_mark 150 = .ok (.iadd, 1) := by decide +kernel
theorem dX7_mark_151 : decode cX7_mark 151 = .ok (.istore_n 3, 1) := by decide +kernel
theorem dX7_mark_152 : decode cX7_mark 152 = .ok (.iinc 4 1, 3) := by decide +kernel
theorem dX7_mark_155 : decode cX7_mark 155 = .ok (.goto (-28), 3) := by decide +kernel
theorem dX7_mark_158 : decode cX7_mark 158 = .ok (.iload_n 3, 1) := by decide +kernel
theorem dX7_mark_159 : decode cX7_mark 159 = .ok (.ireturn, 1) := by decide +kernel
theorem dX7_freeIn_0 : decode cX7_freeIn 0 = .ok (.aload_n 0, 1) := by decide +kernel
theorem dX7_freeIn_1 : decode cX7_freeIn 1 = .ok (.iload_n 1, 1) := by decide +kernel
theorem dX7_freeIn_2 : decode cX7_freeIn 2 = .ok (.invokevirtual 61, 3) := by decide +kernel
theorem dX7_freeIn_5 : decode cX7_freeIn 5 = .ok (.istore_n 2, 1) := by decide +kernel
theorem dX7_freeIn_6 : decode cX7_freeIn 6 = .ok (.iconst 0, 1) := by decide +kernel
theorem dX7_freeIn_7 : decode cX7_freeIn 7 = .ok (.istore_n 3, 1) := by decide +kernel
theorem dX7_freeIn_8 : decode cX7_freeIn 8 = .ok (.iconst 0, 1) := by decide +kernel
theorem dX7_freeIn_9 : decode cX7_freeIn 9 = .ok (.istore 4, 2) := by decide +kernel
theorem dX7_freeIn_11 : decode cX7_freeIn 11 = .ok (.iload 4, 2) := by decide +kernel
theorem dX7_freeIn_13 : decode cX7_freeIn 13 = .ok (.bipush 48, 2) := by decide +kernel
theorem dX7_freeIn_15 : decode cX7_freeIn 15 = .ok (.if_icmp .ge 42, 3) := by decide +kernel
theorem dX7_freeIn_18 : decode cX7_freeIn 18 = .ok (.iload_n 3, 1) := by decide +kernel
theorem dX7_freeIn_19 : decode cX7_freeIn 19 = .ok (.aload_n 0, 1) := by decide +kernel
theorem dX7_freeIn_20 : decode cX7_freeIn 20 = .ok (.getfield 35, 3) := by decide +kernel
theorem dX7_freeIn_23 : decode cX7_freeIn 23 = .ok (.iload 4, 2) := by decide +kernel
theorem dX7_freeIn_25 : decode cX7_freeIn 25 = .ok (.baload, 1) := by decide +kernel
theorem dX7_freeIn_26 : decode cX7_freeIn 26 = .ok (.ifCond .eq 22, 3) := by decide +kernel
theorem dX7_freeIn_29 : decode cX7_freeIn 29 = .ok (.aload_n 0, 1) := by decide +kernel
theorem dX7_freeIn_30 : decode cX7_freeIn 30 = .ok (.getfield 7, 3) := by decide +kernel
theorem dX7_freeIn_33 : decode cX7_freeIn 33 = .ok (.bipush 94, 2) := by decide +kernel
theorem dX7_freeIn_35 : decode cX7_freeIn 35 = .ok (.iload 4, 2) := by decide +kernel
theorem dX7_freeIn_37 : decode cX7_freeIn 37 = .ok (.iadd, 1) := by decide +kernel
theorem dX7_freeIn_38 : decode cX7_freeIn 38 = .ok (.iaload, 1) := by decide +kernel
theorem dX7_freeIn_39 : decode cX7_freeIn 39 = .ok (.bipush (-5), 2) := by decide +kernel
theorem dX7_freeIn_41 : decode cX7_freeIn 41 = .ok (.if_icmp .ne 7, 3) := by decide +kernel
theorem dX7_freeIn_44 : decode cX7_freeIn 44 = .ok (.iconst 1, 1) := by decide +kernel
theorem dX7_freeIn_45 : decode cX7_freeIn 45 = .ok (.goto 4, 3) := by decide +kernel
theorem dX7_freeIn_48 : decode cX7_freeIn 48 = .ok (.iconst 0, 1) := by decide +kernel
theorem dX7_freeIn_49 : decode cX7_freeIn 49 = .ok (.iadd, 1) := by decide +kernel
theorem dX7_freeIn_50 : decode cX7_freeIn 50 = .ok (.istore_n 3, 1) := by decide +kernel
theorem dX7_freeIn_51 : decode cX7_freeIn 51 = .ok (.iinc 4 1, 3) := by decide +kernel
theorem dX7_freeIn_54 : decode cX7_freeIn 54 = .ok (.goto (-43), 3) := by decide +kernel
theorem dX7_freeIn_57 : decode cX7_freeIn 57 = .ok (.iload_n 3, 1) := by decide +kernel
theorem dX7_freeIn_58 : decode cX7_freeIn 58 = .ok (.ireturn, 1) := by decide +kernel
theorem dX7_lowestIn_0 : decode cX7_lowestIn 0 = .ok (.aload_n 0, 1) := by decide +kernel
theorem dX7_lowestIn_1 : decode cX7_lowestIn 1 = .ok (.iload_n 1, 1) := by decide +kernel
theorem dX7_lowestIn_2 : decode cX7_lowestIn 2 = .ok (.invokevirtual 61, 3) := by decide +kernel
theorem dX7_lowestIn_5 : decode cX7_lowestIn 5 = .ok (.istore_n 2, 1) := by decide +kernel
theorem dX7_lowestIn_6 : decode cX7_lowestIn 6 = .ok (.iconst 0, 1) := by decide +kernel
theorem dX7_lowestIn_7 : decode cX7_lowestIn 7 = .ok (.istore_n 3, 1) := by decide +kernel
theorem dX7_lowestIn_8 : decode cX7_lowestIn 8 = .ok (.aload_n 0, 1) := by decide +kernel
theorem dX7_lowestIn_9 : decode cX7_lowestIn 9 = .ok (.getfield 35, 3) := by decide +kernel
theorem dX7_lowestIn_12 : decode cX7_lowestIn 12 = .ok (.iload_n 3, 1) := by decide +kernel
theorem dX7_lowestIn_13 : decode cX7_lowestIn 13 = .ok (.baload, 1) := by decide +kernel
theorem dX7_lowestIn_14 : decode cX7_lowestIn 14 = .ok (.ifCond .ne 9, 3) := by decide +kernel
theorem dX7_lowestIn_17 : decode cX7_lowestIn 17 = .ok (.iinc 3 1, 3) := by decide +kernel
theorem dX7_lowestIn_20 : decode cX7_lowestIn 20 = .ok (.goto (-12), 3) := by decide +kernel
theorem dX7_lowestIn_23 : decode cX7_lowestIn 23 = .ok (.iload_n 3, 1) := by decide +kernel
theorem dX7_lowestIn_24 : decode cX7_lowestIn 24 = .ok (.ireturn, 1) := by decide +kernel
theorem dX7_isTruce_0 : decode cX7_isTruce 0 = .ok (.aload_n 0, 1) := by decide +kernel
theorem dX7_isTruce_1 : decode cX7_isTruce 1 = .ok (.getfield 7, 3) := by decide +kernel
theorem dX7_isTruce_4 : decode cX7_isTruce 4 = .ok (.iconst 0, 1) := by decide +kernel
theorem dX7_isTruce_5 : decode cX7_isTruce 5 = .ok (.iaload, 1) := by decide +kernel
theorem dX7_isTruce_6 : decode cX7_isTruce 6 = .ok (.aload_n 0, 1) := by decide +kernel
theorem dX7_isTruce_7 : decode cX7_isTruce 7 = .ok (.getfield 7, 3) := by decide +kernel
theorem dX7_isTruce_10 : decode cX7_isTruce 10 = .ok (.bipush 6, 2) := by decide +kernel
theorem dX7_isTruce_12 : decode cX7_isTruce 12 = .ok (.iaload, 1) := by decide +kernel
theorem dX7_isTruce_13 : decode cX7_isTruce 13 = .ok (.if_icmp .ge 23, 3) := by decide +kernel
theorem dX7_isTruce_16 : decode cX7_isTruce 16 = .ok (.aload_n 0, 1) := by decide +kernel
theorem dX7_isTruce_17 : decode cX7_isTruce 17 = .ok (.getfield 7, 3) := by decide +kernel
theorem dX7_isTruce_20 : decode cX7_isTruce 20 = .ok (.iconst 0, 1) := by decide +kernel
theorem dX7_isTruce_21 : decode cX7_isTruce 21 = .ok (.iaload, 1) := by decide +kernel
theorem dX7_isTruce_22 : decode cX7_isTruce 22 = .ok (.aload_n 0, 1) := by decide +kernel
theorem dX7_isTruce_23 : decode cX7_isTruce 23 = .ok (.getfield 7, 3) := by decide +kernel
theorem dX7_isTruce_26 : decode cX7_isTruce 26 = .ok (.bipush 7, 2) := by decide +kernel
theorem dX7_isTruce_28 : decode cX7_isTruce 28 = .ok (.iaload, 1) := by decide +kernel
theorem dX7_isTruce_29 : decode cX7_isTruce 29 = .ok (.if_icmp .ge 7, 3) := by decide +kernel
theorem dX7_isTruce_32 : decode cX7_isTruce 32 = .ok (.iconst 1, 1) := by decide +kernel
theorem dX7_isTruce_33 : decode cX7_isTruce 33 = .ok (.goto 4, 3) := by decide +kernel
theorem dX7_isTruce_36 : decode cX7_isTruce 36 = .ok (.iconst 0, 1) := by decide +kernel
theorem dX7_isTruce_37 : decode cX7_isTruce 37 = .ok (.ireturn, 1) := by decide +kernel
theorem dX7_whyEdge_0 : decode cX7_whyEdge 0 = .ok (.aload_n 0, 1) := by decide +kernel
theorem dX7_whyEdge_1 : decode cX7_whyEdge 1 = .ok (.getfield 7, 3) := by decide +kernel
theorem dX7_whyEdge_4 : decode cX7_whyEdge 4 = .ok (.bipush 12, 2) := by decide +kernel
theorem dX7_whyEdge_6 : decode cX7_whyEdge 6 = .ok (.iload_n 2, 1) := by decide +kernel
theorem dX7_whyEdge_7 : decode cX7_whyEdge 7 = .ok (.iadd, 1) := by decide +kernel
theorem dX7_whyEdge_8 : decode cX7_whyEdge 8 = .ok (.iaload, 1) := by decide +kernel
theorem dX7_whyEdge_9 : decode cX7_whyEdge 9 = .ok (.istore_n 3, 1) := by decide +kernel
theorem dX7_whyEdge_10 : decode cX7_whyEdge 10 = .ok (.iload_n 1, 1) := by decide +kernel
theorem dX7_whyEdge_11 : decode cX7_whyEdge 11 = .ok (.ifCond .ne 13, 3) := by decide +kernel
theorem dX7_whyEdge_14 : decode cX7_whyEdge 14 = .ok (.iload_n 3, 1) := by decide +kernel
theorem dX7_whyEdge_15 : decode cX7_whyEdge 15 = .ok (.ifCond .le 7, 3) := by decide +kernel
theorem dX7_whyEdge_18 : decode cX7_whyEdge 18 = .ok (.iconst 1, 1) := by decide +kernel
theorem dX7_whyEdge_19 : decode cX7_whyEdge 19 = .ok (.goto 4, 3) := by decide +kernel
theorem dX7_whyEdge_22 : decode cX7_whyEdge 22 = .ok (.iconst 0, 1) := by decide +kernel
theorem dX7_whyEdge_23 : decode cX7_whyEdge 23 = .ok (.ireturn, 1) := by decide +kernel
theorem dX7_whyEdge_24 : decode cX7_whyEdge 24 = .ok (.iload_n 3, 1) := by decide +kernel
theorem dX7_whyEdge_25 : decode cX7_whyEdge 25 = .ok (.ifCond .eq 8, 3) := by decide +kernel
theorem dX7_whyEdge_28 : decode cX7_whyEdge 28 = .ok (.iload_n 3, 1) := by decide +kernel
theorem dX7_whyEdge_29 : decode cX7_whyEdge 29 = .ok (.iconst 3, 1) := by decide +kernel
theorem dX7_whyEdge_30 : decode cX7_whyEdge 30 = .ok (.if_icmp .ne 7, 3) := by decide +kernel
theorem dX7_whyEdge_33 : decode cX7_whyEdge 33 = .ok (.iconst 2, 1) := by decide +kernel
theorem dX7_whyEdge_34 : decode cX7_whyEdge 34 = .ok (.goto 15, 3) := by decide +kernel
theorem dX7_whyEdge_37 : decode cX7_whyEdge 37 = .ok (.aload_n 0, 1) := by decide +kernel
theorem dX7_whyEdge_38 : decode cX7_whyEdge 38 = .ok (.invokevirtual 64, 3) := by decide +kernel
theorem dX7_whyEdge_41 : decode cX7_whyEdge 41 = .ok (.ifCond .eq 7, 3) := by decide +kernel
theorem dX7_whyEdge_44 : decode cX7_whyEdge 44 = .ok (.iconst 3, 1) := by decide +kernel
theorem dX7_whyEdge_45 : decode cX7_whyEdge 45 = .ok (.goto 4, 3) := by decide +kernel
theorem dX7_whyEdge_48 : decode cX7_whyEdge 48 = .ok (.iconst 0, 1) := by decide +kernel
theorem dX7_whyEdge_49 : decode cX7_whyEdge 49 = .ok (.ireturn, 1) := by decide +kernel
theorem dX7_whyClaim_0 : decode cX7_whyClaim 0 = .ok (.aload_n 0, 1) := by decide +kernel
theorem dX7_whyClaim_1 : decode cX7_whyClaim 1 = .ok (.getfield 7, 3) := by decide +kernel
theorem dX7_whyClaim_4 : decode cX7_whyClaim 4 = .ok (.bipush 94, 2) := by decide +kernel
theorem dX7_whyClaim_6 : decode cX7_whyClaim 6 = .ok (.iload_n 1, 1) := by decide +kernel
theorem dX7_whyClaim_7 : decode cX7_whyClaim 7 = .ok (.iadd, 1) := by decide +kernel
theorem dX7_whyClaim_8 : decode cX7_whyClaim 8 = .ok (.iaload, 1) := by decide +kernel
theorem dX7_whyClaim_9 : decode cX7_whyClaim 9 = .ok (.bipush (-5), 2) := by decide +kernel
theorem dX7_whyClaim_11 : decode cX7_whyClaim 11 = .ok (.if_icmp .eq 7, 3) := by decide +kernel
theorem dX7_whyClaim_14 : decode cX7_whyClaim 14 = .ok (.iconst 4, 1) := by decide +kernel
theorem dX7_whyClaim_15 : decode cX7_whyClaim 15 = .ok (.goto 22, 3) := by decide +kernel
theorem dX7_whyClaim_18 : decode cX7_whyClaim 18 = .ok (.aload_n 0, 1) := by decide +kernel
theorem dX7_whyClaim_19 : decode cX7_whyClaim 19 = .ok (.iload_n 1, 1) := by decide +kernel
theorem dX7_whyClaim_20 : decode cX7_whyClaim 20 = .ok (.invokevirtual 61, 3) := by decide +kernel
theorem dX7_whyClaim_23 : decode cX7_whyClaim 23 = .ok (.aload_n 0, 1) := by decide +kernel
theorem dX7_whyClaim_24 : decode cX7_whyClaim 24 = .ok (.getfield 7, 3) := by decide +kernel
theorem dX7_whyClaim_27 : decode cX7_whyClaim 27 = .ok (.iconst 5, 1) := by decide +kernel
theorem dX7_whyClaim_28 : decode cX7_whyClaim 28 = .ok (.iaload, 1) := by decide +kernel
theorem dX7_whyClaim_29 : decode cX7_whyClaim 29 = .ok (.if_icmp .le 7, 3) := by decide +kernel
theorem dX7_whyClaim_32 : decode cX7_whyClaim 32 = .ok (.iconst 5, 1) := by decide +kernel
theorem dX7_whyClaim_33 : decode cX7_whyClaim 33 = .ok (.goto 4, 3) := by decide +kernel
theorem dX7_whyClaim_36 : decode cX7_whyClaim 36 = .ok (.iconst 0, 1) := by decide +kernel
theorem dX7_whyClaim_37 : decode cX7_whyClaim 37 = .ok (.ireturn, 1) := by decide +kernel
theorem dX7_isTaken_0 : decode cX7_isTaken 0 = .ok (.aload_n 0, 1) := by decide +kernel
theorem dX7_isTaken_1 : decode cX7_isTaken 1 = .ok (.getfield 7, 3) := by decide +kernel
theorem dX7_isTaken_4 : decode cX7_isTaken 4 = .ok (.bipush 10, 2) := by decide +kernel
theorem dX7_isTaken_6 : decode cX7_isTaken 6 = .ok (.iload_n 1, 1) := by decide +kernel
theorem dX7_isTaken_7 : decode cX7_isTaken 7 = .ok (.bipush 24, 2) := by decide +kernel
theorem dX7_isTaken_9 : decode cX7_isTaken 9 = .ok (.idiv, 1) := by decide +kernel
theorem dX7_isTaken_10 : decode cX7_isTaken 10 = .ok (.iadd, 1) := by decide +kernel
theorem dX7_isTaken_11 : decode cX7_isTaken 11 = .ok (.iaload, 1) := by decide +kernel
theorem dX7_isTaken_12 : decode cX7_isTaken 12 = .ok (.iload_n 1, 1) := by decide +kernel
theorem dX7_isTaken_13 : decode cX7_isTaken 13 = .ok (.bipush 24, 2) := by decide +kernel
theorem dX7_isTaken_15 : decode cX7_isTaken 15 = .ok (.irem, 1) := by decide +kernel
theorem dX7_isTaken_16 : decode cX7_isTaken 16 = .ok (.ishr, 1) := by decide +kernel
theorem dX7_isTaken_17 : decode cX7_isTaken 17 = .ok (.iconst 1, 1) := by decide +kernel
theorem dX7_isTaken_18 : decode cX7_isTaken 18 = .ok (.iand, 1) := by decide +kernel
theorem dX7_isTaken_19 : decode cX7_isTaken 19 = .ok (.iconst 1, 1) := by decide +kernel
theorem dX7_isTaken_20 : decode cX7_isTaken 20 = .ok (.if_icmp .ne 7, 3) := by decide +kernel
theorem dX7_isTaken_23 : decode cX7_isTaken 23 = .ok (.iconst 1, 1) := by decide +kernel
theorem dX7_isTaken_24 : decode cX7_isTaken 24 = .ok (.goto 4, 3) := by decide +kernel
theorem dX7_isTaken_27 : decode cX7_isTaken 27 = .ok (.iconst 0, 1) := by decide +kernel
theorem dX7_isTaken_28 : decode cX7_isTaken 28 = .ok (.ireturn, 1) := by decide +kernel
theorem dX7_forgetsTaken_0 : decode cX7_forgetsTaken 0 = .ok (.aload_n 0, 1) := by decide +kernel
theorem dX7_forgetsTaken_1 : decode cX7_forgetsTaken 1 = .ok (.getfield 7, 3) := by decide +kernel
theorem dX7_forgetsTaken_4 : decode cX7_forgetsTaken 4 = .ok (.bipush 10, 2) := by decide +kernel
theorem dX7_forgetsTaken_6 : decode cX7_forgetsTaken 6 = .ok (.iconst 0, 1) := by decide +kernel
theorem dX7_forgetsTaken_7 : decode cX7_forgetsTaken 7 = .ok (.iastore, 1) := by decide +kernel
theorem dX7_forgetsTaken_8 : decode cX7_forgetsTaken 8 = .ok (.aload_n 0, 1) := by decide +kernel
theorem dX7_forgetsTaken_9 : decode cX7_forgetsTaken 9 = .ok (.getfield 7, 3) := by decide +kernel
theorem dX7_forgetsTaken_12 : decode cX7_forgetsTaken 12 = .ok (.bipush 11, 2) := by decide +kernel
theorem dX7_forgetsTaken_14 : decode cX7_forgetsTaken 14 = .ok (.iconst 0, 1) := by decide +kernel
theorem dX7_forgetsTaken_15 : decode cX7_forgetsTaken 15 = .ok (.iastore, 1) := by decide +kernel
theorem dX7_forgetsTaken_16 : decode cX7_forgetsTaken 16 = .ok (.return_, 1) := by decide +kernel
theorem dX7_isSecond_0 : decode cX7_isSecond 0 = .ok (.aload_n 0, 1) := by decide +kernel
theorem dX7_isSecond_1 : decode cX7_isSecond 1 = .ok (.getfield 7, 3) := by decide +kernel
theorem dX7_isSecond_4 : decode cX7_isSecond 4 = .ok (.bipush 8, 2) := by decide +kernel
theorem dX7_isSecond_6 : decode cX7_isSecond 6 = .ok (.iaload, 1) := by decide +kernel
theorem dX7_isSecond_7 : decode cX7_isSecond 7 = .ok (.istore_n 2, 1) := by decide +kernel
theorem dX7_isSecond_8 : decode cX7_isSecond 8 = .ok (.iload_n 2, 1) := by decide +kernel
theorem dX7_isSecond_9 : decode cX7_isSecond 9 = .ok (.bipush (-5), 2) := by decide +kernel
theorem dX7_isSecond_11 : decode cX7_isSecond 11 = .ok (.if_icmp .eq 62, 3) := by decide +kernel
theorem dX7_isSecond_14 : decode cX7_isSecond 14 = .ok (.aload_n 0, 1) := by decide +kernel
theorem dX7_isSecond_15 : decode cX7_isSecond 15 = .ok (.getfield 7, 3) := by decide +kernel
theorem dX7_isSecond_18 : decode cX7_isSecond 18 = .ok (.bipush 9, 2) := by decide +kernel
theorem dX7_isSecond_20 : decode cX7_isSecond 20 = .ok (.iaload, 1) := by decide +kernel
theorem dX7_isSecond_21 : decode cX7_isSecond 21 = .ok (.ifCond .ne 52, 3) := by decide +kernel
theorem dX7_isSecond_24 : decode cX7_isSecond 24 = .ok (.aload_n 0, 1) := by decide +kernel
theorem dX7_isSecond_25 : decode cX7_isSecond 25 = .ok (.iload_n 2, 1) := by decide +kernel
theorem dX7_isSecond_26 : decode cX7_isSecond 26 = .ok (.iconst 0, 1) := by decide +kernel
theorem dX7_isSecond_27 : decode cX7_isSecond 27 = .ok (.invokevirtual 68, 3) := by decide +kernel
theorem dX7_isSecond_30 : decode cX7_isSecond 30 = .ok (.aload_n 0, 1) := by decide +kernel
theorem dX7_isSecond_31 : decode cX7_isSecond 31 = .ok (.iload_n 1, 1) := by decide +kernel
theorem dX7_isSecond_32 : decode cX7_isSecond 32 = .ok (.iconst 0, 1) := by decide +kernel
theorem dX7_isSecond_33 : decode cX7_isSecond 33 = .ok (.invokevirtual 68, 3) := by decide +kernel
theorem dX7_isSecond_36 : decode cX7_isSecond 36 = .ok (.if_icmp .eq 37, 3) := by decide +kernel
theorem dX7_isSecond_39 : decode cX7_isSecond 39 = .ok (.aload_n 0, 1) := by decide +kernel
theorem dX7_isSecond_40 : decode cX7_isSecond 40 = .ok (.iload_n 2, 1) := by decide +kernel
theorem dX7_isSecond_41 : decode cX7_isSecond 41 = .ok (.iconst 4, 1) := by decide +kernel
theorem dX7_isSecond_42 : decode cX7_isSecond 42 = .ok (.invokevirtual 68, 3) := by decide +kernel
theorem dX7_isSecond_45 : decode cX7_isSecond 45 = .ok (.aload_n 0, 1) := by decide +kernel
theorem dX7_isSecond_46 : decode cX7_isSecond 46 = .ok (.iload_n 1, 1) := by decide +kernel
theorem dX7_isSecond_47 : decode cX7_isSecond 47 = .ok (.iconst 5, 1) := by decide +kernel
theorem dX7_isSecond_48 : decode cX7_isSecond 48 = .ok (.invokevirtual 68, 3) := by decide +kernel
theorem dX7_isSecond_51 : decode cX7_isSecond 51 = .ok (.if_icmp .ge 22, 3) := by decide +kernel
theorem dX7_isSecond_54 : decode cX7_isSecond 54 = .ok (.aload_n 0, 1) := by decide +kernel
theorem dX7_isSecond_55 : decode cX7_isSecond 55 = .ok (.iload_n 1, 1) := by decide +kernel
theorem dX7_isSecond_56 : decode cX7_isSecond 56 = .ok (.iconst 4, 1) := by decide +kernel
theorem dX7_isSecond_57 : decode cX7_isSecond 57 = .ok (.invokevirtual 68, 3) := by decide +kernel
theorem dX7_isSecond_60 : decode cX7_isSecond 60 = .ok (.aload_n 0, 1) := by decide +kernel
theorem dX7_isSecond_61 : decode cX7_isSecond 61 = .ok (.iload_n 2, 1) := by decide +kernel
theorem dX7_isSecond_62 : decode cX7_isSecond 62 = .ok (.iconst 5, 1) := by decide +kernel
theorem dX7_isSecond_63 : decode cX7_isSecond 63 = .ok (.invokevirtual 68, 3) := by decide +kernel
theorem dX7_isSecond_66 : decode cX7_isSecond 66 = .ok (.if_icmp .ge 7, 3) := by decide +kernel
theorem dX7_isSecond_69 : decode cX7_isSecond 69 = .ok (.iconst 1, 1) := by decide +kernel
theorem dX7_isSecond_70 : decode cX7_isSecond 70 = .ok (.goto 4, 3) := by decide +kernel
theorem dX7_isSecond_73 : decode cX7_isSecond 73 = .ok (.iconst 0, 1) := by decide +kernel
theorem dX7_isSecond_74 : decode cX7_isSecond 74 = .ok (.istore_n 3, 1) := by decide +kernel
theorem dX7_isSecond_75 : decode cX7_isSecond 75 = .ok (.iload_n 3, 1) := by decide +kernel
theorem dX7_isSecond_76 : decode cX7_isSecond 76 = .ok (.ifCond .eq 48, 3) := by decide +kernel
theorem dX7_isSecond_79 : decode cX7_isSecond 79 = .ok (.aload_n 0, 1) := by decide +kernel
theorem dX7_isSecond_80 : decode cX7_isSecond 80 = .ok (.getfield 7, 3) := by decide +kernel
theorem dX7_isSecond_83 : decode cX7_isSecond 83 = .ok (.bipush 9, 2) := by decide +kernel
theorem dX7_isSecond_85 : decode cX7_isSecond 85 = .ok (.iconst 1, 1) := by decide +kernel
theorem dX7_isSecond_86 : decode cX7_isSecond 86 = .ok (.iastore, 1) := by decide +kernel
theorem dX7_isSecond_87 : decode cX7_isSecond 87 = .ok (.aload_n 0, 1) := by decide +kernel
theorem dX7_isSecond_88 : decode cX7_isSecond 88 = .ok (.getfield 7, 3) := by decide +kernel
theorem dX7_isSecond_91 : decode cX7_isSecond 91 = .ok (.iconst 3, 1) := by decide +kernel
theorem dX7_isSecond_92 : decode cX7_isSecond 92 = .ok (.dup2, 1) := by decide +kernel
theorem dX7_isSecond_93 : decode cX7_isSecond 93 = .ok (.iaload, 1) := by decide +kernel
theorem dX7_isSecond_94 : decode cX7_isSecond 94 = .ok (.iconst 1, 1) := by decide +kernel
theorem dX7_isSecond_95 : decode cX7_isSecond 95 = .ok (.iadd, 1) := by decide +kernel
theorem dX7_isSecond_96 : decode cX7_isSecond 96 = .ok (.iastore, 1) := by decide +kernel
theorem dX7_isSecond_97 : decode cX7_isSecond 97 = .ok (.aload_n 0, 1) := by decide +kernel
theorem dX7_isSecond_98 : decode cX7_isSecond 98 = .ok (.getfield 7, 3) := by decide +kernel
theorem dX7_isSecond_101 : decode cX7_isSecond 101 = .ok (.iload_n 2, 1) := by decide +kernel
theorem dX7_isSecond_102 : decode cX7_isSecond 102 = .ok (.bipush 9, 2) := by decide +kernel
theorem dX7_isSecond_104 : decode cX7_isSecond 104 = .ok (.invokestatic 43, 3) := by decide +kernel
theorem dX7_isSecond_107 : decode cX7_isSecond 107 = .ok (.iload_n 1, 1) := by decide +kernel
theorem dX7_isSecond_108 : decode cX7_isSecond 108 = .ok (.iastore, 1) := by decide +kernel
theorem dX7_isSecond_109 : decode cX7_isSecond 109 = .ok (.aload_n 0, 1) := by decide +kernel
theorem dX7_isSecond_110 : decode cX7_isSecond 110 = .ok (.getfield 7, 3) := by decide +kernel
theorem dX7_isSecond_113 : decode cX7_isSecond 113 = .ok (.iload_n 1, 1) := by decide +kernel
theorem dX7_isSecond_114 : decode cX7_isSecond 114 = .ok (.bipush 9, 2) := by decide +kernel
theorem dX7_isSecond_116 : decode cX7_isSecond 116 = .ok (.invokestatic 43, 3) := by decide +kernel
theorem dX7_isSecond_119 : decode cX7_isSecond 119 = .ok (.iload_n 2, 1) := by decide +kernel
theorem dX7_isSecond_120 : decode cX7_isSecond 120 = .ok (.iastore, 1) := by decide +kernel
theorem dX7_isSecond_121 : decode cX7_isSecond 121 = .ok (.goto 29, 3) := by decide +kernel
theorem dX7_isSecond_124 : decode cX7_isSecond 124 = .ok (.aload_n 0, 1) := by decide +kernel
theorem dX7_isSecond_125 : decode cX7_isSecond 125 = .ok (.getfield 7, 3) := by decide +kernel
theorem dX7_isSecond_128 : decode cX7_isSecond 128 = .ok (.iconst 2, 1) := by decide +kernel
theorem dX7_isSecond_129 : decode cX7_isSecond 129 = .ok (.dup2, 1) := by decide +kernel
theorem dX7_isSecond_130 : decode cX7_isSecond 130 = .ok (.iaload, 1) := by decide +kernel
theorem dX7_isSecond_131 : decode cX7_isSecond 131 = .ok (.iconst 1, 1) := by decide +kernel
theorem dX7_isSecond_132 : decode cX7_isSecond 132 = .ok (.iadd, 1) := by decide +kernel
theorem dX7_isSecond_133 : decode cX7_isSecond 133 = .ok (.iastore, 1) := by decide +kernel
theorem dX7_isSecond_134 : decode cX7_isSecond 134 = .ok (.aload_n 0, 1) := by decide +kernel
theorem dX7_isSecond_135 : decode cX7_isSecond 135 = .ok (.getfield 7, 3) := by decide +kernel
theorem dX7_isSecond_138 : decode cX7_isSecond 138 = .ok (.bipush 8, 2) := by decide +kernel
theorem dX7_isSecond_140 : decode cX7_isSecond 140 = .ok (.iload_n 1, 1) := by decide +kernel
theorem dX7_isSecond_141 : decode cX7_isSecond 141 = .ok (.iastore, 1) := by decide +kernel
theorem dX7_isSecond_142 : decode cX7_isSecond 142 = .ok (.aload_n 0, 1) := by decide +kernel
theorem dX7_isSecond_143 : decode cX7_isSecond 143 = .ok (.getfield 7, 3) := by decide +kernel
theorem dX7_isSecond_146 : decode cX7_isSecond 146 = .ok (.bipush 9, 2) := by decide +kernel
theorem dX7_isSecond_148 : decode cX7_isSecond 148 = .ok (.iconst 0, 1) := by decide +kernel
theorem dX7_isSecond_149 : decode cX7_isSecond 149 = .ok (.iastore, 1) := by decide +kernel
theorem dX7_isSecond_150 : decode cX7_isSecond 150 = .ok (.aload_n 0, 1) := by decide +kernel
theorem dX7_isSecond_151 : decode cX7_isSecond 151 = .ok (.getfield 7, 3) := by decide +kernel
theorem dX7_isSecond_154 : decode cX7_isSecond 154 = .ok (.iload_n 1, 1) := by decide +kernel
theorem dX7_isSecond_155 : decode cX7_isSecond 155 = .ok (.bipush 8, 2) := by decide +kernel
theorem dX7_isSecond_157 : decode cX7_isSecond 157 = .ok (.invokestatic 43, 3) := by decide +kernel
theorem dX7_isSecond_160 : decode cX7_isSecond 160 = .ok (.aload_n 0, 1) := by decide +kernel
theorem dX7_isSecond_161 : decode cX7_isSecond 161 = .ok (.getfield 7, 3) := by decide +kernel
theorem dX7_isSecond_164 : decode cX7_isSecond 164 = .ok (.iconst 2, 1) := by decide +kernel
theorem dX7_isSecond_165 : decode cX7_isSecond 165 = .ok (.iaload, 1) := by decide +kernel
theorem dX7_isSecond_166 : decode cX7_isSecond 166 = .ok (.iastore, 1) := by decide +kernel
theorem dX7_isSecond_167 : decode cX7_isSecond 167 = .ok (.iload_n 3, 1) := by decide +kernel
theorem dX7_isSecond_168 : decode cX7_isSecond 168 = .ok (.ireturn, 1) := by decide +kernel
theorem dX7_edgeOf_0 : decode cX7_edgeOf 0 = .ok (.bipush 12, 2) := by decide +kernel
theorem dX7_edgeOf_2 : decode cX7_edgeOf 2 = .ok (.aload_n 0, 1) := by decide +kernel
theorem dX7_edgeOf_3 : decode cX7_edgeOf 3 = .ok (.iload_n 1, 1) := by decide +kernel
theorem dX7_edgeOf_4 : decode cX7_edgeOf 4 = .ok (.iconst 2, 1) := by decide +kernel
theorem dX7_edgeOf_5 : decode cX7_edgeOf 5 = .ok (.invokevirtual 68, 3) := by decide +kernel
theorem dX7_edgeOf_8 : decode cX7_edgeOf 8 = .ok (.aload_n 0, 1) := by decide +kernel
theorem dX7_edgeOf_9 : decode cX7_edgeOf 9 = .ok (.iload_n 1, 1) := by decide +kernel
theorem dX7_edgeOf_10 : decode cX7_edgeOf 10 = .ok (.iconst 3, 1) := by decide +kernel
theorem dX7_edgeOf_11 : decode cX7_edgeOf 11 = .ok (.invokevirtual 68, 3) := by decide +kernel
theorem dX7_edgeOf_14 : decode cX7_edgeOf 14 = .ok (.invokestatic 71, 3) := by decide +kernel
theorem dX7_edgeOf_17 : decode cX7_edgeOf 17 = .ok (.iadd, 1) := by decide +kernel
theorem dX7_edgeOf_18 : decode cX7_edgeOf 18 = .ok (.ireturn, 1) := by decide +kernel
theorem dX7_does_0 : decode cX7_does 0 = .ok (.aload_n 0, 1) := by decide +kernel
theorem dX7_does_1 : decode cX7_does 1 = .ok (.iload_n 1, 1) := by decide +kernel
theorem dX7_does_2 : decode cX7_does 2 = .ok (.iconst 0, 1) := by decide +kernel
theorem dX7_does_3 : decode cX7_does 3 = .ok (.invokevirtual 68, 3) := by decide +kernel
theorem dX7_does_6 : decode cX7_does 6 = .ok (.istore_n 2, 1) := by decide +kernel
theorem dX7_does_7 : decode cX7_does 7 = .ok (.aload_n 0, 1) := by decide +kernel
theorem dX7_does_8 : decode cX7_does 8 = .ok (.iload_n 1, 1) := by decide +kernel
theorem dX7_does_9 : decode cX7_does 9 = .ok (.iconst 1, 1) := by decide +kernel
theorem dX7_does_10 : decode cX7_does 10 = .ok (.invokevirtual 68, 3) := by decide +kernel
theorem dX7_does_13 : decode cX7_does 13 = .ok (.istore_n 3, 1) := by decide +kernel
theorem dX7_does_14 : decode cX7_does 14 = .ok (.aload_n 0, 1) := by decide +kernel
theorem dX7_does_15 : decode cX7_does 15 = .ok (.iload_n 1, 1) := by decide +kernel
theorem dX7_does_16 : decode cX7_does 16 = .ok (.iconst 2, 1) := by decide +kernel
theorem dX7_does_17 : decode cX7_does 17 = .ok (.invokevirtual 68, 3) := by decide +kernel
theorem dX7_does_20 : decode cX7_does 20 = .ok (.istore 4, 2) := by decide +kernel
theorem dX7_does_22 : decode cX7_does 22 = .ok (.iload_n 3, 1) := by decide +kernel
theorem dX7_does_23 : decode cX7_does 23 = .ok (.iconst 3, 1) := by decide +kernel
theorem dX7_does_24 : decode cX7_does 24 = .ok (.if_icmp .ne 27, 3) := by decide +kernel
theorem dX7_does_27 : decode cX7_does 27 = .ok (.aload_n 0, 1) := by decide +kernel
theorem dX7_does_28 : decode cX7_does 28 = .ok (.getfield 7, 3) := by decide +kernel
theorem dX7_does_31 : decode cX7_does 31 = .ok (.bipush 6, 2) := by decide +kernel
theorem dX7_does_33 : decode cX7_does 33 = .ok (.iload_n 2, 1) := by decide +kernel
theorem dX7_does_34 : decode cX7_does 34 = .ok (.iadd, 1) := by decide +kernel
theorem dX7_does_35 : decode cX7_does 35 = .ok (.aload_n 0, 1) := by decide +kernel
theorem dX7_does_36 : decode cX7_does 36 = .ok (.getfield 7, 3) := by decide +kernel
theorem dX7_does_39 : decode cX7_does 39 = .ok (.iconst 0, 1) := by decide +kernel
theorem dX7_does_40 : decode cX7_does 40 = .ok (.iaload, 1) := by decide +kernel
theorem dX7_does_41 : decode cX7_does 41 = .ok (.aload_n 0, 1) := by decide +kernel
theorem dX7_does_42 : decode cX7_does 42 = .ok (.iload_n 1, 1) := by decide +kernel
theorem dX7_does_43 : decode cX7_does 43 = .ok (.iconst 3, 1) := by decide +kernel
theorem dX7_does_44 : decode cX7_does 44 = .ok (.invokevirtual 68, 3) := by decide +kernel
theorem dX7_does_47 : decode cX7_does 47 = .ok (.iadd, 1) := by decide +kernel
theorem dX7_does_48 : decode cX7_does 48 = .ok (.iastore, 1) := by decide +kernel
theorem dX7_does_49 : decode cX7_does 49 = .ok (.iconst 0, 1) := by decide +kernel
theorem dX7_does_50 : decode cX7_does 50 = .ok (.ireturn, 1) := by decide +kernel
theorem dX7_does_51 : decode cX7_does 51 = .ok (.iload_n 3, 1) := by decide +kernel
theorem dX7_does_52 : decode cX7_does 52 = .ok (.iconst 2, 1) := by decide +kernel
theorem dX7_does_53 : decode cX7_does 53 = .ok (.if_icmp .eq 70, 3) := by decide +kernel
theorem dX7_does_56 : decode cX7_does 56 = .ok (.aload_n 0, 1) := by decide +kernel
theorem dX7_does_57 : decode cX7_does 57 = .ok (.iload_n 3, 1) := by decide +kernel
theorem dX7_does_58 : decode cX7_does 58 = .ok (.iconst 1, 1) := by decide +kernel
theorem dX7_does_59 : decode cX7_does 59 = .ok (.if_icmp .ne 7, 3) := by decide +kernel
theorem dX7_does_62 : decode cX7_does 62 = .ok (.iconst 1, 1) := by decide +kernel
theorem dX7_does_63 : decode cX7_does 63 = .ok (.goto 4, 3) := by decide +kernel
theorem dX7_does_66 : decode cX7_does 66 = .ok (.iconst 0, 1) := by decide +kernel
theorem dX7_does_67 : decode cX7_does 67 = .ok (.aload_n 0, 1) := by decide +kernel
theorem dX7_does_68 : decode cX7_does 68 = .ok (.iload_n 1, 1) := by decide +kernel
theorem dX7_does_69 : decode cX7_does 69 = .ok (.invokevirtual 74, 3) := by decide +kernel
theorem dX7_does_72 : decode cX7_does 72 = .ok (.bipush 12, 2) := by decide +kernel
theorem dX7_does_74 : decode cX7_does 74 = .ok (.isub, 1) := by decide +kernel
theorem dX7_does_75 : decode cX7_does 75 = .ok (.invokevirtual 77, 3) := by decide +kernel
theorem dX7_does_78 : decode cX7_does 78 = .ok (.istore 5, 2) := by decide +kernel
theorem dX7_does_80 : decode cX7_does 80 = .ok (.aload_n 0, 1) := by decide +kernel
theorem dX7_does_81 : decode cX7_does 81 = .ok (.getfield 7, 3) := by decide +kernel
theorem dX7_does_84 : decode cX7_does 84 = .ok (.aload_n 0, 1) := by decide +kernel
theorem dX7_does_85 : decode cX7_does 85 = .ok (.iload_n 1, 1) := by decide +kernel
theorem dX7_does_86 : decode cX7_does 86 = .ok (.invokevirtual 74, 3) := by decide +kernel
theorem dX7_does_89 : decode cX7_does 89 = .ok (.iload 5, 2) := by decide +kernel
theorem dX7_does_91 : decode cX7_does 91 = .ok (.ifCond .le 16, 3) := by decide +kernel
theorem dX7_does_94 : decode cX7_does 94 = .ok (.aload_n 0, 1) := by decide +kernel
theorem dX7_does_95 : decode cX7_does 95 = .ok (.getfield 7, 3) := by decide +kernel
theorem dX7_does_98 : decode cX7_does 98 = .ok (.aload_n 0, 1) := by decide +kernel
theorem dX7_does_99 : decode cX7_does 99 = .ok (.iload_n 1, 1) := by decide +kernel
theorem dX7_does_100 : decode cX7_does 100 = .ok (.invokevirtual 74, 3) := by decide +kernel
theorem dX7_does_103 : decode cX7_does 103 = .ok (.iaload, 1) := by decide +kernel
theorem dX7_does_104 : decode cX7_does 104 = .ok (.goto 15, 3) := by decide +kernel
theorem dX7_does_107 : decode cX7_does 107 = .ok (.iload_n 3, 1) := by decide +kernel
theorem dX7_does_108 : decode cX7_does 108 = .ok (.iconst 1, 1) := by decide +kernel
theorem dX7_does_109 : decode cX7_does 109 = .ok (.if_icmp .ne 7, 3) := by decide +kernel
theorem dX7_does_112 : decode cX7_does 112 = .ok (.iconst 0, 1) := by decide +kernel
theorem dX7_does_113 : decode cX7_does 113 = .ok (.goto 6, 3) := by decide +kernel
theorem dX7_does_116 : decode cX7_does 116 = .ok (.iconst 1, 1) := by decide +kernel
theorem dX7_does_117 : decode cX7_does 117 = .ok (.iload_n 2, 1) := by decide +kernel
theorem dX7_does_118 : decode cX7_does 118 = .ok (.iadd, 1) := by decide +kernel
theorem dX7_does_119 : decode cX7_does 119 = .ok (.iastore, 1) := by decide +kernel
theorem dX7_does_120 : decode cX7_does 120 = .ok (.iload 5, 2) := by decide +kernel
theorem dX7_does_122 : decode cX7_does 122 = .ok (.ireturn, 1) := by decide +kernel
theorem dX7_does_123 : decode cX7_does 123 = .ok (.aload_n 0, 1) := by decide +kernel
theorem dX7_does_124 : decode cX7_does 124 = .ok (.iload 4, 2) := by decide +kernel
theorem dX7_does_126 : decode cX7_does 126 = .ok (.invokevirtual 81, 3) := by decide +kernel
theorem dX7_does_129 : decode cX7_does 129 = .ok (.istore 5, 2) := by decide +kernel
theorem dX7_does_131 : decode cX7_does 131 = .ok (.iconst 0, 1) := by decide +kernel
theorem dX7_does_132 : decode cX7_does 132 = .ok (.istore 6, 2) := by decide +kernel
theorem dX7_does_134 : decode cX7_does 134 = .ok (.iload 6, 2) := by decide +kernel
theorem dX7_does_136 : decode cX7_does 136 = .ok (.bipush 48, 2) := by decide +kernel
theorem dX7_does_138 : decode cX7_does 138 = .ok (.if_icmp .ge 73, 3) := by decide +kernel
theorem dX7_does_141 : decode cX7_does 141 = .ok (.iload 5, 2) := by decide +kernel
theorem dX7_does_143 : decode cX7_does 143 = .ok (.ifCond .ne 68, 3) := by decide +kernel
theorem dX7_does_146 : decode cX7_does 146 = .ok (.aload_n 0, 1) := by decide +kernel
theorem dX7_does_147 : decode cX7_does 147 = .ok (.getfield 35, 3) := by decide +kernel
theorem dX7_does_150 : decode cX7_does 150 = .ok (.iload 6, 2) := by decide +kernel
theorem dX7_does_152 : decode cX7_does 152 = .ok (.baload, 1) := by decide +kernel
theorem dX7_does_153 : decode cX7_does 153 = .ok (.ifCond .eq 52, 3) := by decide +kernel
theorem dX7_does_156 : decode cX7_does 156 = .ok (.aload_n 0, 1) := by decide +kernel
theorem dX7_does_157 : decode cX7_does 157 = .ok (.getfield 7, 3) := by decide +kernel
theorem dX7_does_160 : decode cX7_does 160 = .ok (.bipush 94, 2) := by decide +kernel
theorem dX7_does_162 : decode cX7_does 162 = .ok (.iload 6, 2) := by decide +kernel
theorem dX7_does_164 : decode cX7_does 164 = .ok (.iadd, 1) := by decide +kernel
theorem dX7_does_165 : decode cX7_does 165 = .ok (.iaload, 1) := by decide +kernel
theorem dX7_does_166 : decode cX7_does 166 = .ok (.bipush (-5), 2) := by decide +kernel
theorem dX7_does_168 : decode cX7_does 168 = .ok (.if_icmp .ne 37, 3) := by decide +kernel
theorem dX7_does_171 : decode cX7_does 171 = .ok (.aload_n 0, 1) := by decide +kernel
theorem dX7_does_172 : decode cX7_does 172 = .ok (.getfield 7, 3) := by decide +kernel
theorem dX7_does_175 : decode cX7_does 175 = .ok (.bipush 94, 2) := by decide +kernel
theorem dX7_does_177 : decode cX7_does 177 = .ok (.iload 6, 2) := by decide +kernel
theorem dX7_does_179 : decode cX7_does 179 = .ok (.iadd, 1) := by decide +kernel
theorem dX7_does_180 : decode cX7_does 180 = .ok (.iload_n 2, 1) := by decide +kernel
theorem dX7_does_181 : decode cX7_does 181 = .ok (.iastore, 1) := by decide +kernel
theorem dX7_does_182 : decode cX7_does 182 = .ok (.aload_n 0, 1) := by decide +kernel
theorem dX7_does_183 : decode cX7_does 183 = .ok (.getfield 7, 3) := by decide +kernel
theorem dX7_does_186 : decode cX7_does 186 = .ok (.bipush 10, 2) := by decide +kernel
theorem dX7_does_188 : decode cX7_does 188 = .ok (.iload 6, 2) := by decide +kernel
theorem dX7_does_190 : decode cX7_does 190 = .ok (.bipush 24, 2) := by decide +kernel
theorem dX7_does_192 : decode cX7_does 192 = .ok (.idiv, 1) := by decide +kernel
theorem dX7_does_193 : decode cX7_does 193 = .ok (.iadd, 1) := by decide +kernel
theorem dX7_does_194 : decode cX7_does 194 = .ok (.dup2, 1) := by decide +kernel
theorem dX7_does_195 : decode cX7_does 195 = .ok (.iaload, 1) := by decide +kernel
theorem dX7_does_196 : decode cX7_does 196 = .ok (.iconst 1, 1) := by decide +kernel
theorem dX7_does_197 : decode cX7_does 197 = .ok (.iload 6, 2) := by decide +kernel
theorem dX7_does_199 : decode cX7_does 199 = .ok (.bipush 24, 2) := by decide +kernel
theorem dX7_does_201 : decode cX7_does 201 = .ok (.irem, 1) := by decide +kernel
theorem dX7_does_202 : decode cX7_does 202 = .ok (.ishl, 1) := by decide +kernel
theorem dX7_does_203 : decode cX7_does 203 = .ok (.ior, 1) := by decide +kernel
theorem dX7_does_204 : decode cX7_does 204 = .ok (.iastore, 1) := by decide +kernel
theorem dX7_does_205 : decode cX7_does 205 = .ok (.iinc 6 1, 3) := by decide +kernel
theorem dX7_does_208 : decode cX7_does 208 = .ok (.goto (-74), 3) := by decide +kernel
theorem dX7_does_211 : decode cX7_does 211 = .ok (.iload 5, 2) := by decide +kernel
theorem dX7_does_213 : decode cX7_does 213 = .ok (.ireturn, 1) := by decide +kernel
theorem dX7_doesSecond_0 : decode cX7_doesSecond 0 = .ok (.aload_n 0, 1) := by decide +kernel
theorem dX7_doesSecond_1 : decode cX7_doesSecond 1 = .ok (.getfield 7, 3) := by decide +kernel
theorem dX7_doesSecond_4 : decode cX7_doesSecond 4 = .ok (.bipush 8, 2) := by decide +kernel
theorem dX7_doesSecond_6 : decode cX7_doesSecond 6 = .ok (.iaload, 1) := by decide +kernel
theorem dX7_doesSecond_7 : decode cX7_doesSecond 7 = .ok (.istore_n 2, 1) := by decide +kernel
theorem dX7_doesSecond_8 : decode cX7_doesSecond 8 = .ok (.aload_n 0, 1) := by decide +kernel
theorem dX7_doesSecond_9 : decode cX7_doesSecond 9 = .ok (.iload_n 1, 1) := by decide +kernel
theorem dX7_doesSecond_10 : decode cX7_doesSecond 10 = .ok (.iconst 1, 1) := by decide +kernel
theorem dX7_doesSecond_11 : decode cX7_doesSecond 11 = .ok (.invokevirtual 68, 3) := by decide +kernel
theorem dX7_doesSecond_14 : decode cX7_doesSecond 14 = .ok (.istore_n 3, 1) := by decide +kernel
theorem dX7_doesSecond_15 : decode cX7_doesSecond 15 = .ok (.iload_n 3, 1) := by decide +kernel
theorem dX7_doesSecond_16 : decode cX7_doesSecond 16 = .ok (.aload_n 0, 1) := by decide +kernel
theorem dX7_doesSecond_17 : decode cX7_doesSecond 17 = .ok (.iload_n 2, 1) := by decide +kernel
theorem dX7_doesSecond_18 : decode cX7_doesSecond 18 = .ok (.iconst 1, 1) := by decide +kernel
theorem dX7_doesSecond_19 : decode cX7_doesSecond 19 = .ok (.invokevirtual 68, 3) := by decide +kernel
theorem dX7_doesSecond_22 : decode cX7_doesSecond 22 = .ok (.if_icmp .ne 14, 3) := by decide +kernel
theorem dX7_doesSecond_25 : decode cX7_doesSecond 25 = .ok (.aload_n 0, 1) := by decide +kernel
theorem dX7_doesSecond_26 : decode cX7_doesSecond 26 = .ok (.iload_n 2, 1) := by decide +kernel
theorem dX7_doesSecond_27 : decode cX7_doesSecond 27 = .ok (.bipush 6, 2) := by decide +kernel
theorem dX7_doesSecond_29 : decode cX7_doesSecond 29 = .ok (.invokevirtual 68, 3) := by decide +kernel
theorem dX7_doesSecond_32 : decode cX7_doesSecond 32 = .ok (.iconst 1, 1) := by decide +kernel
theorem dX7_doesSecond_33 : decode cX7_doesSecond 33 = .ok (.if_icmp .eq 6, 3) := by decide +kernel
theorem dX7_doesSecond_36 : decode cX7_doesSecond 36 = .ok (.bipush (-5), 2) := by decide +kernel
theorem dX7_doesSecond_38 : decode cX7_doesSecond 38 = .ok (.ireturn, 1) := by decide +kernel
theorem dX7_doesSecond_39 : decode cX7_doesSecond 39 = .ok (.iload_n 3, 1) := by decide +kernel
theorem dX7_doesSecond_40 : decode cX7_doesSecond 40 = .ok (.ifCond .ne 50, 3) := by decide +kernel
theorem dX7_doesSecond_43 : decode cX7_doesSecond 43 = .ok (.aload_n 0, 1) := by decide +kernel
theorem dX7_doesSecond_44 : decode cX7_doesSecond 44 = .ok (.iload_n 1, 1) := by decide +kernel
theorem dX7_doesSecond_45 : decode cX7_doesSecond 45 = .ok (.invokevirtual 74, 3) := by decide +kernel
theorem dX7_doesSecond_48 : decode cX7_doesSecond 48 = .ok (.aload_n 0, 1) := by decide +kernel
theorem dX7_doesSecond_49 : decode cX7_doesSecond 49 = .ok (.iload_n 2, 1) := by decide +kernel
theorem dX7_doesSecond_50 : decode cX7_doesSecond 50 = .ok (.invokevirtual 74, 3) := by decide +kernel
theorem dX7_doesSecond_53 : decode cX7_doesSecond 53 = .ok (.if_icmp .ne 37, 3) := by decide +kernel
theorem dX7_doesSecond_56 : decode cX7_doesSecond 56 = .ok (.aload_n 0, 1) := by decide +kernel
theorem dX7_doesSecond_57 : decode cX7_doesSecond 57 = .ok (.getfield 7, 3) := by decide +kernel
theorem dX7_doesSecond_60 : decode cX7_doesSecond 60 = .ok (.aload_n 0, 1) := by decide +kernel
theorem dX7_doesSecond_61 : decode cX7_doesSecond 61 = .ok (.iload_n 1, 1) := by decide +kernel
theorem dX7_doesSecond_62 : decode cX7_doesSecond 62 = .ok (.invokevirtual 74, 3) := by decide +kernel
theorem dX7_doesSecond_65 : decode cX7_doesSecond 65 = .ok (.iaload, 1) := by decide +kernel
theorem dX7_doesSecond_66 : decode cX7_doesSecond 66 = .ok (.iconst 1, 1) := by decide +kernel
theorem dX7_doesSecond_67 : decode cX7_doesSecond 67 = .ok (.aload_n 0, 1) := by decide +kernel
theorem dX7_doesSecond_68 : decode cX7_doesSecond 68 = .ok (.iload_n 2, 1) := by decide +kernel
theorem dX7_doesSecond_69 : decode cX7_doesSecond 69 = .ok (.iconst 0, 1) := by decide +kernel
theorem dX7_doesSecond_70 : decode cX7_doesSecond 70 = .ok (.invokevirtual 68, 3) := by decide +kernel
theorem dX7_doesSecond_73 : decode cX7_doesSecond 73 = .ok (.iadd, 1) := by decide +kernel
theorem dX7_doesSecond_74 : decode cX7_doesSecond 74 = .ok (.if_icmp .ne 16, 3) := by decide +kernel
theorem dX7_doesSecond_77 : decode cX7_doesSecond 77 = .ok (.aload_n 0, 1) := by decide +kernel
theorem dX7_doesSecond_78 : decode cX7_doesSecond 78 = .ok (.getfield 7, 3) := by decide +kernel
theorem dX7_doesSecond_81 : decode cX7_doesSecond 81 = .ok (.aload_n 0, 1) := by decide +kernel
theorem dX7_doesSecond_82 : decode cX7_doesSecond 82 = .ok (.iload_n 1, 1) := by decide +kernel
theorem dX7_doesSecond_83 : decode cX7_doesSecond 83 = .ok (.invokevirtual 74, 3) := by decide +kernel
theorem dX7_doesSecond_86 : decode cX7_doesSecond 86 = .ok (.iconst 3, 1) := by decide +kernel
theorem dX7_doesSecond_87 : decode cX7_doesSecond 87 = .ok (.iastore, 1) := by decide +kernel
theorem dX7_doesSecond_88 : decode cX7_doesSecond 88 = .ok (.iconst 0, 1) := by decide +kernel
theorem dX7_doesSecond_89 : decode cX7_doesSecond 89 = .ok (.ireturn, 1) := by decide +kernel
theorem dX7_doesSecond_90 : decode cX7_doesSecond 90 = .ok (.iload_n 3, 1) := by decide +kernel
theorem dX7_doesSecond_91 : decode cX7_doesSecond 91 = .ok (.iconst 2, 1) := by decide +kernel
theorem dX7_doesSecond_92 : decode cX7_doesSecond 92 = .ok (.if_icmp .ne 69, 3) := by decide +kernel
theorem dX7_doesSecond_95 : decode cX7_doesSecond 95 = .ok (.aload_n 0, 1) := by decide +kernel
theorem dX7_doesSecond_96 : decode cX7_doesSecond 96 = .ok (.aload_n 0, 1) := by decide +kernel
theorem dX7_doesSecond_97 : decode cX7_doesSecond 97 = .ok (.iload_n 1, 1) := by decide +kernel
theorem dX7_doesSecond_98 : decode cX7_doesSecond 98 = .ok (.iconst 2, 1) := by decide +kernel
theorem dX7_doesSecond_99 : decode cX7_doesSecond 99 = .ok (.invokevirtual 68, 3) := by decide +kernel
theorem dX7_doesSecond_102 : decode cX7_doesSecond 102 = .ok (.invokevirtual 84, 3) := by decide +kernel
theorem dX7_doesSecond_105 : decode cX7_doesSecond 105 = .ok (.ifCond .eq 56, 3) := by decide +kernel
theorem dX7_doesSecond_108 : decode cX7_doesSecond 108 = .ok (.iconst 0, 1) := by decide +kernel
theorem dX7_doesSecond_109 : decode cX7_doesSecond 109 = .ok (.istore 4, 2) := by decide +kernel
theorem dX7_doesSecond_111 : decode cX7_doesSecond 111 = .ok (.iload 4, 2) := by decide +kernel
theorem dX7_doesSecond_113 : decode cX7_doesSecond 113 = .ok (.bipush 48, 2) := by decide +kernel
theorem dX7_doesSecond_115 : decode cX7_doesSecond 115 = .ok (.if_icmp .ge 43, 3) := by decide +kernel
theorem dX7_doesSecond_118 : decode cX7_doesSecond 118 = .ok (.aload_n 0, 1) := by decide +kernel
theorem dX7_doesSecond_119 : decode cX7_doesSecond 119 = .ok (.getfield 7, 3) := by decide +kernel
theorem dX7_doesSecond_122 : decode cX7_doesSecond 122 = .ok (.bipush 94, 2) := by decide +kernel
theorem dX7_doesSecond_124 : decode cX7_doesSecond 124 = .ok (.iload 4, 2) := by decide +kernel
theorem dX7_doesSecond_126 : decode cX7_doesSecond 126 = .ok (.iadd, 1) := by decide +kernel
theorem dX7_doesSecond_127 : decode cX7_doesSecond 127 = .ok (.aload_n 0, 1) := by decide +kernel
theorem dX7_doesSecond_128 : decode cX7_doesSecond 128 = .ok (.iload 4, 2) := by decide +kernel
theorem dX7_doesSecond_130 : decode cX7_doesSecond 130 = .ok (.invokevirtual 84, 3) := by decide +kernel
theorem dX7_doesSecond_133 : decode cX7_doesSecond 133 = .ok (.ifCond .eq 8, 3) := by decide +kernel
theorem dX7_doesSecond_136 : decode cX7_doesSecond 136 = .ok (.bipush (-5), 2) := by decide +kernel
theorem dX7_doesSecond_138 : decode cX7_doesSecond 138 = .ok (.goto 13, 3) := by decide +kernel
theorem dX7_doesSecond_141 : decode cX7_doesSecond 141 = .ok (.aload_n 0, 1) := by decide +kernel
theorem dX7_doesSecond_142 : decode cX7_doesSecond 142 = .ok (.getfield 7, 3) := by decide +kernel
theorem dX7_doesSecond_145 : decode cX7_doesSecond 145 = .ok (.bipush 94, 2) := by decide +kernel
theorem dX7_doesSecond_147 : decode cX7_doesSecond 147 = .ok (.iload 4, 2) := by decide +kernel
theorem dX7_doesSecond_149 : decode cX7_doesSecond 149 = .ok (.iadd, 1) := by decide +kernel
theorem dX7_doesSecond_150 : decode cX7_doesSecond 150 = .ok (.iaload, 1) := by decide +kernel
theorem dX7_doesSecond_151 : decode cX7_doesSecond 151 = .ok (.iastore, 1) := by decide +kernel
theorem dX7_doesSecond_152 : decode cX7_doesSecond 152 = .ok (.iinc 4 1, 3) := by decide +kernel
theorem dX7_doesSecond_155 : decode cX7_doesSecond 155 = .ok (.goto (-44), 3) := by decide +kernel
theorem dX7_doesSecond_158 : decode cX7_doesSecond 158 = .ok (.bipush 6, 2) := by decide +kernel
theorem dX7_doesSecond_160 : decode cX7_doesSecond 160 = .ok (.ireturn, 1) := by decide +kernel
theorem dX7_doesSecond_161 : decode cX7_doesSecond 161 = .ok (.bipush (-5), 2) := by decide +kernel
theorem dX7_doesSecond_163 : decode cX7_doesSecond 163 = .ok (.ireturn, 1) := by decide +kernel
theorem dX7_comes_0 : decode cX7_comes 0 = .ok (.aload_n 0, 1) := by decide +kernel
theorem dX7_comes_1 : decode cX7_comes 1 = .ok (.iload_n 1, 1) := by decide +kernel
theorem dX7_comes_2 : decode cX7_comes 2 = .ok (.invokevirtual 87, 3) := by decide +kernel
theorem dX7_comes_5 : decode cX7_comes 5 = .ok (.ifCond .eq 11, 3) := by decide +kernel
theorem dX7_comes_8 : decode cX7_comes 8 = .ok (.aload_n 0, 1) := by decide +kernel
theorem dX7_comes_9 : decode cX7_comes 9 = .ok (.iload_n 1, 1) := by decide +kernel
theorem dX7_comes_10 : decode cX7_comes 10 = .ok (.invokevirtual 90, 3) := by decide +kernel
theorem dX7_comes_13 : decode cX7_comes 13 = .ok (.goto 5, 3) := by decide +kernel
theorem dX7_comes_16 : decode cX7_comes 16 = .ok (.bipush (-5), 2) := by decide +kernel
theorem dX7_comes_18 : decode cX7_comes 18 = .ok (.istore_n 2, 1) := by decide +kernel
theorem dX7_comes_19 : decode cX7_comes 19 = .ok (.iload_n 2, 1) := by decide +kernel
theorem dX7_comes_20 : decode cX7_comes 20 = .ok (.bipush (-5), 2) := by decide +kernel
theorem dX7_comes_22 : decode cX7_comes 22 = .ok (.if_icmp .ne 13, 3) := by decide +kernel
theorem dX7_comes_25 : decode cX7_comes 25 = .ok (.aload_n 0, 1) := by decide +kernel
theorem dX7_comes_26 : decode cX7_comes 26 = .ok (.invokevirtual 93, 3) := by decide +kernel
theorem dX7_comes_29 : decode cX7_comes 29 = .ok (.aload_n 0, 1) := by decide +kernel
theorem dX7_comes_30 : decode cX7_comes 30 = .ok (.iload_n 1, 1) := by decide +kernel
theorem dX7_comes_31 : decode cX7_comes 31 = .ok (.invokevirtual 96, 3) := by decide +kernel
theorem dX7_comes_34 : decode cX7_comes 34 = .ok (.istore_n 2, 1) := by decide +kernel
theorem dX7_comes_35 : decode cX7_comes 35 = .ok (.aload_n 0, 1) := by decide +kernel
theorem dX7_comes_36 : decode cX7_comes 36 = .ok (.getfield 7, 3) := by decide +kernel
theorem dX7_comes_39 : decode cX7_comes 39 = .ok (.iload_n 1, 1) := by decide +kernel
theorem dX7_comes_40 : decode cX7_comes 40 = .ok (.bipush 7, 2) := by decide +kernel
theorem dX7_comes_42 : decode cX7_comes 42 = .ok (.invokestatic 43, 3) := by decide +kernel
theorem dX7_comes_45 : decode cX7_comes 45 = .ok (.iload_n 2, 1) := by decide +kernel
theorem dX7_comes_46 : decode cX7_comes 46 = .ok (.iastore, 1) := by decide +kernel
theorem dX7_comes_47 : decode cX7_comes 47 = .ok (.aload_n 0, 1) := by decide +kernel
theorem dX7_comes_48 : decode cX7_comes 48 = .ok (.getfield 7, 3) := by decide +kernel
theorem dX7_comes_51 : decode cX7_comes 51 = .ok (.iload_n 1, 1) := by decide +kernel
theorem dX7_comes_52 : decode cX7_comes 52 = .ok (.bipush 6, 2) := by decide +kernel
theorem dX7_comes_54 : decode cX7_comes 54 = .ok (.invokestatic 43, 3) := by decide +kernel
theorem dX7_comes_57 : decode cX7_comes 57 = .ok (.iload_n 2, 1) := by decide +kernel
theorem dX7_comes_58 : decode cX7_comes 58 = .ok (.ifCond .le 7, 3) := by decide +kernel
theorem dX7_comes_61 : decode cX7_comes 61 = .ok (.iconst 2, 1) := by decide +kernel
theorem dX7_comes_62 : decode cX7_comes 62 = .ok (.goto 4, 3) := by decide +kernel
theorem dX7_comes_65 : decode cX7_comes 65 = .ok (.iconst 1, 1) := by decide +kernel
theorem dX7_comes_66 : decode cX7_comes 66 = .ok (.iastore, 1) := by decide +kernel
theorem dX7_comes_67 : decode cX7_comes 67 = .ok (.return_, 1) := by decide +kernel
theorem dX7_day_0 : decode cX7_day 0 = .ok (.iconst 0, 1) := by decide +kernel
theorem dX7_day_1 : decode cX7_day 1 = .ok (.istore_n 1, 1) := by decide +kernel
theorem dX7_day_2 : decode cX7_day 2 = .ok (.aload_n 0, 1) := by decide +kernel
theorem dX7_day_3 : decode cX7_day 3 = .ok (.getfield 7, 3) := by decide +kernel
theorem dX7_day_6 : decode cX7_day 6 = .ok (.iconst 0, 1) := by decide +kernel
theorem dX7_day_7 : decode cX7_day 7 = .ok (.dup2, 1) := by decide +kernel
theorem dX7_day_8 : decode cX7_day 8 = .ok (.iaload, 1) := by decide +kernel
theorem dX7_day_9 : decode cX7_day 9 = .ok (.iconst 1, 1) := by decide +kernel
theorem dX7_day_10 : decode cX7_day 10 = .ok (.iadd, 1) := by decide +kernel
theorem dX7_day_11 : decode cX7_day 11 = .ok (.iastore, 1) := by decide +kernel
theorem dX7_day_12 : decode cX7_day 12 = .ok (.iconst 0, 1) := by decide +kernel
theorem dX7_day_13 : decode cX7_day 13 = .ok (.istore_n 2, 1) := by decide +kernel
theorem dX7_day_14 : decode cX7_day 14 = .ok (.iload_n 2, 1) := by decide +kernel
theorem dX7_day_15 : decode cX7_day 15 = .ok (.aload_n 0, 1) := by decide +kernel
theorem dX7_day_16 : decode cX7_day 16 = .ok (.getfield 7, 3) := by decide +kernel
theorem dX7_day_19 : decode cX7_day 19 = .ok (.iconst 1, 1) := by decide +kernel
theorem dX7_day_20 : decode cX7_day 20 = .ok (.iaload, 1) := by decide +kernel
theorem dX7_day_21 : decode cX7_day 21 = .ok (.if_icmp .ge 42, 3) := by decide +kernel
theorem dX7_day_24 : decode cX7_day 24 = .ok (.aload_n 0, 1) := by decide +kernel
theorem dX7_day_25 : decode cX7_day 25 = .ok (.iload_n 2, 1) := by decide +kernel
theorem dX7_day_26 : decode cX7_day 26 = .ok (.bipush 6, 2) := by decide +kernel
theorem dX7_day_28 : decode cX7_day 28 = .ok (.invokevirtual 68, 3) := by decide +kernel
theorem dX7_day_31 : decode cX7_day 31 = .ok (.ifCond .ne 26, 3) := by decide +kernel
theorem dX7_day_34 : decode cX7_day 34 = .ok (.aload_n 0, 1) := by decide +kernel
theorem dX7_day_35 : decode cX7_day 35 = .ok (.iload_n 2, 1) := by decide +kernel
theorem dX7_day_36 : decode cX7_day 36 = .ok (.iconst 5, 1) := by decide +kernel
theorem dX7_day_37 : decode cX7_day 37 = .ok (.invokevirtual 68, 3) := by decide +kernel
theorem dX7_day_40 : decode cX7_day 40 = .ok (.aload_n 0, 1) := by decide +kernel
theorem dX7_day_41 : decode cX7_day 41 = .ok (.getfield 7, 3) := by decide +kernel
theorem dX7_day_44 : decode cX7_day 44 = .ok (.iconst 0, 1) := by decide +kernel
theorem dX7_day_45 : decode cX7_day 45 = .ok (.iaload, 1) := by decide +kernel
theorem dX7_day_46 : decode cX7_day 46 = .ok (.if_icmp .ne 11, 3) := by decide +kernel
theorem dX7_day_49 : decode cX7_day 49 = .ok (.aload_n 0, 1) := by decide +kernel
theorem dX7_day_50 : decode cX7_day 50 = .ok (.iload_n 2, 1) := by decide +kernel
theorem dX7_day_51 : decode cX7_day 51 = .ok (.invokevirtual 99, 3) := by decide +kernel
theorem dX7_day_54 : decode cX7_day 54 = .ok (.iinc 1 1, 3) := by decide +kernel
theorem dX7_day_57 : decode cX7_day 57 = .ok (.iinc 2 1, 3) := by decide +kernel
theorem dX7_day_60 : decode cX7_day 60 = .ok (.goto (-46), 3) := by decide +kernel
theorem dX7_day_63 : decode cX7_day 63 = .ok (.iload_n 1, 1) := by decide +kernel
theorem dX7_day_64 : decode cX7_day 64 = .ok (.ireturn, 1) := by decide +kernel
theorem dX7_passes_0 : decode cX7_passes 0 = .ok (.aload_n 0, 1) := by decide +kernel
theorem dX7_passes_1 : decode cX7_passes 1 = .ok (.getfield 7, 3) := by decide +kernel
theorem dX7_passes_4 : decode cX7_passes 4 = .ok (.iconst 0, 1) := by decide +kernel
theorem dX7_passes_5 : decode cX7_passes 5 = .ok (.iaload, 1) := by decide +kernel
theorem dX7_passes_6 : decode cX7_passes 6 = .ok (.iload_n 1, 1) := by decide +kernel
theorem dX7_passes_7 : decode cX7_passes 7 = .ok (.iadd, 1) := by decide +kernel
theorem dX7_passes_8 : decode cX7_passes 8 = .ok (.sipush 9999, 3) := by decide +kernel
theorem dX7_passes_11 : decode cX7_passes 11 = .ok (.if_icmp .le 6, 3) := by decide +kernel
theorem dX7_passes_14 : decode cX7_passes 14 = .ok (.bipush (-3), 2) := by decide +kernel
theorem dX7_passes_16 : decode cX7_passes 16 = .ok (.ireturn, 1) := by decide +kernel
theorem dX7_passes_17 : decode cX7_passes 17 = .ok (.iconst 0, 1) := by decide +kernel
theorem dX7_passes_18 : decode cX7_passes 18 = .ok (.istore_n 2, 1) := by decide +kernel
theorem dX7_passes_19 : decode cX7_passes 19 = .ok (.iconst 0, 1) := by decide +kernel
theorem dX7_passes_20 : decode cX7_passes 20 = .ok (.istore_n 3, 1) := by decide +kernel
theorem dX7_passes_21 : decode cX7_passes 21 = .ok (.iload_n 3, 1) := by decide +kernel
theorem dX7_passes_22 : decode cX7_passes 22 = .ok (.iload_n 1, 1) := by decide +kernel
theorem dX7_passes_23 : decode cX7_passes 23 = .ok (.if_icmp .ge 16, 3) := by decide +kernel
theorem dX7_passes_26 : decode cX7_passes 26 = .ok (.iload_n 2, 1) := by decide +kernel
theorem dX7_passes_27 : decode cX7_passes 27 = .ok (.aload_n 0, 1) := by decide +kernel
theorem dX7_passes_28 : decode cX7_passes 28 = .ok (.invokevirtual 103, 3) := by decide +kernel
theorem dX7_passes_31 : decode cX7_passes 31 = .ok (.iadd, 1) := by decide +kernel
theorem dX7_passes_32 : decode cX7_passes 32 = .ok (.istore_n 2, 1) := by decide +kernel
theorem dX7_passes_33 : decode cX7_passes 33 = .ok (.iinc 3 1, 3) := by decide +kernel
theorem dX7_passes_36 : decode cX7_passes 36 = .ok (.goto (-15), 3) := by decide +kernel
theorem dX7_passes_39 : decode cX7_passes 39 = .ok (.iload_n 2, 1) := by decide +kernel
theorem dX7_passes_40 : decode cX7_passes 40 = .ok (.ireturn, 1) := by decide +kernel
theorem dX7_writes_0 : decode cX7_writes 0 = .ok (.iload_n 2, 1) := by decide +kernel
theorem dX7_writes_1 : decode cX7_writes 1 = .ok (.ifCond .eq 8, 3) := by decide +kernel
theorem dX7_writes_4 : decode cX7_writes 4 = .ok (.iload_n 2, 1) := by decide +kernel
theorem dX7_writes_5 : decode cX7_writes 5 = .ok (.iconst 1, 1) := by decide +kernel
theorem dX7_writes_6 : decode cX7_writes 6 = .ok (.if_icmp .ne 7, 3) := by decide +kernel
theorem dX7_writes_9 : decode cX7_writes 9 = .ok (.iconst 1, 1) := by decide +kernel
theorem dX7_writes_10 : decode cX7_writes 10 = .ok (.goto 4, 3) := by decide +kernel
theorem dX7_writes_13 : decode cX7_writes 13 = .ok (.iconst 0, 1) := by decide +kernel
theorem dX7_writes_14 : decode cX7_writes 14 = .ok (.istore 5, 2) := by decide +kernel
theorem dX7_writes_16 : decode cX7_writes 16 = .ok (.iload_n 1, 1) := by decide +kernel
theorem dX7_writes_17 : decode cX7_writes 17 = .ok (.invokestatic 107, 3) := by decide +kernel
theorem dX7_writes_20 : decode cX7_writes 20 = .ok (.ifCond .eq 31, 3) := by decide +kernel
theorem dX7_writes_23 : decode cX7_writes 23 = .ok (.iload_n 2, 1) := by decide +kernel
theorem dX7_writes_24 : decode cX7_writes 24 = .ok (.iconst 3, 1) := by decide +kernel
theorem dX7_writes_25 : decode cX7_writes 25 = .ok (.if_icmp .eq 10, 3) := by decide +kernel
theorem dX7_writes_28 : decode cX7_writes 28 = .ok (.iload_n 3, 1) := by decide +kernel
theorem dX7_writes_29 : decode cX7_writes 29 = .ok (.invokestatic 50, 3) := by decide +kernel
theorem dX7_writes_32 : decode cX7_writes 32 = .ok (.ifCond .eq 19, 3) := by decide +kernel
theorem dX7_writes_35 : decode cX7_writes 35 = .ok (.iload 5, 2) := by decide +kernel
theorem dX7_writes_37 : decode cX7_writes 37 = .ok (.ifCond .eq 16, 3) := by decide +kernel
theorem dX7_writes_40 : decode cX7_writes 40 = .ok (.iload_n 3, 1) := by decide +kernel
theorem dX7_writes_41 : decode cX7_writes 41 = .ok (.iload 4, 2) := by decide +kernel
theorem dX7_writes_43 : decode cX7_writes 43 = .ok (.invokestatic 71, 3) := by decide +kernel
theorem dX7_writes_46 : decode cX7_writes 46 = .ok (.bipush (-5), 2) := by decide +kernel
theorem dX7_writes_48 : decode cX7_writes 48 = .ok (.if_icmp .ne 5, 3) := by decide +kernel
theorem dX7_writes_51 : decode cX7_writes 51 = .ok (.iconst (-1), 1) := by decide +kernel
theorem dX7_writes_52 : decode cX7_writes 52 = .ok (.ireturn, 1) := by decide +kernel
theorem dX7_writes_53 : decode cX7_writes 53 = .ok (.iload_n 2, 1) := by decide +kernel
theorem dX7_writes_54 : decode cX7_writes 54 = .ok (.iconst 3, 1) := by decide +kernel
theorem dX7_writes_55 : decode cX7_writes 55 = .ok (.if_icmp .ne 17, 3) := by decide +kernel
theorem dX7_writes_58 : decode cX7_writes 58 = .ok (.iload 4, 2) := by decide +kernel
theorem dX7_writes_60 : decode cX7_writes 60 = .ok (.iconst 1, 1) := by decide +kernel
theorem dX7_writes_61 : decode cX7_writes 61 = .ok (.bipush 99, 2) := by decide +kernel
theorem dX7_writes_63 : decode cX7_writes 63 = .ok (.invokestatic 39, 3) := by decide +kernel
theorem dX7_writes_66 : decode cX7_writes 66 = .ok (.ifCond .ne 6, 3) := by decide +kernel
theorem dX7_writes_69 : decode cX7_writes 69 = .ok (.bipush (-2), 2) := by decide +kernel
theorem dX7_writes_71 : decode cX7_writes 71 = .ok (.ireturn, 1) := by decide +kernel
theorem dX7_writes_72 : decode cX7_writes 72 = .ok (.aload_n 0, 1) := by decide +kernel
theorem dX7_writes_73 : decode cX7_writes 73 = .ok (.getfield 7, 3) := by decide +kernel
theorem dX7_writes_76 : decode cX7_writes 76 = .ok (.iconst 1, 1) := by decide +kernel
theorem dX7_writes_77 : decode cX7_writes 77 = .ok (.iaload, 1) := by decide +kernel
theorem dX7_writes_78 : decode cX7_writes 78 = .ok (.bipush 60, 2) := by decide +kernel
theorem dX7_writes_80 : decode cX7_writes 80 = .ok (.if_icmp .ne 6, 3) := by decide +kernel
theorem dX7_writes_83 : decode cX7_writes 83 = .ok (.bipush (-3), 2) := by decide +kernel
theorem dX7_writes_85 : decode cX7_writes 85 = .ok (.ireturn, 1) := by decide +kernel
theorem dX7_writes_86 : decode cX7_writes 86 = .ok (.aload_n 0, 1) := by decide +kernel
theorem dX7_writes_87 : decode cX7_writes 87 = .ok (.getfield 7, 3) := by decide +kernel
theorem dX7_writes_90 : decode cX7_writes 90 = .ok (.iconst 1, 1) := by decide +kernel
theorem dX7_writes_91 : decode cX7_writes 91 = .ok (.iaload, 1) := by decide +kernel
theorem dX7_writes_92 : decode cX7_writes 92 = .ok (.istore 6, 2) := by decide +kernel
theorem dX7_writes_94 : decode cX7_writes 94 = .ok (.aload_n 0, 1) := by decide +kernel
theorem dX7_writes_95 : decode cX7_writes 95 = .ok (.getfield 7, 3) := by decide +kernel
theorem dX7_writes_98 : decode cX7_writes 98 = .ok (.iconst 1, 1) := by decide +kernel
theorem dX7_writes_99 : decode cX7_writes 99 = .ok (.dup2, 1) := by decide +kernel
theorem dX7_writes_100 : decode cX7_writes 100 = .ok (.iaload, 1) := by decide +kernel
theorem dX7_writes_101 : decode cX7_writes 101 = .ok (.iconst 1, 1) := by decide +kernel
theorem dX7_writes_102 : decode cX7_writes 102 = .ok (.iadd, 1) := by decide +kernel
theorem dX7_writes_103 : decode cX7_writes 103 = .ok (.iastore, 1) := by decide +kernel
theorem dX7_writes_104 : decode cX7_writes 104 = .ok (.aload_n 0, 1) := by decide +kernel
theorem dX7_writes_105 : decode cX7_writes 105 = .ok (.getfield 7, 3) := by decide +kernel
theorem dX7_writes_108 : decode cX7_writes 108 = .ok (.iload 6, 2) := by decide +kernel
theorem dX7_writes_110 : decode cX7_writes 110 = .ok (.iconst 0, 1) := by decide +kernel
theorem dX7_writes_111 : decode cX7_writes 111 = .ok (.invokestatic 43, 3) := by decide +kernel
theorem dX7_writes_114 : decode cX7_writes 114 = .ok (.iload_n 1, 1) := by decide +kernel
theorem dX7_writes_115 : decode cX7_writes 115 = .ok (.iastore, 1) := by decide +kernel
theorem dX7_writes_116 : decode cX7_writes 116 = .ok (.aload_n 0, 1) := by decide +kernel
theorem dX7_writes_117 : decode cX7_writes 117 = .ok (.getfield 7, 3) := by decide +kernel
theorem dX7_writes_120 : decode cX7_writes 120 = .ok (.iload 6, 2) := by decide +kernel
theorem dX7_writes_122 : decode cX7_writes 122 = .ok (.iconst 1, 1) := by decide +kernel
theorem dX7_writes_123 : decode cX7_writes 123 = .ok (.invokestatic 43, 3) := by decide +kernel
theorem dX7_writes_126 : decode cX7_writes 126 = .ok (.iload_n 2, 1) := by decide +kernel
theorem dX7_writes_127 : decode cX7_writes 127 = .ok (.iastore, 1) := by decide +kernel
theorem dX7_writes_128 : decode cX7_writes 128 = .ok (.aload_n 0, 1) := by decide +kernel
theorem dX7_writes_129 : decode cX7_writes 129 = .ok (.getfield 7, 3) := by decide +kernel
theorem dX7_writes_132 : decode cX7_writes 132 = .ok (.iload 6, 2) := by decide +kernel
theorem dX7_writes_134 : decode cX7_writes 134 = .ok (.iconst 2, 1) := by decide +kernel
theorem dX7_writes_135 : decode cX7_writes 135 = .ok (.invokestatic 43, 3) := by decide +kernel
theorem dX7_writes_138 : decode cX7_writes 138 = .ok (.iload_n 3, 1) := by decide +kernel
theorem dX7_writes_139 : decode cX7_writes 139 = .ok (.iastore, 1) := by decide +kernel
theorem dX7_writes_140 : decode cX7_writes 140 = .ok (.aload_n 0, 1) := by decide +kernel
theorem dX7_writes_141 : decode cX7_writes 141 = .ok (.getfield 7, 3) := by decide +kernel
theorem dX7_writes_144 : decode cX7_writes 144 = .ok (.iload 6, 2) := by decide +kernel
theorem dX7_writes_146 : decode cX7_writes 146 = .ok (.iconst 3, 1) := by decide +kernel
theorem dX7_writes_147 : decode cX7_writes 147 = .ok (.invokestatic 43, 3) := by decide +kernel
theorem dX7_writes_150 : decode cX7_writes 150 = .ok (.iload 4, 2) := by decide +kernel
theorem dX7_writes_152 : decode cX7_writes 152 = .ok (.iastore, 1) := by decide +kernel
theorem dX7_writes_153 : decode cX7_writes 153 = .ok (.aload_n 0, 1) := by decide +kernel
theorem dX7_writes_154 : decode cX7_writes 154 = .ok (.getfield 7, 3) := by decide +kernel
theorem dX7_writes_157 : decode cX7_writes 157 = .ok (.iload 6, 2) := by decide +kernel
theorem dX7_writes_159 : decode cX7_writes 159 = .ok (.iconst 4, 1) := by decide +kernel
theorem dX7_writes_160 : decode cX7_writes 160 = .ok (.invokestatic 43, 3) := by decide +kernel
theorem dX7_writes_163 : decode cX7_writes 163 = .ok (.aload_n 0, 1) := by decide +kernel
theorem dX7_writes_164 : decode cX7_writes 164 = .ok (.getfield 7, 3) := by decide +kernel
theorem dX7_writes_167 : decode cX7_writes 167 = .ok (.iconst 0, 1) := by decide +kernel
theorem dX7_writes_168 : decode cX7_writes 168 = .ok (.iaload, 1) := by decide +kernel
theorem dX7_writes_169 : decode cX7_writes 169 = .ok (.iastore, 1) := by decide +kernel
theorem dX7_writes_170 : decode cX7_writes 170 = .ok (.aload_n 0, 1) := by decide +kernel
theorem dX7_writes_171 : decode cX7_writes 171 = .ok (.getfield 7, 3) := by decide +kernel
theorem dX7_writes_174 : decode cX7_writes 174 = .ok (.iload 6, 2) := by decide +kernel
theorem dX7_writes_176 : decode cX7_writes 176 = .ok (.iconst 5, 1) := by decide +kernel
theorem dX7_writes_177 : decode cX7_writes 177 = .ok (.invokestatic 43, 3) := by decide +kernel
theorem dX7_writes_180 : decode cX7_writes 180 = .ok (.aload_n 0, 1) := by decide +kernel
theorem dX7_writes_181 : decode cX7_writes 181 = .ok (.getfield 7, 3) := by decide +kernel
theorem dX7_writes_184 : decode cX7_writes 184 = .ok (.iconst 0, 1) := by decide +kernel
theorem dX7_writes_185 : decode cX7_writes 185 = .ok (.iaload, 1) := by decide +kernel
theorem dX7_writes_186 : decode cX7_writes 186 = .ok (.aload_n 0, 1) := by decide +kernel
theorem dX7_writes_187 : decode cX7_writes 187 = .ok (.getfield 7, 3) := by decide +kernel
theorem dX7_writes_190 : decode cX7_writes 190 = .ok (.iconst 4, 1) := by decide +kernel
theorem dX7_writes_191 : decode cX7_writes 191 = .ok (.iaload, 1) := by decide +kernel
theorem dX7_writes_192 : decode cX7_writes 192 = .ok (.iadd, 1) := by decide +kernel
theorem dX7_writes_193 : decode cX7_writes 193 = .ok (.iastore, 1) := by decide +kernel
theorem dX7_writes_194 : decode cX7_writes 194 = .ok (.aload_n 0, 1) := by decide +kernel
theorem dX7_writes_195 : decode cX7_writes 195 = .ok (.getfield 7, 3) := by decide +kernel
theorem dX7_writes_198 : decode cX7_writes 198 = .ok (.iload 6, 2) := by decide +kernel
theorem dX7_writes_200 : decode cX7_writes 200 = .ok (.bipush 6, 2) := by decide +kernel
theorem dX7_writes_202 : decode cX7_writes 202 = .ok (.invokestatic 43, 3) := by decide +kernel
theorem dX7_writes_205 : decode cX7_writes 205 = .ok (.iconst 0, 1) := by decide +kernel
theorem dX7_writes_206 : decode cX7_writes 206 = .ok (.iastore, 1) := by decide +kernel
theorem dX7_writes_207 : decode cX7_writes 207 = .ok (.aload_n 0, 1) := by decide +kernel
theorem dX7_writes_208 : decode cX7_writes 208 = .ok (.getfield 7, 3) := by decide +kernel
theorem dX7_writes_211 : decode cX7_writes 211 = .ok (.iload 6, 2) := by decide +kernel
theorem dX7_writes_213 : decode cX7_writes 213 = .ok (.bipush 7, 2) := by decide +kernel
theorem dX7_writes_215 : decode cX7_writes 215 = .ok (.invokestatic 43, 3) := by decide +kernel
theorem dX7_writes_218 : decode cX7_writes 218 = .ok (.iconst 0, 1) := by decide +kernel
theorem dX7_writes_219 : decode cX7_writes 219 = .ok (.iastore, 1) := by decide +kernel
theorem dX7_writes_220 : decode cX7_writes 220 = .ok (.aload_n 0, 1) := by decide +kernel
theorem dX7_writes_221 : decode cX7_writes 221 = .ok (.getfield 7, 3) := by decide +kernel
theorem dX7_writes_224 : decode cX7_writes 224 = .ok (.iload 6, 2) := by decide +kernel
theorem dX7_writes_226 : decode cX7_writes 226 = .ok (.bipush 8, 2) := by decide +kernel
theorem dX7_writes_228 : decode cX7_writes 228 = .ok (.invokestatic 43, 3) := by decide +kernel
theorem dX7_writes_231 : decode cX7_writes 231 = .ok (.bipush (-5), 2) := by decide +kernel
theorem dX7_writes_233 : decode cX7_writes 233 = .ok (.iastore, 1) := by decide +kernel
theorem dX7_writes_234 : decode cX7_writes 234 = .ok (.aload_n 0, 1) := by decide +kernel
theorem dX7_writes_235 : decode cX7_writes 235 = .ok (.getfield 7, 3) := by decide +kernel
theorem dX7_writes_238 : decode cX7_writes 238 = .ok (.iload 6, 2) := by decide +kernel
theorem dX7_writes_240 : decode cX7_writes 240 = .ok (.bipush 9, 2) := by decide +kernel
theorem dX7_writes_242 : decode cX7_writes 242 = .ok (.invokestatic 43, 3) := by decide +kernel
theorem dX7_writes_245 : decode cX7_writes 245 = .ok (.bipush (-5), 2) := by decide +kernel
theorem dX7_writes_247 : decode cX7_writes 247 = .ok (.iastore, 1) := by decide +kernel
theorem dX7_writes_248 : decode cX7_writes 248 = .ok (.iload 6, 2) := by decide +kernel
theorem dX7_writes_250 : decode cX7_writes 250 = .ok (.ireturn, 1) := by decide +kernel
theorem dX7_acted_0 : decode cX7_acted 0 = .ok (.iload_n 1, 1) := by decide +kernel
theorem dX7_acted_1 : decode cX7_acted 1 = .ok (.ifCond .lt 7, 3) := by decide +kernel
theorem dX7_acted_4 : decode cX7_acted 4 = .ok (.aload_n 0, 1) := by decide +kernel
theorem dX7_acted_5 : decode cX7_acted 5 = .ok (.invokevirtual 110, 3) := by decide +kernel
theorem dX7_acted_8 : decode cX7_acted 8 = .ok (.iload_n 1, 1) := by decide +kernel
theorem dX7_acted_9 : decode cX7_acted 9 = .ok (.ireturn, 1) := by decide +kernel
theorem dX7_writeEdge_0 : decode cX7_writeEdge 0 = .ok (.aload_n 0, 1) := by decide +kernel
theorem dX7_writeEdge_1 : decode cX7_writeEdge 1 = .ok (.invokevirtual 113, 3) := by decide +kernel
theorem dX7_writeEdge_4 : decode cX7_writeEdge 4 = .ok (.aload_n 0, 1) := by decide +kernel
theorem dX7_writeEdge_5 : decode cX7_writeEdge 5 = .ok (.aload_n 0, 1) := by decide +kernel
theorem dX7_writeEdge_6 : decode cX7_writeEdge 6 = .ok (.iload_n 1, 1) := by decide +kernel
theorem dX7_writeEdge_7 : decode cX7_writeEdge 7 = .ok (.iload_n 2, 1) := by decide +kernel
theorem dX7_writeEdge_8 : decode cX7_writeEdge 8 = .ok (.ifCond .eq 7, 3) := by decide +kernel
theorem dX7_writeEdge_11 : decode cX7_writeEdge 11 = .ok (.iconst 1, 1) := by decide +kernel
theorem dX7_writeEdge_12 : decode cX7_writeEdge 12 = .ok (.goto 4, 3) := by decide +kernel
theorem dX7_writeEdge_15 : decode cX7_writeEdge 15 = .ok (.iconst 0, 1) := by decide +kernel
theorem dX7_writeEdge_16 : decode cX7_writeEdge 16 = .ok (.iload_n 3, 1) := by decide +kernel
theorem dX7_writeEdge_17 : decode cX7_writeEdge 17 = .ok (.iload 4, 2) := by decide +kernel
theorem dX7_writeEdge_19 : decode cX7_writeEdge 19 = .ok (.invokevirtual 116, 3) := by decide +kernel
theorem dX7_writeEdge_22 : decode cX7_writeEdge 22 = .ok (.invokevirtual 120, 3) := by decide +kernel
theorem dX7_writeEdge_25 : decode cX7_writeEdge 25 = .ok (.ireturn, 1) := by decide +kernel
theorem dX7_writeClaim_0 : decode cX7_writeClaim 0 = .ok (.aload_n 0, 1) := by decide +kernel
theorem dX7_writeClaim_1 : decode cX7_writeClaim 1 = .ok (.invokevirtual 113, 3) := by decide +kernel
theorem dX7_writeClaim_4 : decode cX7_writeClaim 4 = .ok (.aload_n 0, 1) := by decide +kernel
theorem dX7_writeClaim_5 : decode cX7_writeClaim 5 = .ok (.aload_n 0, 1) := by decide +kernel
theorem dX7_writeClaim_6 : decode cX7_writeClaim 6 = .ok (.iload_n 1, 1) := by decide +kernel
theorem dX7_writeClaim_7 : decode cX7_writeClaim 7 = .ok (.iconst 2, 1) := by decide +kernel
theorem dX7_writeClaim_8 : decode cX7_writeClaim 8 = .ok (.iload_n 2, 1) := by decide +kernel
theorem dX7_writeClaim_9 : decode cX7_writeClaim 9 = .ok (.bipush (-5), 2) := by decide +kernel
theorem dX7_writeClaim_11 : decode cX7_writeClaim 11 = .ok (.invokevirtual 116, 3) := by decide +kernel
theorem dX7_writeClaim_14 : decode cX7_writeClaim 14 = .ok (.invokevirtual 120, 3) := by decide +kernel
theorem dX7_writeClaim_17 : decode cX7_writeClaim 17 = .ok (.ireturn, 1) := by decide +kernel
theorem dX7_writeTruce_0 : decode cX7_writeTruce 0 = .ok (.aload_n 0, 1) := by decide +kernel
theorem dX7_writeTruce_1 : decode cX7_writeTruce 1 = .ok (.invokevirtual 113, 3) := by decide +kernel
theorem dX7_writeTruce_4 : decode cX7_writeTruce 4 = .ok (.aload_n 0, 1) := by decide +kernel
theorem dX7_writeTruce_5 : decode cX7_writeTruce 5 = .ok (.aload_n 0, 1) := by decide +kernel
theorem dX7_writeTruce_6 : decode cX7_writeTruce 6 = .ok (.iload_n 1, 1) := by decide +kernel
theorem dX7_writeTruce_7 : decode cX7_writeTruce 7 = .ok (.iconst 3, 1) := by decide +kernel
theorem dX7_writeTruce_8 : decode cX7_writeTruce 8 = .ok (.bipush (-5), 2) := by decide +kernel
theorem dX7_writeTruce_10 : decode cX7_writeTruce 10 = .ok (.iload_n 2, 1) := by decide +kernel
theorem dX7_writeTruce_11 : decode cX7_writeTruce 11 = .ok (.invokevirtual 116, 3) := by decide +kernel
theorem dX7_writeTruce_14 : decode cX7_writeTruce 14 = .ok (.invokevirtual 120, 3) := by decide +kernel
theorem dX7_writeTruce_17 : decode cX7_writeTruce 17 = .ok (.ireturn, 1) := by decide +kernel
theorem dX7_callBack_0 : decode cX7_callBack 0 = .ok (.aload_n 0, 1) := by decide +kernel
theorem dX7_callBack_1 : decode cX7_callBack 1 = .ok (.iload_n 1, 1) := by decide +kernel
theorem dX7_callBack_2 : decode cX7_callBack 2 = .ok (.invokevirtual 123, 3) := by decide +kernel
theorem dX7_callBack_5 : decode cX7_callBack 5 = .ok (.ifCond .ne 5, 3) := by decide +kernel
theorem dX7_callBack_8 : decode cX7_callBack 8 = .ok (.iconst (-1), 1) := by decide +kernel
theorem dX7_callBack_9 : decode cX7_callBack 9 = .ok (.ireturn, 1) := by decide +kernel
theorem dX7_callBack_10 : decode cX7_callBack 10 = .ok (.aload_n 0, 1) := by decide +kernel
theorem dX7_callBack_11 : decode cX7_callBack 11 = .ok (.iload_n 1, 1) := by decide +kernel
theorem dX7_callBack_12 : decode cX7_callBack 12 = .ok (.bipush 6, 2) := by decide +kernel
theorem dX7_callBack_14 : decode cX7_callBack 14 = .ok (.invokevirtual 68, 3) := by decide +kernel
theorem dX7_callBack_17 : decode cX7_callBack 17 = .ok (.ifCond .eq 6, 3) := by decide +kernel
theorem dX7_callBack_20 : decode cX7_callBack 20 = .ok (.bipush (-4), 2) := by decide +kernel
theorem dX7_callBack_22 : decode cX7_callBack 22 = .ok (.ireturn, 1) := by decide +kernel
theorem dX7_callBack_23 : decode cX7_callBack 23 = .ok (.aload_n 0, 1) := by decide +kernel
theorem dX7_callBack_24 : decode cX7_callBack 24 = .ok (.invokevirtual 113, 3) := by decide +kernel
theorem dX7_callBack_27 : decode cX7_callBack 27 = .ok (.aload_n 0, 1) := by decide +kernel
theorem dX7_callBack_28 : decode cX7_callBack 28 = .ok (.invokevirtual 110, 3) := by decide +kernel
theorem dX7_callBack_31 : decode cX7_callBack 31 = .ok (.aload_n 0, 1) := by decide +kernel
theorem dX7_callBack_32 : decode cX7_callBack 32 = .ok (.getfield 7, 3) := by decide +kernel
theorem dX7_callBack_35 : decode cX7_callBack 35 = .ok (.iload_n 1, 1) := by decide +kernel
theorem dX7_callBack_36 : decode cX7_callBack 36 = .ok (.bipush 6, 2) := by decide +kernel
theorem dX7_callBack_38 : decode cX7_callBack 38 = .ok (.invokestatic 43, 3) := by decide +kernel
theorem dX7_callBack_41 : decode cX7_callBack 41 = .ok (.iconst 3, 1) := by decide +kernel
theorem dX7_callBack_42 : decode cX7_callBack 42 = .ok (.iastore, 1) := by decide +kernel
theorem dX7_callBack_43 : decode cX7_callBack 43 = .ok (.aload_n 0, 1) := by decide +kernel
theorem dX7_callBack_44 : decode cX7_callBack 44 = .ok (.iload_n 1, 1) := by decide +kernel
theorem dX7_callBack_45 : decode cX7_callBack 45 = .ok (.iconst 5, 1) := by decide +kernel
theorem dX7_callBack_46 : decode cX7_callBack 46 = .ok (.invokevirtual 68, 3) := by decide +kernel
theorem dX7_callBack_49 : decode cX7_callBack 49 = .ok (.aload_n 0, 1) := by decide +kernel
theorem dX7_callBack_50 : decode cX7_callBack 50 = .ok (.getfield 7, 3) := by decide +kernel
theorem dX7_callBack_53 : decode cX7_callBack 53 = .ok (.iconst 0, 1) := by decide +kernel
theorem dX7_callBack_54 : decode cX7_callBack 54 = .ok (.iaload, 1) := by decide +kernel
theorem dX7_callBack_55 : decode cX7_callBack 55 = .ok (.isub, 1) := by decide +kernel
theorem dX7_callBack_56 : decode cX7_callBack 56 = .ok (.ireturn, 1) := by decide +kernel
theorem dX7_pass_0 : decode cX7_pass 0 = .ok (.aload_n 0, 1) := by decide +kernel
theorem dX7_pass_1 : decode cX7_pass 1 = .ok (.invokevirtual 113, 3) := by decide +kernel
theorem dX7_pass_4 : decode cX7_pass 4 = .ok (.iload_n 1, 1) := by decide +kernel
theorem dX7_pass_5 : decode cX7_pass 5 = .ok (.iconst 1, 1) := by decide +kernel
theorem dX7_pass_6 : decode cX7_pass 6 = .ok (.bipush 99, 2) := by decide +kernel
theorem dX7_pass_8 : decode cX7_pass 8 = .ok (.invokestatic 39, 3) := by decide +kernel
theorem dX7_pass_11 : decode cX7_pass 11 = .ok (.ifCond .eq 15, 3) := by decide +kernel
theorem dX7_pass_14 : decode cX7_pass 14 = .ok (.aload_n 0, 1) := by decide +kernel
theorem dX7_pass_15 : decode cX7_pass 15 = .ok (.aload_n 0, 1) := by decide +kernel
theorem dX7_pass_16 : decode cX7_pass 16 = .ok (.iload_n 1, 1) := by decide +kernel
theorem dX7_pass_17 : decode cX7_pass 17 = .ok (.invokevirtual 126, 3) := by decide +kernel
theorem dX7_pass_20 : decode cX7_pass 20 = .ok (.invokevirtual 120, 3) := by decide +kernel
theorem dX7_pass_23 : decode cX7_pass 23 = .ok (.goto 5, 3) := by decide +kernel
theorem dX7_pass_26 : decode cX7_pass 26 = .ok (.bipush (-2), 2) := by decide +kernel
theorem dX7_pass_28 : decode cX7_pass 28 = .ok (.ireturn, 1) := by decide +kernel
theorem dX7_set_0 : decode cX7_set 0 = .ok (.iload_n 1, 1) := by decide +kernel
theorem dX7_set_1 : decode cX7_set 1 = .ok (.iconst 0, 1) := by decide +kernel
theorem dX7_set_2 : decode cX7_set 2 = .ok (.iconst 1, 1) := by decide +kernel
theorem dX7_set_3 : decode cX7_set 3 = .ok (.invokestatic 39, 3) := by decide +kernel
theorem dX7_set_6 : decode cX7_set 6 = .ok (.ifCond .ne 5, 3) := by decide +kernel
theorem dX7_set_9 : decode cX7_set 9 = .ok (.iconst (-1), 1) := by decide +kernel
theorem dX7_set_10 : decode cX7_set 10 = .ok (.ireturn, 1) := by decide +kernel
theorem dX7_set_11 : decode cX7_set 11 = .ok (.iload_n 2, 1) := by decide +kernel
theorem dX7_set_12 : decode cX7_set 12 = .ok (.iconst 1, 1) := by decide +kernel
theorem dX7_set_13 : decode cX7_set 13 = .ok (.iload_n 1, 1) := by decide +kernel
theorem dX7_set_14 : decode cX7_set 14 = .ok (.ifCond .ne 8, 3) := by decide +kernel
theorem dX7_set_17 : decode cX7_set 17 = .ok (.bipush 9, 2) := by decide +kernel
theorem dX7_set_19 : decode cX7_set 19 = .ok (.goto 5, 3) := by decide +kernel
theorem dX7_set_22 : decode cX7_set 22 = .ok (.bipush 48, 2) := by decide +kernel
theorem dX7_set_24 : decode cX7_set 24 = .ok (.invokestatic 39, 3) := by decide +kernel
theorem dX7_set_27 : decode cX7_set 27 = .ok (.ifCond .ne 6, 3) := by decide +kernel
theorem dX7_set_30 : decode cX7_set 30 = .ok (.bipush (-2), 2) := by decide +kernel
theorem dX7_set_32 : decode cX7_set 32 = .ok (.ireturn, 1) := by decide +kernel
theorem dX7_set_33 : decode cX7_set 33 = .ok (.aload_n 0, 1) := by decide +kernel
theorem dX7_set_34 : decode cX7_set 34 = .ok (.getfield 7, 3) := by decide +kernel
theorem dX7_set_37 : decode cX7_set 37 = .ok (.iconst 4, 1) := by decide +kernel
theorem dX7_set_38 : decode cX7_set 38 = .ok (.iload_n 1, 1) := by decide +kernel
theorem dX7_set_39 : decode cX7_set 39 = .ok (.iadd, 1) := by decide +kernel
theorem dX7_set_40 : decode cX7_set 40 = .ok (.iaload, 1) := by decide +kernel
theorem dX7_set_41 : decode cX7_set 41 = .ok (.istore_n 3, 1) := by decide +kernel
theorem dX7_set_42 : decode cX7_set 42 = .ok (.iload_n 3, 1) := by decide +kernel
theorem dX7_set_43 : decode cX7_set 43 = .ok (.iload_n 2, 1) := by decide +kernel
theorem dX7_set_44 : decode cX7_set 44 = .ok (.if_icmp .ne 6, 3) := by decide +kernel
theorem dX7_set_47 : decode cX7_set 47 = .ok (.bipush (-5), 2) := by decide +kernel
theorem dX7_set_49 : decode cX7_set 49 = .ok (.ireturn, 1) := by decide +kernel
theorem dX7_set_50 : decode cX7_set 50 = .ok (.aload_n 0, 1) := by decide +kernel
theorem dX7_set_51 : decode cX7_set 51 = .ok (.invokevirtual 113, 3) := by decide +kernel
theorem dX7_set_54 : decode cX7_set 54 = .ok (.aload_n 0, 1) := by decide +kernel
theorem dX7_set_55 : decode cX7_set 55 = .ok (.invokevirtual 110, 3) := by decide +kernel
theorem dX7_set_58 : decode cX7_set 58 = .ok (.aload_n 0, 1) := by decide +kernel
theorem dX7_set_59 : decode cX7_set 59 = .ok (.getfield 7, 3) := by decide +kernel
theorem dX7_set_62 : decode cX7_set 62 = .ok (.iconst 4, 1) := by decide +kernel
theorem dX7_set_63 : decode cX7_set 63 = .ok (.iload_n 1, 1) := by decide +kernel
theorem dX7_set_64 : decode cX7_set 64 = .ok (.iadd, 1) := by decide +kernel
theorem dX7_set_65 : decode cX7_set 65 = .ok (.iload_n 2, 1) := by decide +kernel
theorem dX7_set_66 : decode cX7_set 66 = .ok (.iastore, 1) := by decide +kernel
theorem dX7_set_67 : decode cX7_set 67 = .ok (.iload_n 3, 1) := by decide +kernel
theorem dX7_set_68 : decode cX7_set 68 = .ok (.ireturn, 1) := by decide +kernel
theorem dX7_type_0 : decode cX7_type 0 = .ok (.aload_n 0, 1) := by decide +kernel
theorem dX7_type_1 : decode cX7_type 1 = .ok (.getfield 129, 3) := by decide +kernel
theorem dX7_type_4 : decode cX7_type 4 = .ok (.bipush 60, 2) := by decide +kernel
theorem dX7_type_6 : decode cX7_type 6 = .ok (.if_icmp .ne 6, 3) := by decide +kernel
theorem dX7_type_9 : decode cX7_type 9 = .ok (.bipush (-3), 2) := by decide +kernel
theorem dX7_type_11 : decode cX7_type 11 = .ok (.ireturn, 1) := by decide +kernel
theorem dX7_type_12 : decode cX7_type 12 = .ok (.aload_n 0, 1) := by decide +kernel
theorem dX7_type_13 : decode cX7_type 13 = .ok (.getfield 25, 3) := by decide +kernel
theorem dX7_type_16 : decode cX7_type 16 = .ok (.aload_n 0, 1) := by decide +kernel
theorem dX7_type_17 : decode cX7_type 17 = .ok (.getfield 129, 3) := by decide +kernel
theorem dX7_type_20 : decode cX7_type 20 = .ok (.iload_n 1, 1) := by decide +kernel
theorem dX7_type_21 : decode cX7_type 21 = .ok (.iastore, 1) := by decide +kernel
theorem dX7_type_22 : decode cX7_type 22 = .ok (.aload_n 0, 1) := by decide +kernel
theorem dX7_type_23 : decode cX7_type 23 = .ok (.dup, 1) := by decide +kernel
theorem dX7_type_24 : decode cX7_type 24 = .ok (.getfield 129, 3) := by decide +kernel
theorem dX7_type_27 : decode cX7_type 27 = .ok (.iconst 1, 1) := by decide +kernel
theorem dX7_type_28 : decode cX7_type 28 = .ok (.iadd, 1) := by decide +kernel
theorem dX7_type_29 : decode cX7_type 29 = .ok (.putfield 129, 3) := by decide +kernel
theorem dX7_type_32 : decode cX7_type 32 = .ok (.aload_n 0, 1) := by decide +kernel
theorem dX7_type_33 : decode cX7_type 33 = .ok (.getfield 129, 3) := by decide +kernel
theorem dX7_type_36 : decode cX7_type 36 = .ok (.ireturn, 1) := by decide +kernel
theorem dX7_clearText_0 : decode cX7_clearText 0 = .ok (.aload_n 0, 1) := by decide +kernel
theorem dX7_clearText_1 : decode cX7_clearText 1 = .ok (.getfield 129, 3) := by decide +kernel
theorem dX7_clearText_4 : decode cX7_clearText 4 = .ok (.istore_n 1, 1) := by decide +kernel
theorem dX7_clearText_5 : decode cX7_clearText 5 = .ok (.aload_n 0, 1) := by decide +kernel
theorem dX7_clearText_6 : decode cX7_clearText 6 = .ok (.iconst 0, 1) := by decide +kernel
theorem dX7_clearText_7 : decode cX7_clearText 7 = .ok (.putfield 129, 3) := by decide +kernel
theorem dX7_clearText_10 : decode cX7_clearText 10 = .ok (.iload_n 1, 1) := by decide +kernel
theorem dX7_clearText_11 : decode cX7_clearText 11 = .ok (.ireturn, 1) := by decide +kernel
theorem dX7_isNext_0 : decode cX7_isNext 0 = .ok (.aload_n 0, 1) := by decide +kernel
theorem dX7_isNext_1 : decode cX7_isNext 1 = .ok (.getfield 132, 3) := by decide +kernel
theorem dX7_isNext_4 : decode cX7_isNext 4 = .ok (.ifCond .ne 35, 3) := by decide +kernel
theorem dX7_isNext_7 : decode cX7_isNext 7 = .ok (.aload_n 0, 1) := by decide +kernel
theorem dX7_isNext_8 : decode cX7_isNext 8 = .ok (.getfield 136, 3) := by decide +kernel
theorem dX7_isNext_11 : decode cX7_isNext 11 = .ok (.aload_n 0, 1) := by decide +kernel
theorem dX7_isNext_12 : decode cX7_isNext 12 = .ok (.getfield 129, 3) := by decide +kernel
theorem dX7_isNext_15 : decode cX7_isNext 15 = .ok (.if_icmp .ge 24, 3) := by decide +kernel
theorem dX7_isNext_18 : decode cX7_isNext 18 = .ok (.aload_n 0, 1) := by decide +kernel
theorem dX7_isNext_19 : decode cX7_isNext 19 = .ok (.getfield 25, 3) := by decide +kernel
theorem dX7_isNext_22 : decode cX7_isNext 22 = .ok (.aload_n 0, 1) := by decide +kernel
theorem dX7_isNext_23 : decode cX7_isNext 23 = .ok (.getfield 136, 3) := by decide +kernel
theorem dX7_isNext_26 : decode cX7_isNext 26 = .ok (.iaload, 1) := by decide +kernel
theorem dX7_isNext_27 : decode cX7_isNext 27 = .ok (.iload_n 1, 1) := by decide +kernel
theorem dX7_isNext_28 : decode cX7_isNext 28 = .ok (.iload_n 2, 1) := by decide +kernel
theorem dX7_isNext_29 : decode cX7_isNext 29 = .ok (.invokestatic 39, 3) := by decide +kernel
theorem dX7_isNext_32 : decode cX7_isNext 32 = .ok (.ifCond .eq 7, 3) := by decide +kernel
theorem dX7_isNext_35 : decode cX7_isNext 35 = .ok (.iconst 1, 1) := by decide +kernel
theorem dX7_isNext_36 : decode cX7_isNext 36 = .ok (.goto 4, 3) := by decide +kernel
theorem dX7_isNext_39 : decode cX7_isNext 39 = .ok (.iconst 0, 1) := by decide +kernel
theorem dX7_isNext_40 : decode cX7_isNext 40 = .ok (.ireturn, 1) := by decide +kernel
theorem dX7_takes_0 : decode cX7_takes 0 = .ok (.aload_n 0, 1) := by decide +kernel
theorem dX7_takes_1 : decode cX7_takes 1 = .ok (.getfield 136, 3) := by decide +kernel
theorem dX7_takes_4 : decode cX7_takes 4 = .ok (.aload_n 0, 1) := by decide +kernel
theorem dX7_takes_5 : decode cX7_takes 5 = .ok (.getfield 129, 3) := by decide +kernel
theorem dX7_takes_8 : decode cX7_takes 8 = .ok (.if_icmp .ge 15, 3) := by decide +kernel
theorem dX7_takes_11 : decode cX7_takes 11 = .ok (.aload_n 0, 1) := by decide +kernel
theorem dX7_takes_12 : decode cX7_takes 12 = .ok (.getfield 25, 3) := by decide +kernel
theorem dX7_takes_15 : decode cX7_takes 15 = .ok (.aload_n 0, 1) := by decide +kernel
theorem dX7_takes_16 : decode cX7_takes 16 = .ok (.getfield 136, 3) := by decide +kernel
theorem dX7_takes_19 : decode cX7_takes 19 = .ok (.iaload, 1) := by decide +kernel
theorem dX7_takes_20 : decode cX7_takes 20 = .ok (.goto 4, 3) := by decide +kernel
theorem dX7_takes_23 : decode cX7_takes 23 = .ok (.iconst 0, 1) := by decide +kernel
theorem dX7_takes_24 : decode cX7_takes 24 = .ok (.istore_n 3, 1) := by decide +kernel
theorem dX7_takes_25 : decode cX7_takes 25 = .ok (.aload_n 0, 1) := by decide +kernel
theorem dX7_takes_26 : decode cX7_takes 26 = .ok (.aload_n 0, 1) := by decide +kernel
theorem dX7_takes_27 : decode cX7_takes 27 = .ok (.getfield 132, 3) := by decide +kernel
theorem dX7_takes_30 : decode cX7_takes 30 = .ok (.ifCond .ne 12, 3) := by decide +kernel
theorem dX7_takes_33 : decode cX7_takes 33 = .ok (.iload_n 3, 1) := by decide +kernel
theorem dX7_takes_34 : decode cX7_takes 34 = .ok (.iload_n 1, 1) := by decide +kernel
theorem dX7_takes_35 : decode cX7_takes 35 = .ok (.iload_n 2, 1) := by decide +kernel
theorem dX7_takes_36 : decode cX7_takes 36 = .ok (.invokestatic 39, 3) := by decide +kernel
theorem dX7_takes_39 : decode cX7_takes 39 = .ok (.ifCond .ne 7, 3) := by decide +kernel
theorem dX7_takes_42 : decode cX7_takes 42 = .ok (.iconst 1, 1) := by decide +kernel
theorem dX7_takes_43 : decode cX7_takes 43 = .ok (.goto 4, 3) := by decide +kernel
theorem dX7_takes_46 : decode cX7_takes 46 = .ok (.iconst 0, 1) := by decide +kernel
theorem dX7_takes_47 : decode cX7_takes 47 = .ok (.putfield 132, 3) := by decide +kernel
theorem dX7_takes_50 : decode cX7_takes 50 = .ok (.aload_n 0, 1) := by decide +kernel
theorem dX7_takes_51 : decode cX7_takes 51 = .ok (.dup, 1) := by decide +kernel
theorem dX7_takes_52 : decode cX7_takes 52 = .ok (.getfield 136, 3) := by decide +kernel
theorem dX7_takes_55 : decode cX7_takes 55 = .ok (.aload_n 0, 1) := by decide +kernel
theorem dX7_takes_56 : decode cX7_takes 56 = .ok (.getfield 132, 3) := by decide +kernel
theorem dX7_takes_59 : decode cX7_takes 59 = .ok (.ifCond .eq 7, 3) := by decide +kernel
theorem dX7_takes_62 : decode cX7_takes 62 = .ok (.iconst 0, 1) := by decide +kernel
theorem dX7_takes_63 : decode cX7_takes 63 = .ok (.goto 4, 3) := by decide +kernel
theorem dX7_takes_66 : decode cX7_takes 66 = .ok (.iconst 1, 1) := by decide +kernel
theorem dX7_takes_67 : decode cX7_takes 67 = .ok (.iadd, 1) := by decide +kernel
theorem dX7_takes_68 : decode cX7_takes 68 = .ok (.putfield 136, 3) := by decide +kernel
theorem dX7_takes_71 : decode cX7_takes 71 = .ok (.iload_n 3, 1) := by decide +kernel
theorem dX7_takes_72 : decode cX7_takes 72 = .ok (.iload_n 1, 1) := by decide +kernel
theorem dX7_takes_73 : decode cX7_takes 73 = .ok (.isub, 1) := by decide +kernel
theorem dX7_takes_74 : decode cX7_takes 74 = .ok (.ireturn, 1) := by decide +kernel
theorem dX7_takesNumber_0 : decode cX7_takesNumber 0 = .ok (.iload_n 1, 1) := by decide +kernel
theorem dX7_takesNumber_1 : decode cX7_takesNumber 1 = .ok (.aload_n 0, 1) := by decide +kernel
theorem dX7_takesNumber_2 : decode cX7_takesNumber 2 = .ok (.bipush 48, 2) := by decide +kernel
theorem dX7_takesNumber_4 : decode cX7_takesNumber 4 = .ok (.iload_n 1, 1) := by decide +kernel
theorem dX7_takesNumber_5 : decode cX7_takesNumber 5 = .ok (.iadd, 1) := by decide +kernel
theorem dX7_takesNumber_6 : decode cX7_takesNumber 6 = .ok (.bipush 57, 2) := by decide +kernel
theorem dX7_takesNumber_8 : decode cX7_takesNumber 8 = .ok (.invokevirtual 139, 3) := by decide +kernel
theorem dX7_takesNumber_11 : decode cX7_takesNumber 11 = .ok (.iadd, 1) := by decide +kernel
theorem dX7_takesNumber_12 : decode cX7_takesNumber 12 = .ok (.istore_n 3, 1) := by decide +kernel
theorem dX7_takesNumber_13 : decode cX7_takesNumber 13 = .ok (.iload_n 3, 1) := by decide +kernel
theorem dX7_takesNumber_14 : decode cX7_takesNumber 14 = .ok (.ifCond .le 7, 3) := by decide +kernel
theorem dX7_takesNumber_17 : decode cX7_takesNumber 17 = .ok (.iconst 1, 1) := by decide +kernel
theorem dX7_takesNumber_18 : decode cX7_takesNumber 18 = .ok (.goto 4, 3) := by decide +kernel
theorem dX7_takesNumber_21 : decode cX7_takesNumber 21 = .ok (.iconst 0, 1) := by decide +kernel
theorem dX7_takesNumber_22 : decode cX7_takesNumber 22 = .ok (.istore 4, 2) := by decide +kernel
theorem dX7_takesNumber_24 : decode cX7_takesNumber 24 = .ok (.iload 4, 2) := by decide +kernel
theorem dX7_takesNumber_26 : decode cX7_takesNumber 26 = .ok (.ifCond .eq 68, 3) := by decide +kernel
theorem dX7_takesNumber_29 : decode cX7_takesNumber 29 = .ok (.aload_n 0, 1) := by decide +kernel
theorem dX7_takesNumber_30 : decode cX7_takesNumber 30 = .ok (.bipush 48, 2) := by decide +kernel
theorem dX7_takesNumber_32 : decode cX7_takesNumber 32 = .ok (.bipush 57, 2) := by decide +kernel
theorem dX7_takesNumber_34 : decode cX7_takesNumber 34 = .ok (.invokevirtual 142, 3) := by decide +kernel
theorem dX7_takesNumber_37 : decode cX7_takesNumber 37 = .ok (.ifCond .eq 28, 3) := by decide +kernel
theorem dX7_takesNumber_40 : decode cX7_takesNumber 40 = .ok (.bipush 10, 2) := by decide +kernel
theorem dX7_takesNumber_42 : decode cX7_takesNumber 42 = .ok (.iload_n 3, 1) := by decide +kernel
theorem dX7_takesNumber_43 : decode cX7_takesNumber 43 = .ok (.imul, 1) := by decide +kernel
theorem dX7_takesNumber_44 : decode cX7_takesNumber 44 = .ok (.aload_n 0, 1) := by decide +kernel
theorem dX7_takesNumber_45 : decode cX7_takesNumber 45 = .ok (.getfield 25, 3) := by decide +kernel
theorem dX7_takesNumber_48 : decode cX7_takesNumber 48 = .ok (.aload_n 0, 1) := by decide +kernel
theorem dX7_takesNumber_49 : decode cX7_takesNumber 49 = .ok (.getfield 136, 3) := by decide +kernel
theorem dX7_takesNumber_52 : decode cX7_takesNumber 52 = .ok (.iaload, 1) := by decide +kernel
theorem dX7_takesNumber_53 : decode cX7_takesNumber 53 = .ok (.iadd, 1) := by decide +kernel
theorem dX7_takesNumber_54 : decode cX7_takesNumber 54 = .ok (.bipush 48, 2) := by decide +kernel
theorem dX7_takesNumber_56 : decode cX7_takesNumber 56 = .ok (.isub, 1) := by decide +kernel
theorem dX7_takesNumber_57 : decode cX7_takesNumber 57 = .ok (.iload_n 2, 1) := by decide +kernel
theorem dX7_takesNumber_58 : decode cX7_takesNumber 58 = .ok (.if_icmp .gt 7, 3) := by decide +kernel
theorem dX7_takesNumber_61 : decode cX7_takesNumber 61 = .ok (.iconst 1, 1) := by decide +kernel
theorem dX7_takesNumber_62 : decode cX7_takesNumber 62 = .ok (.goto 4, 3) := by decide +kernel
theorem dX7_takesNumber_65 : decode cX7_takesNumber 65 = .ok (.iconst 0, 1) := by decide +kernel
theorem dX7_takesNumber_66 : decode cX7_takesNumber 66 = .ok (.istore 4, 2) := by decide +kernel
theorem dX7_takesNumber_68 : decode cX7_takesNumber 68 = .ok (.iload 4, 2) := by decide +kernel
theorem dX7_takesNumber_70 : decode cX7_takesNumber 70 = .ok (.ifCond .eq 19, 3) := by decide +kernel
theorem dX7_takesNumber_73 : decode cX7_takesNumber 73 = .ok (.bipush 10, 2) := by decide +kernel
theorem dX7_takesNumber_75 : decode cX7_takesNumber 75 = .ok (.iload_n 3, 1) := by decide +kernel
theorem dX7_takesNumber_76 : decode cX7_takesNumber 76 = .ok (.imul, 1) := by decide +kernel
theorem dX7_takesNumber_77 : decode cX7_takesNumber 77 = .ok (.aload_n 0, 1) := by decide +kernel
theorem dX7_takesNumber_78 : decode cX7_takesNumber 78 = .ok (.bipush 48, 2) := by decide +kernel
theorem dX7_takesNumber_80 : decode cX7_takesNumber 80 = .ok (.bipush 57, 2) := by decide +kernel
theorem dX7_takesNumber_82 : decode cX7_takesNumber 82 = .ok (.invokevirtual 139, 3) := by decide +kernel
theorem dX7_takesNumber_85 : decode cX7_takesNumber 85 = .ok (.iadd, 1) := by decide +kernel
theorem dX7_takesNumber_86 : decode cX7_takesNumber 86 = .ok (.goto 4, 3) := by decide +kernel
theorem dX7_takesNumber_89 : decode cX7_takesNumber 89 = .ok (.iload_n 3, 1) := by decide +kernel
theorem dX7_takesNumber_90 : decode cX7_takesNumber 90 = .ok (.istore_n 3, 1) := by decide +kernel
theorem dX7_takesNumber_91 : decode cX7_takesNumber 91 = .ok (.goto (-67), 3) := by decide +kernel
theorem dX7_takesNumber_94 : decode cX7_takesNumber 94 = .ok (.iload_n 3, 1) := by decide +kernel
theorem dX7_takesNumber_95 : decode cX7_takesNumber 95 = .ok (.ireturn, 1) := by decide +kernel
theorem dX7_takesSign_0 : decode cX7_takesSign 0 = .ok (.aload_n 0, 1) := by decide +kernel
theorem dX7_takesSign_1 : decode cX7_takesSign 1 = .ok (.getfield 136, 3) := by decide +kernel
theorem dX7_takesSign_4 : decode cX7_takesSign 4 = .ok (.aload_n 0, 1) := by decide +kernel
theorem dX7_takesSign_5 : decode cX7_takesSign 5 = .ok (.getfield 129, 3) := by decide +kernel
theorem dX7_takesSign_8 : decode cX7_takesSign 8 = .ok (.if_icmp .ge 15, 3) := by decide +kernel
theorem dX7_takesSign_11 : decode cX7_takesSign 11 = .ok (.aload_n 0, 1) := by decide +kernel
theorem dX7_takesSign_12 : decode cX7_takesSign 12 = .ok (.getfield 25, 3) := by decide +kernel
theorem dX7_takesSign_15 : decode cX7_takesSign 15 = .ok (.aload_n 0, 1) := by decide +kernel
theorem dX7_takesSign_16 : decode cX7_takesSign 16 = .ok (.getfield 136, 3) := by decide +kernel
theorem dX7_takesSign_19 : decode cX7_takesSign 19 = .ok (.iaload, 1) := by decide +kernel
theorem dX7_takesSign_20 : decode cX7_takesSign 20 = .ok (.goto 4, 3) := by decide +kernel
theorem dX7_takesSign_23 : decode cX7_takesSign 23 = .ok (.iconst 0, 1) := by decide +kernel
theorem dX7_takesSign_24 : decode cX7_takesSign 24 = .ok (.istore_n 3, 1) := by decide +kernel
theorem dX7_takesSign_25 : decode cX7_takesSign 25 = .ok (.bipush (-5), 2) := by decide +kernel
theorem dX7_takesSign_27 : decode cX7_takesSign 27 = .ok (.istore 4, 2) := by decide +kernel
theorem dX7_takesSign_29 : decode cX7_takesSign 29 = .ok (.iconst 0, 1) := by decide +kernel
theorem dX7_takesSign_30 : decode cX7_takesSign 30 = .ok (.istore 5, 2) := by decide +kernel
theorem dX7_takesSign_32 : decode cX7_takesSign 32 = .ok (.iload 5, 2) := by decide +kernel
theorem dX7_takesSign_34 : decode cX7_takesSign 34 = .ok (.iload_n 2, 1) := by decide +kernel
theorem dX7_takesSign_35 : decode cX7_takesSign 35 = .ok (.if_icmp .ge 33, 3) := by decide +kernel
theorem dX7_takesSign_38 : decode cX7_takesSign 38 = .ok (.iload_n 1, 1) := by decide +kernel
theorem dX7_takesSign_39 : decode cX7_takesSign 39 = .ok (.bipush 8, 2) := by decide +kernel
theorem dX7_takesSign_41 : decode cX7_takesSign 41 = .ok (.iload 5, 2) := by decide +kernel
theorem dX7_takesSign_43 : decode cX7_takesSign 43 = .ok (.imul, 1) := by decide +kernel
theorem dX7_takesSign_44 : decode cX7_takesSign 44 = .ok (.ishr, 1) := by decide +kernel
theorem dX7_takesSign_45 : decode cX7_takesSign 45 = .ok (.sipush 255, 3) := by decide +kernel
theorem dX7_takesSign_48 : decode cX7_takesSign 48 = .ok (.iand, 1) := by decide +kernel
theorem dX7_takesSign_49 : decode cX7_takesSign 49 = .ok (.iload_n 3, 1) := by decide +kernel
theorem dX7_takesSign_50 : decode cX7_takesSign 50 = .ok (.if_icmp .ne 8, 3) := by decide +kernel
theorem dX7_takesSign_53 : decode cX7_takesSign 53 = .ok (.iload 5, 2) := by decide +kernel
theorem dX7_takesSign_55 : decode cX7_takesSign 55 = .ok (.goto 5, 3) := by decide +kernel
theorem dX7_takesSign_58 : decode cX7_takesSign 58 = .ok (.iload 4, 2) := by decide +kernel
theorem dX7_takesSign_60 : decode cX7_takesSign 60 = .ok (.istore 4, 2) := by decide +kernel
theorem dX7_takesSign_62 : decode cX7_takesSign 62 = .ok (.iinc 5 1, 3) := by decide +kernel
theorem dX7_takesSign_65 : decode cX7_takesSign 65 = .ok (.goto (-33), 3) := by decide +kernel
theorem dX7_takesSign_68 : decode cX7_takesSign 68 = .ok (.aload_n 0, 1) := by decide +kernel
theorem dX7_takesSign_69 : decode cX7_takesSign 69 = .ok (.aload_n 0, 1) := by decide +kernel
theorem dX7_takesSign_70 : decode cX7_takesSign 70 = .ok (.getfield 132, 3) := by decide +kernel
theorem dX7_takesSign_73 : decode cX7_takesSign 73 = .ok (.ifCond .ne 10, 3) := by decide +kernel
theorem dX7_takesSign_76 : decode cX7_takesSign 76 = .ok (.iload 4, 2) := by decide +kernel
theorem dX7_takesSign_78 : decode cX7_takesSign 78 = .ok (.bipush (-5), 2) := by decide +kernel
theorem dX7_takesSign_80 : decode cX7_takesSign 80 = .ok (.if_icmp .ne 7, 3) := by decide +kernel
theorem dX7_takesSign_83 : decode cX7_takesSign 83 = .ok (.iconst 1, 1) := by decide +kernel
theorem dX7_takesSign_84 : decode cX7_takesSign 84 = .ok (.goto 4, 3) := by decide +kernel
theorem dX7_takesSign_87 : decode cX7_takesSign 87 = .ok (.iconst 0, 1) := by decide +kernel
theorem dX7_takesSign_88 : decode cX7_takesSign 88 = .ok (.putfield 132, 3) := by decide +kernel
theorem dX7_takesSign_91 : decode cX7_takesSign 91 = .ok (.aload_n 0, 1) := by decide +kernel
theorem dX7_takesSign_92 : decode cX7_takesSign 92 = .ok (.dup, 1) := by decide +kernel
theorem dX7_takesSign_93 : decode cX7_takesSign 93 = .ok (.getfield 136, 3) := by decide +kernel
theorem dX7_takesSign_96 : decode cX7_takesSign 96 = .ok (.aload_n 0, 1) := by decide +kernel
theorem dX7_takesSign_97 : decode cX7_takesSign 97 = .ok (.getfield 132, 3) := by decide +kernel
theorem dX7_takesSign_100 : decode cX7_takesSign 100 = .ok (.ifCond .eq 7, 3) := by decide +kernel
theorem dX7_takesSign_103 : decode cX7_takesSign 103 = .ok (.iconst 0, 1) := by decide +kernel
theorem dX7_takesSign_104 : decode cX7_takesSign 104 = .ok (.goto 4, 3) := by decide +kernel
theorem dX7_takesSign_107 : decode cX7_takesSign 107 = .ok (.iconst 1, 1) := by decide +kernel
theorem dX7_takesSign_108 : decode cX7_takesSign 108 = .ok (.iadd, 1) := by decide +kernel
theorem dX7_takesSign_109 : decode cX7_takesSign 109 = .ok (.putfield 136, 3) := by decide +kernel
theorem dX7_takesSign_112 : decode cX7_takesSign 112 = .ok (.iload 4, 2) := by decide +kernel
theorem dX7_takesSign_114 : decode cX7_takesSign 114 = .ok (.ireturn, 1) := by decide +kernel
theorem dX7_readThing_0 : decode cX7_readThing 0 = .ok (.aload_n 0, 1) := by decide +kernel
theorem dX7_readThing_1 : decode cX7_readThing 1 = .ok (.bipush (-5), 2) := by decide +kernel
theorem dX7_readThing_3 : decode cX7_readThing 3 = .ok (.putfield 146, 3) := by decide +kernel
theorem dX7_readThing_6 : decode cX7_readThing 6 = .ok (.aload_n 0, 1) := by decide +kernel
theorem dX7_readThing_7 : decode cX7_readThing 7 = .ok (.bipush 46, 2) := by decide +kernel
theorem dX7_readThing_9 : decode cX7_readThing 9 = .ok (.bipush 46, 2) := by decide +kernel
theorem dX7_readThing_11 : decode cX7_readThing 11 = .ok (.invokevirtual 142, 3) := by decide +kernel
theorem dX7_readThing_14 : decode cX7_readThing 14 = .ok (.ifCond .eq 24, 3) := by decide +kernel
theorem dX7_readThing_17 : decode cX7_readThing 17 = .ok (.aload_n 0, 1) := by decide +kernel
