theorem dX7_readThing_18 : decode cX7_readThing 18 = .ok (.bipush 46, 2) := by decide +kernel
theorem dX7_readThing_20 : decode cX7_readThing 20 = .ok (.bipush 46, 2) := by decide +kernel
theorem dX7_readThing_22 : decode cX7_readThing 22 = .ok (.invokevirtual 139, 3) := by decide +kernel
theorem dX7_readThing_25 : decode cX7_readThing 25 = .ok (.istore_n 1, 1) := by decide +kernel
theorem dX7_readThing_26 : decode cX7_readThing 26 = .ok (.aload_n 0, 1) := by decide +kernel
theorem dX7_readThing_27 : decode cX7_readThing 27 = .ok (.aload_n 0, 1) := by decide +kernel
theorem dX7_readThing_28 : decode cX7_readThing 28 = .ok (.iconst 1, 1) := by decide +kernel
theorem dX7_readThing_29 : decode cX7_readThing 29 = .ok (.bipush 99, 2) := by decide +kernel
theorem dX7_readThing_31 : decode cX7_readThing 31 = .ok (.invokevirtual 149, 3) := by decide +kernel
theorem dX7_readThing_34 : decode cX7_readThing 34 = .ok (.putfield 152, 3) := by decide +kernel
theorem dX7_readThing_37 : decode cX7_readThing 37 = .ok (.return_, 1) := by decide +kernel
theorem dX7_readThing_38 : decode cX7_readThing 38 = .ok (.aload_n 0, 1) := by decide +kernel
theorem dX7_readThing_39 : decode cX7_readThing 39 = .ok (.aload_n 0, 1) := by decide +kernel
theorem dX7_readThing_40 : decode cX7_readThing 40 = .ok (.bipush 48, 2) := by decide +kernel
theorem dX7_readThing_42 : decode cX7_readThing 42 = .ok (.bipush 49, 2) := by decide +kernel
theorem dX7_readThing_44 : decode cX7_readThing 44 = .ok (.invokevirtual 139, 3) := by decide +kernel
theorem dX7_readThing_47 : decode cX7_readThing 47 = .ok (.putfield 146, 3) := by decide +kernel
theorem dX7_readThing_50 : decode cX7_readThing 50 = .ok (.aload_n 0, 1) := by decide +kernel
theorem dX7_readThing_51 : decode cX7_readThing 51 = .ok (.aload_n 0, 1) := by decide +kernel
theorem dX7_readThing_52 : decode cX7_readThing 52 = .ok (.getfield 132, 3) := by decide +kernel
theorem dX7_readThing_55 : decode cX7_readThing 55 = .ok (.ifCond .eq 8, 3) := by decide +kernel
theorem dX7_readThing_58 : decode cX7_readThing 58 = .ok (.bipush (-5), 2) := by decide +kernel
theorem dX7_readThing_60 : decode cX7_readThing 60 = .ok (.goto 10, 3) := by decide +kernel
theorem dX7_readThing_63 : decode cX7_readThing 63 = .ok (.aload_n 0, 1) := by decide +kernel
theorem dX7_readThing_64 : decode cX7_readThing 64 = .ok (.ldc 155, 2) := by decide +kernel
theorem dX7_readThing_66 : decode cX7_readThing 66 = .ok (.iconst 4, 1) := by decide +kernel
theorem dX7_readThing_67 : decode cX7_readThing 67 = .ok (.invokevirtual 156, 3) := by decide +kernel
theorem dX7_readThing_70 : decode cX7_readThing 70 = .ok (.putfield 159, 3) := by decide +kernel
theorem dX7_readThing_73 : decode cX7_readThing 73 = .ok (.aload_n 0, 1) := by decide +kernel
theorem dX7_readThing_74 : decode cX7_readThing 74 = .ok (.bipush (-5), 2) := by decide +kernel
theorem dX7_readThing_76 : decode cX7_readThing 76 = .ok (.putfield 162, 3) := by decide +kernel
theorem dX7_readThing_79 : decode cX7_readThing 79 = .ok (.aload_n 0, 1) := by decide +kernel
theorem dX7_readThing_80 : decode cX7_readThing 80 = .ok (.bipush (-5), 2) := by decide +kernel
theorem dX7_readThing_82 : decode cX7_readThing 82 = .ok (.putfield 152, 3) := by decide +kernel
theorem dX7_readThing_85 : decode cX7_readThing 85 = .ok (.aload_n 0, 1) := by decide +kernel
theorem dX7_readThing_86 : decode cX7_readThing 86 = .ok (.getfield 159, 3) := by decide +kernel
theorem dX7_readThing_89 : decode cX7_readThing 89 = .ok (.iconst 3, 1) := by decide +kernel
theorem dX7_readThing_90 : decode cX7_readThing 90 = .ok (.if_icmp .ne 17, 3) := by decide +kernel
theorem dX7_readThing_93 : decode cX7_readThing 93 = .ok (.aload_n 0, 1) := by decide +kernel
theorem dX7_readThing_94 : decode cX7_readThing 94 = .ok (.aload_n 0, 1) := by decide +kernel
theorem dX7_readThing_95 : decode cX7_readThing 95 = .ok (.iconst 1, 1) := by decide +kernel
theorem dX7_readThing_96 : decode cX7_readThing 96 = .ok (.bipush 99, 2) := by decide +kernel
theorem dX7_readThing_98 : decode cX7_readThing 98 = .ok (.invokevirtual 149, 3) := by decide +kernel
theorem dX7_readThing_101 : decode cX7_readThing 101 = .ok (.putfield 152, 3) := by decide +kernel
theorem dX7_readThing_104 : decode cX7_readThing 104 = .ok (.goto 47, 3) := by decide +kernel
theorem dX7_readThing_107 : decode cX7_readThing 107 = .ok (.aload_n 0, 1) := by decide +kernel
theorem dX7_readThing_108 : decode cX7_readThing 108 = .ok (.getfield 159, 3) := by decide +kernel
theorem dX7_readThing_111 : decode cX7_readThing 111 = .ok (.bipush (-5), 2) := by decide +kernel
theorem dX7_readThing_113 : decode cX7_readThing 113 = .ok (.if_icmp .eq 38, 3) := by decide +kernel
theorem dX7_readThing_116 : decode cX7_readThing 116 = .ok (.aload_n 0, 1) := by decide +kernel
theorem dX7_readThing_117 : decode cX7_readThing 117 = .ok (.aload_n 0, 1) := by decide +kernel
theorem dX7_readThing_118 : decode cX7_readThing 118 = .ok (.iconst 0, 1) := by decide +kernel
theorem dX7_readThing_119 : decode cX7_readThing 119 = .ok (.bipush 47, 2) := by decide +kernel
theorem dX7_readThing_121 : decode cX7_readThing 121 = .ok (.invokevirtual 149, 3) := by decide +kernel
theorem dX7_readThing_124 : decode cX7_readThing 124 = .ok (.putfield 162, 3) := by decide +kernel
theorem dX7_readThing_127 : decode cX7_readThing 127 = .ok (.aload_n 0, 1) := by decide +kernel
theorem dX7_readThing_128 : decode cX7_readThing 128 = .ok (.aload_n 0, 1) := by decide +kernel
theorem dX7_readThing_129 : decode cX7_readThing 129 = .ok (.getfield 159, 3) := by decide +kernel
theorem dX7_readThing_132 : decode cX7_readThing 132 = .ok (.iconst 2, 1) := by decide +kernel
theorem dX7_readThing_133 : decode cX7_readThing 133 = .ok (.if_icmp .ne 8, 3) := by decide +kernel
theorem dX7_readThing_136 : decode cX7_readThing 136 = .ok (.bipush (-5), 2) := by decide +kernel
theorem dX7_readThing_138 : decode cX7_readThing 138 = .ok (.goto 10, 3) := by decide +kernel
theorem dX7_readThing_141 : decode cX7_readThing 141 = .ok (.aload_n 0, 1) := by decide +kernel
theorem dX7_readThing_142 : decode cX7_readThing 142 = .ok (.ldc 165, 2) := by decide +kernel
theorem dX7_readThing_144 : decode cX7_readThing 144 = .ok (.iconst 4, 1) := by decide +kernel
theorem dX7_readThing_145 : decode cX7_readThing 145 = .ok (.invokevirtual 156, 3) := by decide +kernel
theorem dX7_readThing_148 : decode cX7_readThing 148 = .ok (.putfield 152, 3) := by decide +kernel
theorem dX7_readThing_151 : decode cX7_readThing 151 = .ok (.return_, 1) := by decide +kernel
theorem dX7_runs_0 : decode cX7_runs 0 = .ok (.aload_n 0, 1) := by decide +kernel
theorem dX7_runs_1 : decode cX7_runs 1 = .ok (.iconst 0, 1) := by decide +kernel
theorem dX7_runs_2 : decode cX7_runs 2 = .ok (.putfield 136, 3) := by decide +kernel
theorem dX7_runs_5 : decode cX7_runs 5 = .ok (.aload_n 0, 1) := by decide +kernel
theorem dX7_runs_6 : decode cX7_runs 6 = .ok (.iconst 0, 1) := by decide +kernel
theorem dX7_runs_7 : decode cX7_runs 7 = .ok (.putfield 132, 3) := by decide +kernel
theorem dX7_runs_10 : decode cX7_runs 10 = .ok (.aload_n 0, 1) := by decide +kernel
theorem dX7_runs_11 : decode cX7_runs 11 = .ok (.iconst 0, 1) := by decide +kernel
theorem dX7_runs_12 : decode cX7_runs 12 = .ok (.putfield 166, 3) := by decide +kernel
theorem dX7_runs_15 : decode cX7_runs 15 = .ok (.iconst 0, 1) := by decide +kernel
theorem dX7_runs_16 : decode cX7_runs 16 = .ok (.istore_n 2, 1) := by decide +kernel
theorem dX7_runs_17 : decode cX7_runs 17 = .ok (.iconst 1, 1) := by decide +kernel
theorem dX7_runs_18 : decode cX7_runs 18 = .ok (.istore_n 3, 1) := by decide +kernel
theorem dX7_runs_19 : decode cX7_runs 19 = .ok (.iload_n 3, 1) := by decide +kernel
theorem dX7_runs_20 : decode cX7_runs 20 = .ok (.ifCond .eq 148, 3) := by decide +kernel
theorem dX7_runs_23 : decode cX7_runs 23 = .ok (.aload_n 0, 1) := by decide +kernel
theorem dX7_runs_24 : decode cX7_runs 24 = .ok (.invokevirtual 169, 3) := by decide +kernel
theorem dX7_runs_27 : decode cX7_runs 27 = .ok (.iload_n 1, 1) := by decide +kernel
theorem dX7_runs_28 : decode cX7_runs 28 = .ok (.ifCond .ne 7, 3) := by decide +kernel
theorem dX7_runs_31 : decode cX7_runs 31 = .ok (.iconst 0, 1) := by decide +kernel
theorem dX7_runs_32 : decode cX7_runs 32 = .ok (.goto 43, 3) := by decide +kernel
theorem dX7_runs_35 : decode cX7_runs 35 = .ok (.aload_n 0, 1) := by decide +kernel
theorem dX7_runs_36 : decode cX7_runs 36 = .ok (.getfield 146, 3) := by decide +kernel
theorem dX7_runs_39 : decode cX7_runs 39 = .ok (.bipush (-5), 2) := by decide +kernel
theorem dX7_runs_41 : decode cX7_runs 41 = .ok (.if_icmp .ne 14, 3) := by decide +kernel
theorem dX7_runs_44 : decode cX7_runs 44 = .ok (.aload_n 0, 1) := by decide +kernel
theorem dX7_runs_45 : decode cX7_runs 45 = .ok (.aload_n 0, 1) := by decide +kernel
theorem dX7_runs_46 : decode cX7_runs 46 = .ok (.getfield 152, 3) := by decide +kernel
theorem dX7_runs_49 : decode cX7_runs 49 = .ok (.invokevirtual 126, 3) := by decide +kernel
theorem dX7_runs_52 : decode cX7_runs 52 = .ok (.goto 23, 3) := by decide +kernel
theorem dX7_runs_55 : decode cX7_runs 55 = .ok (.aload_n 0, 1) := by decide +kernel
theorem dX7_runs_56 : decode cX7_runs 56 = .ok (.aload_n 0, 1) := by decide +kernel
theorem dX7_runs_57 : decode cX7_runs 57 = .ok (.getfield 146, 3) := by decide +kernel
theorem dX7_runs_60 : decode cX7_runs 60 = .ok (.aload_n 0, 1) := by decide +kernel
theorem dX7_runs_61 : decode cX7_runs 61 = .ok (.getfield 159, 3) := by decide +kernel
theorem dX7_runs_64 : decode cX7_runs 64 = .ok (.aload_n 0, 1) := by decide +kernel
theorem dX7_runs_65 : decode cX7_runs 65 = .ok (.getfield 162, 3) := by decide +kernel
theorem dX7_runs_68 : decode cX7_runs 68 = .ok (.aload_n 0, 1) := by decide +kernel
theorem dX7_runs_69 : decode cX7_runs 69 = .ok (.getfield 152, 3) := by decide +kernel
theorem dX7_runs_72 : decode cX7_runs 72 = .ok (.invokevirtual 116, 3) := by decide +kernel
theorem dX7_runs_75 : decode cX7_runs 75 = .ok (.istore 4, 2) := by decide +kernel
theorem dX7_runs_77 : decode cX7_runs 77 = .ok (.aload_n 0, 1) := by decide +kernel
theorem dX7_runs_78 : decode cX7_runs 78 = .ok (.iload 4, 2) := by decide +kernel
theorem dX7_runs_80 : decode cX7_runs 80 = .ok (.ifCond .ge 8, 3) := by decide +kernel
theorem dX7_runs_83 : decode cX7_runs 83 = .ok (.iload 4, 2) := by decide +kernel
theorem dX7_runs_85 : decode cX7_runs 85 = .ok (.goto 4, 3) := by decide +kernel
theorem dX7_runs_88 : decode cX7_runs 88 = .ok (.iconst 0, 1) := by decide +kernel
theorem dX7_runs_89 : decode cX7_runs 89 = .ok (.putfield 166, 3) := by decide +kernel
theorem dX7_runs_92 : decode cX7_runs 92 = .ok (.iload_n 2, 1) := by decide +kernel
theorem dX7_runs_93 : decode cX7_runs 93 = .ok (.aload_n 0, 1) := by decide +kernel
theorem dX7_runs_94 : decode cX7_runs 94 = .ok (.getfield 166, 3) := by decide +kernel
theorem dX7_runs_97 : decode cX7_runs 97 = .ok (.ifCond .ge 7, 3) := by decide +kernel
theorem dX7_runs_100 : decode cX7_runs 100 = .ok (.iconst 0, 1) := by decide +kernel
theorem dX7_runs_101 : decode cX7_runs 101 = .ok (.goto 4, 3) := by decide +kernel
theorem dX7_runs_104 : decode cX7_runs 104 = .ok (.iconst 1, 1) := by decide +kernel
theorem dX7_runs_105 : decode cX7_runs 105 = .ok (.iadd, 1) := by decide +kernel
theorem dX7_runs_106 : decode cX7_runs 106 = .ok (.istore_n 2, 1) := by decide +kernel
theorem dX7_runs_107 : decode cX7_runs 107 = .ok (.aload_n 0, 1) := by decide +kernel
theorem dX7_runs_108 : decode cX7_runs 108 = .ok (.getfield 166, 3) := by decide +kernel
theorem dX7_runs_111 : decode cX7_runs 111 = .ok (.ifCond .ne 25, 3) := by decide +kernel
theorem dX7_runs_114 : decode cX7_runs 114 = .ok (.aload_n 0, 1) := by decide +kernel
theorem dX7_runs_115 : decode cX7_runs 115 = .ok (.getfield 132, 3) := by decide +kernel
theorem dX7_runs_118 : decode cX7_runs 118 = .ok (.ifCond .ne 18, 3) := by decide +kernel
theorem dX7_runs_121 : decode cX7_runs 121 = .ok (.aload_n 0, 1) := by decide +kernel
theorem dX7_runs_122 : decode cX7_runs 122 = .ok (.getfield 136, 3) := by decide +kernel
theorem dX7_runs_125 : decode cX7_runs 125 = .ok (.aload_n 0, 1) := by decide +kernel
theorem dX7_runs_126 : decode cX7_runs 126 = .ok (.getfield 129, 3) := by decide +kernel
theorem dX7_runs_129 : decode cX7_runs 129 = .ok (.if_icmp .ge 7, 3) := by decide +kernel
theorem dX7_runs_132 : decode cX7_runs 132 = .ok (.iconst 1, 1) := by decide +kernel
theorem dX7_runs_133 : decode cX7_runs 133 = .ok (.goto 4, 3) := by decide +kernel
theorem dX7_runs_136 : decode cX7_runs 136 = .ok (.iconst 0, 1) := by decide +kernel
theorem dX7_runs_137 : decode cX7_runs 137 = .ok (.istore_n 3, 1) := by decide +kernel
theorem dX7_runs_138 : decode cX7_runs 138 = .ok (.iload_n 3, 1) := by decide +kernel
theorem dX7_runs_139 : decode cX7_runs 139 = .ok (.ifCond .eq 26, 3) := by decide +kernel
theorem dX7_runs_142 : decode cX7_runs 142 = .ok (.aload_n 0, 1) := by decide +kernel
theorem dX7_runs_143 : decode cX7_runs 143 = .ok (.bipush 59, 2) := by decide +kernel
theorem dX7_runs_145 : decode cX7_runs 145 = .ok (.bipush 59, 2) := by decide +kernel
theorem dX7_runs_147 : decode cX7_runs 147 = .ok (.invokevirtual 139, 3) := by decide +kernel
theorem dX7_runs_150 : decode cX7_runs 150 = .ok (.istore 5, 2) := by decide +kernel
theorem dX7_runs_152 : decode cX7_runs 152 = .ok (.aload_n 0, 1) := by decide +kernel
theorem dX7_runs_153 : decode cX7_runs 153 = .ok (.getfield 132, 3) := by decide +kernel
theorem dX7_runs_156 : decode cX7_runs 156 = .ok (.ifCond .ne 7, 3) := by decide +kernel
theorem dX7_runs_159 : decode cX7_runs 159 = .ok (.iconst 1, 1) := by decide +kernel
theorem dX7_runs_160 : decode cX7_runs 160 = .ok (.goto 4, 3) := by decide +kernel
theorem dX7_runs_163 : decode cX7_runs 163 = .ok (.iconst 0, 1) := by decide +kernel
theorem dX7_runs_164 : decode cX7_runs 164 = .ok (.istore_n 3, 1) := by decide +kernel
theorem dX7_runs_165 : decode cX7_runs 165 = .ok (.goto (-146), 3) := by decide +kernel
theorem dX7_runs_168 : decode cX7_runs 168 = .ok (.iload_n 2, 1) := by decide +kernel
theorem dX7_runs_169 : decode cX7_runs 169 = .ok (.ireturn, 1) := by decide +kernel
theorem dX7_perform_0 : decode cX7_perform 0 = .ok (.aload_n 0, 1) := by decide +kernel
theorem dX7_perform_1 : decode cX7_perform 1 = .ok (.iconst 0, 1) := by decide +kernel
theorem dX7_perform_2 : decode cX7_perform 2 = .ok (.invokevirtual 172, 3) := by decide +kernel
theorem dX7_perform_5 : decode cX7_perform 5 = .ok (.istore_n 1, 1) := by decide +kernel
theorem dX7_perform_6 : decode cX7_perform 6 = .ok (.aload_n 0, 1) := by decide +kernel
theorem dX7_perform_7 : decode cX7_perform 7 = .ok (.getfield 132, 3) := by decide +kernel
theorem dX7_perform_10 : decode cX7_perform 10 = .ok (.ifCond .eq 11, 3) := by decide +kernel
theorem dX7_perform_13 : decode cX7_perform 13 = .ok (.bipush (-100), 2) := by decide +kernel
theorem dX7_perform_15 : decode cX7_perform 15 = .ok (.aload_n 0, 1) := by decide +kernel
theorem dX7_perform_16 : decode cX7_perform 16 = .ok (.getfield 136, 3) := by decide +kernel
theorem dX7_perform_19 : decode cX7_perform 19 = .ok (.isub, 1) := by decide +kernel
theorem dX7_perform_20 : decode cX7_perform 20 = .ok (.ireturn, 1) := by decide +kernel
theorem dX7_perform_21 : decode cX7_perform 21 = .ok (.aload_n 0, 1) := by decide +kernel
theorem dX7_perform_22 : decode cX7_perform 22 = .ok (.invokevirtual 113, 3) := by decide +kernel
theorem dX7_perform_25 : decode cX7_perform 25 = .ok (.aload_n 0, 1) := by decide +kernel
theorem dX7_perform_26 : decode cX7_perform 26 = .ok (.iconst 1, 1) := by decide +kernel
theorem dX7_perform_27 : decode cX7_perform 27 = .ok (.invokevirtual 172, 3) := by decide +kernel
theorem dX7_perform_30 : decode cX7_perform 30 = .ok (.istore_n 2, 1) := by decide +kernel
theorem dX7_perform_31 : decode cX7_perform 31 = .ok (.aload_n 0, 1) := by decide +kernel
theorem dX7_perform_32 : decode cX7_perform 32 = .ok (.getfield 166, 3) := by decide +kernel
theorem dX7_perform_35 : decode cX7_perform 35 = .ok (.ifCond .ge 46, 3) := by decide +kernel
theorem dX7_perform_38 : decode cX7_perform 38 = .ok (.aload_n 0, 1) := by decide +kernel
theorem dX7_perform_39 : decode cX7_perform 39 = .ok (.iload_n 2, 1) := by decide +kernel
theorem dX7_perform_40 : decode cX7_perform 40 = .ok (.putfield 28, 3) := by decide +kernel
theorem dX7_perform_43 : decode cX7_perform 43 = .ok (.aload_n 0, 1) := by decide +kernel
theorem dX7_perform_44 : decode cX7_perform 44 = .ok (.aload_n 0, 1) := by decide +kernel
theorem dX7_perform_45 : decode cX7_perform 45 = .ok (.getfield 166, 3) := by decide +kernel
theorem dX7_perform_48 : decode cX7_perform 48 = .ok (.putfield 32, 3) := by decide +kernel
theorem dX7_perform_51 : decode cX7_perform 51 = .ok (.iconst 0, 1) := by decide +kernel
theorem dX7_perform_52 : decode cX7_perform 52 = .ok (.istore_n 3, 1) := by decide +kernel
theorem dX7_perform_53 : decode cX7_perform 53 = .ok (.iload_n 3, 1) := by decide +kernel
theorem dX7_perform_54 : decode cX7_perform 54 = .ok (.sipush 742, 3) := by decide +kernel
theorem dX7_perform_57 : decode cX7_perform 57 = .ok (.if_icmp .ge 21, 3) := by decide +kernel
theorem dX7_perform_60 : decode cX7_perform 60 = .ok (.aload_n 0, 1) := by decide +kernel
theorem dX7_perform_61 : decode cX7_perform 61 = .ok (.getfield 7, 3) := by decide +kernel
theorem dX7_perform_64 : decode cX7_perform 64 = .ok (.iload_n 3, 1) := by decide +kernel
theorem dX7_perform_65 : decode cX7_perform 65 = .ok (.aload_n 0, 1) := by decide +kernel
theorem dX7_perform_66 : decode cX7_perform 66 = .ok (.getfield 16, 3) := by decide +kernel
theorem dX7_perform_69 : decode cX7_perform 69 = .ok (.iload_n 3, 1) := by decide +kernel
theorem dX7_perform_70 : decode cX7_perform 70 = .ok (.iaload, 1) := by decide +kernel
theorem dX7_perform_71 : decode cX7_perform 71 = .ok (.iastore, 1) := by decide +kernel
theorem dX7_perform_72 : decode cX7_perform 72 = .ok (.iinc 3 1, 3) := by decide +kernel
theorem dX7_perform_75 : decode cX7_perform 75 = .ok (.goto (-22), 3) := by decide +kernel
theorem dX7_perform_78 : decode cX7_perform 78 = .ok (.bipush (-4), 2) := by decide +kernel
theorem dX7_perform_80 : decode cX7_perform 80 = .ok (.ireturn, 1) := by decide +kernel
theorem dX7_perform_81 : decode cX7_perform 81 = .ok (.aload_n 0, 1) := by decide +kernel
theorem dX7_perform_82 : decode cX7_perform 82 = .ok (.invokevirtual 110, 3) := by decide +kernel
theorem dX7_perform_85 : decode cX7_perform 85 = .ok (.iload_n 2, 1) := by decide +kernel
theorem dX7_perform_86 : decode cX7_perform 86 = .ok (.ireturn, 1) := by decide +kernel
theorem dX7_stopped_0 : decode cX7_stopped 0 = .ok (.iload_n 1, 1) := by decide +kernel
theorem dX7_stopped_1 : decode cX7_stopped 1 = .ok (.ifCond .ne 10, 3) := by decide +kernel
theorem dX7_stopped_4 : decode cX7_stopped 4 = .ok (.aload_n 0, 1) := by decide +kernel
theorem dX7_stopped_5 : decode cX7_stopped 5 = .ok (.getfield 28, 3) := by decide +kernel
theorem dX7_stopped_8 : decode cX7_stopped 8 = .ok (.goto 17, 3) := by decide +kernel
theorem dX7_stopped_11 : decode cX7_stopped 11 = .ok (.iload_n 1, 1) := by decide +kernel
theorem dX7_stopped_12 : decode cX7_stopped 12 = .ok (.iconst 1, 1) := by decide +kernel
theorem dX7_stopped_13 : decode cX7_stopped 13 = .ok (.if_icmp .ne 10, 3) := by decide +kernel
theorem dX7_stopped_16 : decode cX7_stopped 16 = .ok (.aload_n 0, 1) := by decide +kernel
theorem dX7_stopped_17 : decode cX7_stopped 17 = .ok (.getfield 32, 3) := by decide +kernel
theorem dX7_stopped_20 : decode cX7_stopped 20 = .ok (.goto 5, 3) := by decide +kernel
theorem dX7_stopped_23 : decode cX7_stopped 23 = .ok (.bipush (-2), 2) := by decide +kernel
theorem dX7_stopped_25 : decode cX7_stopped 25 = .ok (.ireturn, 1) := by decide +kernel
theorem dX7_undo_0 : decode cX7_undo 0 = .ok (.aload_n 0, 1) := by decide +kernel
theorem dX7_undo_1 : decode cX7_undo 1 = .ok (.getfield 47, 3) := by decide +kernel
theorem dX7_undo_4 : decode cX7_undo 4 = .ok (.ifCond .ne 6, 3) := by decide +kernel
theorem dX7_undo_7 : decode cX7_undo 7 = .ok (.bipush (-5), 2) := by decide +kernel
theorem dX7_undo_9 : decode cX7_undo 9 = .ok (.ireturn, 1) := by decide +kernel
theorem dX7_undo_10 : decode cX7_undo 10 = .ok (.aload_n 0, 1) := by decide +kernel
theorem dX7_undo_11 : decode cX7_undo 11 = .ok (.dup, 1) := by decide +kernel
theorem dX7_undo_12 : decode cX7_undo 12 = .ok (.getfield 47, 3) := by decide +kernel
theorem dX7_undo_15 : decode cX7_undo 15 = .ok (.iconst 1, 1) := by decide +kernel
theorem dX7_undo_16 : decode cX7_undo 16 = .ok (.isub, 1) := by decide +kernel
theorem dX7_undo_17 : decode cX7_undo 17 = .ok (.putfield 47, 3) := by decide +kernel
theorem dX7_undo_20 : decode cX7_undo 20 = .ok (.iconst 0, 1) := by decide +kernel
theorem dX7_undo_21 : decode cX7_undo 21 = .ok (.istore_n 1, 1) := by decide +kernel
theorem dX7_undo_22 : decode cX7_undo 22 = .ok (.iload_n 1, 1) := by decide +kernel
theorem dX7_undo_23 : decode cX7_undo 23 = .ok (.sipush 742, 3) := by decide +kernel
theorem dX7_undo_26 : decode cX7_undo 26 = .ok (.if_icmp .ge 30, 3) := by decide +kernel
theorem dX7_undo_29 : decode cX7_undo 29 = .ok (.aload_n 0, 1) := by decide +kernel
theorem dX7_undo_30 : decode cX7_undo 30 = .ok (.getfield 7, 3) := by decide +kernel
theorem dX7_undo_33 : decode cX7_undo 33 = .ok (.iload_n 1, 1) := by decide +kernel
theorem dX7_undo_34 : decode cX7_undo 34 = .ok (.aload_n 0, 1) := by decide +kernel
theorem dX7_undo_35 : decode cX7_undo 35 = .ok (.getfield 22, 3) := by decide +kernel
theorem dX7_undo_38 : decode cX7_undo 38 = .ok (.sipush 742, 3) := by decide +kernel
theorem dX7_undo_41 : decode cX7_undo 41 = .ok (.aload_n 0, 1) := by decide +kernel
theorem dX7_undo_42 : decode cX7_undo 42 = .ok (.getfield 47, 3) := by decide +kernel
theorem dX7_undo_45 : decode cX7_undo 45 = .ok (.imul, 1) := by decide +kernel
theorem dX7_undo_46 : decode cX7_undo 46 = .ok (.iload_n 1, 1) := by decide +kernel
theorem dX7_undo_47 : decode cX7_undo 47 = .ok (.iadd, 1) := by decide +kernel
theorem dX7_undo_48 : decode cX7_undo 48 = .ok (.iaload, 1) := by decide +kernel
theorem dX7_undo_49 : decode cX7_undo 49 = .ok (.iastore, 1) := by decide +kernel
theorem dX7_undo_50 : decode cX7_undo 50 = .ok (.iinc 1 1, 3) := by decide +kernel
theorem dX7_undo_53 : decode cX7_undo 53 = .ok (.goto (-31), 3) := by decide +kernel
theorem dX7_undo_56 : decode cX7_undo 56 = .ok (.aload_n 0, 1) := by decide +kernel
theorem dX7_undo_57 : decode cX7_undo 57 = .ok (.getfield 47, 3) := by decide +kernel
theorem dX7_undo_60 : decode cX7_undo 60 = .ok (.ireturn, 1) := by decide +kernel
theorem dX7_keep_0 : decode cX7_keep 0 = .ok (.iconst 0, 1) := by decide +kernel
theorem dX7_keep_1 : decode cX7_keep 1 = .ok (.istore_n 1, 1) := by decide +kernel
theorem dX7_keep_2 : decode cX7_keep 2 = .ok (.iload_n 1, 1) := by decide +kernel
theorem dX7_keep_3 : decode cX7_keep 3 = .ok (.sipush 742, 3) := by decide +kernel
theorem dX7_keep_6 : decode cX7_keep 6 = .ok (.if_icmp .ge 21, 3) := by decide +kernel
theorem dX7_keep_9 : decode cX7_keep 9 = .ok (.aload_n 0, 1) := by decide +kernel
theorem dX7_keep_10 : decode cX7_keep 10 = .ok (.getfield 19, 3) := by decide +kernel
theorem dX7_keep_13 : decode cX7_keep 13 = .ok (.iload_n 1, 1) := by decide +kernel
theorem dX7_keep_14 : decode cX7_keep 14 = .ok (.aload_n 0, 1) := by decide +kernel
theorem dX7_keep_15 : decode cX7_keep 15 = .ok (.getfield 7, 3) := by decide +kernel
theorem dX7_keep_18 : decode cX7_keep 18 = .ok (.iload_n 1, 1) := by decide +kernel
theorem dX7_keep_19 : decode cX7_keep 19 = .ok (.iaload, 1) := by decide +kernel
theorem dX7_keep_20 : decode cX7_keep 20 = .ok (.iastore, 1) := by decide +kernel
theorem dX7_keep_21 : decode cX7_keep 21 = .ok (.iinc 1 1, 3) := by decide +kernel
theorem dX7_keep_24 : decode cX7_keep 24 = .ok (.goto (-22), 3) := by decide +kernel
theorem dX7_keep_27 : decode cX7_keep 27 = .ok (.aload_n 0, 1) := by decide +kernel
theorem dX7_keep_28 : decode cX7_keep 28 = .ok (.iconst 1, 1) := by decide +kernel
theorem dX7_keep_29 : decode cX7_keep 29 = .ok (.putfield 176, 3) := by decide +kernel
theorem dX7_keep_32 : decode cX7_keep 32 = .ok (.aload_n 0, 1) := by decide +kernel
theorem dX7_keep_33 : decode cX7_keep 33 = .ok (.getfield 7, 3) := by decide +kernel
theorem dX7_keep_36 : decode cX7_keep 36 = .ok (.iconst 0, 1) := by decide +kernel
theorem dX7_keep_37 : decode cX7_keep 37 = .ok (.iaload, 1) := by decide +kernel
theorem dX7_keep_38 : decode cX7_keep 38 = .ok (.ireturn, 1) := by decide +kernel
theorem dX7_restore_0 : decode cX7_restore 0 = .ok (.aload_n 0, 1) := by decide +kernel
theorem dX7_restore_1 : decode cX7_restore 1 = .ok (.getfield 176, 3) := by decide +kernel
theorem dX7_restore_4 : decode cX7_restore 4 = .ok (.ifCond .ne 6, 3) := by decide +kernel
theorem dX7_restore_7 : decode cX7_restore 7 = .ok (.bipush (-5), 2) := by decide +kernel
theorem dX7_restore_9 : decode cX7_restore 9 = .ok (.ireturn, 1) := by decide +kernel
theorem dX7_restore_10 : decode cX7_restore 10 = .ok (.aload_n 0, 1) := by decide +kernel
theorem dX7_restore_11 : decode cX7_restore 11 = .ok (.invokevirtual 113, 3) := by decide +kernel
theorem dX7_restore_14 : decode cX7_restore 14 = .ok (.aload_n 0, 1) := by decide +kernel
theorem dX7_restore_15 : decode cX7_restore 15 = .ok (.invokevirtual 110, 3) := by decide +kernel
theorem dX7_restore_18 : decode cX7_restore 18 = .ok (.iconst 0, 1) := by decide +kernel
theorem dX7_restore_19 : decode cX7_restore 19 = .ok (.istore_n 1, 1) := by decide +kernel
theorem dX7_restore_20 : decode cX7_restore 20 = .ok (.iload_n 1, 1) := by decide +kernel
theorem dX7_restore_21 : decode cX7_restore 21 = .ok (.sipush 742, 3) := by decide +kernel
theorem dX7_restore_24 : decode cX7_restore 24 = .ok (.if_icmp .ge 21, 3) := by decide +kernel
theorem dX7_restore_27 : decode cX7_restore 27 = .ok (.aload_n 0, 1) := by decide +kernel
theorem dX7_restore_28 : decode cX7_restore 28 = .ok (.getfield 7, 3) := by decide +kernel
theorem dX7_restore_31 : decode cX7_restore 31 = .ok (.iload_n 1, 1) := by decide +kernel
theorem dX7_restore_32 : decode cX7_restore 32 = .ok (.aload_n 0, 1) := by decide +kernel
theorem dX7_restore_33 : decode cX7_restore 33 = .ok (.getfield 19, 3) := by decide +kernel
theorem dX7_restore_36 : decode cX7_restore 36 = .ok (.iload_n 1, 1) := by decide +kernel
theorem dX7_restore_37 : decode cX7_restore 37 = .ok (.iaload, 1) := by decide +kernel
theorem dX7_restore_38 : decode cX7_restore 38 = .ok (.iastore, 1) := by decide +kernel
theorem dX7_restore_39 : decode cX7_restore 39 = .ok (.iinc 1 1, 3) := by decide +kernel
theorem dX7_restore_42 : decode cX7_restore 42 = .ok (.goto (-22), 3) := by decide +kernel
theorem dX7_restore_45 : decode cX7_restore 45 = .ok (.aload_n 0, 1) := by decide +kernel
theorem dX7_restore_46 : decode cX7_restore 46 = .ok (.getfield 7, 3) := by decide +kernel
theorem dX7_restore_49 : decode cX7_restore 49 = .ok (.iconst 0, 1) := by decide +kernel
theorem dX7_restore_50 : decode cX7_restore 50 = .ok (.iaload, 1) := by decide +kernel
theorem dX7_restore_51 : decode cX7_restore 51 = .ok (.ireturn, 1) := by decide +kernel
theorem dX7_edge_0 : decode cX7_edge 0 = .ok (.iload_n 1, 1) := by decide +kernel
theorem dX7_edge_1 : decode cX7_edge 1 = .ok (.iload_n 2, 1) := by decide +kernel
theorem dX7_edge_2 : decode cX7_edge 2 = .ok (.invokestatic 71, 3) := by decide +kernel
theorem dX7_edge_5 : decode cX7_edge 5 = .ok (.istore_n 3, 1) := by decide +kernel
theorem dX7_edge_6 : decode cX7_edge 6 = .ok (.iload_n 3, 1) := by decide +kernel
theorem dX7_edge_7 : decode cX7_edge 7 = .ok (.bipush (-5), 2) := by decide +kernel
theorem dX7_edge_9 : decode cX7_edge 9 = .ok (.if_icmp .ne 7, 3) := by decide +kernel
theorem dX7_edge_12 : decode cX7_edge 12 = .ok (.iconst (-1), 1) := by decide +kernel
theorem dX7_edge_13 : decode cX7_edge 13 = .ok (.goto 12, 3) := by decide +kernel
theorem dX7_edge_16 : decode cX7_edge 16 = .ok (.aload_n 0, 1) := by decide +kernel
theorem dX7_edge_17 : decode cX7_edge 17 = .ok (.getfield 7, 3) := by decide +kernel
theorem dX7_edge_20 : decode cX7_edge 20 = .ok (.bipush 12, 2) := by decide +kernel
theorem dX7_edge_22 : decode cX7_edge 22 = .ok (.iload_n 3, 1) := by decide +kernel
theorem dX7_edge_23 : decode cX7_edge 23 = .ok (.iadd, 1) := by decide +kernel
theorem dX7_edge_24 : decode cX7_edge 24 = .ok (.iaload, 1) := by decide +kernel
theorem dX7_edge_25 : decode cX7_edge 25 = .ok (.ireturn, 1) := by decide +kernel
theorem dX7_edgesOf_0 : decode cX7_edgesOf 0 = .ok (.iconst 0, 1) := by decide +kernel
theorem dX7_edgesOf_1 : decode cX7_edgesOf 1 = .ok (.istore_n 2, 1) := by decide +kernel
theorem dX7_edgesOf_2 : decode cX7_edgesOf 2 = .ok (.iconst 0, 1) := by decide +kernel
theorem dX7_edgesOf_3 : decode cX7_edgesOf 3 = .ok (.istore_n 3, 1) := by decide +kernel
theorem dX7_edgesOf_4 : decode cX7_edgesOf 4 = .ok (.iload_n 3, 1) := by decide +kernel
theorem dX7_edgesOf_5 : decode cX7_edgesOf 5 = .ok (.iconst 4, 1) := by decide +kernel
theorem dX7_edgesOf_6 : decode cX7_edgesOf 6 = .ok (.if_icmp .ge 44, 3) := by decide +kernel
theorem dX7_edgesOf_9 : decode cX7_edgesOf 9 = .ok (.iload_n 1, 1) := by decide +kernel
theorem dX7_edgesOf_10 : decode cX7_edgesOf 10 = .ok (.iload_n 3, 1) := by decide +kernel
theorem dX7_edgesOf_11 : decode cX7_edgesOf 11 = .ok (.invokestatic 71, 3) := by decide +kernel
theorem dX7_edgesOf_14 : decode cX7_edgesOf 14 = .ok (.istore 4, 2) := by decide +kernel
theorem dX7_edgesOf_16 : decode cX7_edgesOf 16 = .ok (.iload_n 2, 1) := by decide +kernel
theorem dX7_edgesOf_17 : decode cX7_edgesOf 17 = .ok (.iload 4, 2) := by decide +kernel
theorem dX7_edgesOf_19 : decode cX7_edgesOf 19 = .ok (.bipush (-5), 2) := by decide +kernel
theorem dX7_edgesOf_21 : decode cX7_edgesOf 21 = .ok (.if_icmp .eq 20, 3) := by decide +kernel
theorem dX7_edgesOf_24 : decode cX7_edgesOf 24 = .ok (.aload_n 0, 1) := by decide +kernel
theorem dX7_edgesOf_25 : decode cX7_edgesOf 25 = .ok (.getfield 7, 3) := by decide +kernel
theorem dX7_edgesOf_28 : decode cX7_edgesOf 28 = .ok (.bipush 12, 2) := by decide +kernel
theorem dX7_edgesOf_30 : decode cX7_edgesOf 30 = .ok (.iload 4, 2) := by decide +kernel
theorem dX7_edgesOf_32 : decode cX7_edgesOf 32 = .ok (.iadd, 1) := by decide +kernel
theorem dX7_edgesOf_33 : decode cX7_edgesOf 33 = .ok (.iaload, 1) := by decide +kernel
theorem dX7_edgesOf_34 : decode cX7_edgesOf 34 = .ok (.ifCond .le 7, 3) := by decide +kernel
theorem dX7_edgesOf_37 : decode cX7_edgesOf 37 = .ok (.iconst 1, 1) := by decide +kernel
theorem dX7_edgesOf_38 : decode cX7_edgesOf 38 = .ok (.goto 4, 3) := by decide +kernel
theorem dX7_edgesOf_41 : decode cX7_edgesOf 41 = .ok (.iconst 0, 1) := by decide +kernel
theorem dX7_edgesOf_42 : decode cX7_edgesOf 42 = .ok (.iadd, 1) := by decide +kernel
theorem dX7_edgesOf_43 : decode cX7_edgesOf 43 = .ok (.istore_n 2, 1) := by decide +kernel
theorem dX7_edgesOf_44 : decode cX7_edgesOf 44 = .ok (.iinc 3 1, 3) := by decide +kernel
theorem dX7_edgesOf_47 : decode cX7_edgesOf 47 = .ok (.goto (-43), 3) := by decide +kernel
theorem dX7_edgesOf_50 : decode cX7_edgesOf 50 = .ok (.iload_n 2, 1) := by decide +kernel
theorem dX7_edgesOf_51 : decode cX7_edgesOf 51 = .ok (.ireturn, 1) := by decide +kernel
theorem dX7_field_0 : decode cX7_field 0 = .ok (.iload_n 1, 1) := by decide +kernel
theorem dX7_field_1 : decode cX7_field 1 = .ok (.invokestatic 50, 3) := by decide +kernel
theorem dX7_field_4 : decode cX7_field 4 = .ok (.ifCond .ne 5, 3) := by decide +kernel
theorem dX7_field_7 : decode cX7_field 7 = .ok (.iconst (-1), 1) := by decide +kernel
theorem dX7_field_8 : decode cX7_field 8 = .ok (.ireturn, 1) := by decide +kernel
theorem dX7_field_9 : decode cX7_field 9 = .ok (.iload_n 2, 1) := by decide +kernel
theorem dX7_field_10 : decode cX7_field 10 = .ok (.tableswitch 68 0 4 #[34, 44, 50, 56, 62], 34) := by decide +kernel
theorem dX7_field_44 : decode cX7_field 44 = .ok (.aload_n 0, 1) := by decide +kernel
theorem dX7_field_45 : decode cX7_field 45 = .ok (.getfield 7, 3) := by decide +kernel
theorem dX7_field_48 : decode cX7_field 48 = .ok (.bipush 94, 2) := by decide +kernel
theorem dX7_field_50 : decode cX7_field 50 = .ok (.iload_n 1, 1) := by decide +kernel
theorem dX7_field_51 : decode cX7_field 51 = .ok (.iadd, 1) := by decide +kernel
theorem dX7_field_52 : decode cX7_field 52 = .ok (.iaload, 1) := by decide +kernel
theorem dX7_field_53 : decode cX7_field 53 = .ok (.ireturn, 1) := by decide +kernel
theorem dX7_field_54 : decode cX7_field 54 = .ok (.aload_n 0, 1) := by decide +kernel
theorem dX7_field_55 : decode cX7_field 55 = .ok (.iload_n 1, 1) := by decide +kernel
theorem dX7_field_56 : decode cX7_field 56 = .ok (.invokevirtual 61, 3) := by decide +kernel
theorem dX7_field_59 : decode cX7_field 59 = .ok (.ireturn, 1) := by decide +kernel
theorem dX7_field_60 : decode cX7_field 60 = .ok (.aload_n 0, 1) := by decide +kernel
theorem dX7_field_61 : decode cX7_field 61 = .ok (.iload_n 1, 1) := by decide +kernel
theorem dX7_field_62 : decode cX7_field 62 = .ok (.invokevirtual 179, 3) := by decide +kernel
theorem dX7_field_65 : decode cX7_field 65 = .ok (.ireturn, 1) := by decide +kernel
theorem dX7_field_66 : decode cX7_field 66 = .ok (.aload_n 0, 1) := by decide +kernel
theorem dX7_field_67 : decode cX7_field 67 = .ok (.iload_n 1, 1) := by decide +kernel
theorem dX7_field_68 : decode cX7_field 68 = .ok (.invokevirtual 182, 3) := by decide +kernel
theorem dX7_field_71 : decode cX7_field 71 = .ok (.ireturn, 1) := by decide +kernel
theorem dX7_field_72 : decode cX7_field 72 = .ok (.aload_n 0, 1) := by decide +kernel
theorem dX7_field_73 : decode cX7_field 73 = .ok (.iload_n 1, 1) := by decide +kernel
theorem dX7_field_74 : decode cX7_field 74 = .ok (.invokevirtual 185, 3) := by decide +kernel
theorem dX7_field_77 : decode cX7_field 77 = .ok (.ireturn, 1) := by decide +kernel
theorem dX7_field_78 : decode cX7_field 78 = .ok (.bipush (-2), 2) := by decide +kernel
theorem dX7_field_80 : decode cX7_field 80 = .ok (.ireturn, 1) := by decide +kernel
theorem dX7_joined_0 : decode cX7_joined 0 = .ok (.iload_n 1, 1) := by decide +kernel
theorem dX7_joined_1 : decode cX7_joined 1 = .ok (.invokestatic 50, 3) := by decide +kernel
theorem dX7_joined_4 : decode cX7_joined 4 = .ok (.ifCond .eq 11, 3) := by decide +kernel
theorem dX7_joined_7 : decode cX7_joined 7 = .ok (.aload_n 0, 1) := by decide +kernel
theorem dX7_joined_8 : decode cX7_joined 8 = .ok (.iload_n 1, 1) := by decide +kernel
theorem dX7_joined_9 : decode cX7_joined 9 = .ok (.invokevirtual 61, 3) := by decide +kernel
theorem dX7_joined_12 : decode cX7_joined 12 = .ok (.goto 4, 3) := by decide +kernel
theorem dX7_joined_15 : decode cX7_joined 15 = .ok (.iconst (-1), 1) := by decide +kernel
theorem dX7_joined_16 : decode cX7_joined 16 = .ok (.ireturn, 1) := by decide +kernel
theorem dX7_letter_0 : decode cX7_letter 0 = .ok (.aload_n 0, 1) := by decide +kernel
theorem dX7_letter_1 : decode cX7_letter 1 = .ok (.iload_n 1, 1) := by decide +kernel
theorem dX7_letter_2 : decode cX7_letter 2 = .ok (.invokevirtual 123, 3) := by decide +kernel
theorem dX7_letter_5 : decode cX7_letter 5 = .ok (.ifCond .ne 7, 3) := by decide +kernel
theorem dX7_letter_8 : decode cX7_letter 8 = .ok (.iconst (-1), 1) := by decide +kernel
theorem dX7_letter_9 : decode cX7_letter 9 = .ok (.goto 24, 3) := by decide +kernel
theorem dX7_letter_12 : decode cX7_letter 12 = .ok (.iload_n 2, 1) := by decide +kernel
theorem dX7_letter_13 : decode cX7_letter 13 = .ok (.iconst 0, 1) := by decide +kernel
theorem dX7_letter_14 : decode cX7_letter 14 = .ok (.bipush 9, 2) := by decide +kernel
theorem dX7_letter_16 : decode cX7_letter 16 = .ok (.invokestatic 39, 3) := by decide +kernel
theorem dX7_letter_19 : decode cX7_letter 19 = .ok (.ifCond .eq 12, 3) := by decide +kernel
theorem dX7_letter_22 : decode cX7_letter 22 = .ok (.aload_n 0, 1) := by decide +kernel
theorem dX7_letter_23 : decode cX7_letter 23 = .ok (.iload_n 1, 1) := by decide +kernel
theorem dX7_letter_24 : decode cX7_letter 24 = .ok (.iload_n 2, 1) := by decide +kernel
theorem dX7_letter_25 : decode cX7_letter 25 = .ok (.invokevirtual 68, 3) := by decide +kernel
theorem dX7_letter_28 : decode cX7_letter 28 = .ok (.goto 5, 3) := by decide +kernel
theorem dX7_letter_31 : decode cX7_letter 31 = .ok (.bipush (-2), 2) := by decide +kernel
theorem dX7_letter_33 : decode cX7_letter 33 = .ok (.ireturn, 1) := by decide +kernel
theorem dX7_cross_0 : decode cX7_cross 0 = .ok (.aload_n 0, 1) := by decide +kernel
theorem dX7_cross_1 : decode cX7_cross 1 = .ok (.iload_n 1, 1) := by decide +kernel
theorem dX7_cross_2 : decode cX7_cross 2 = .ok (.bipush 6, 2) := by decide +kernel
theorem dX7_cross_4 : decode cX7_cross 4 = .ok (.invokevirtual 68, 3) := by decide +kernel
theorem dX7_cross_7 : decode cX7_cross 7 = .ok (.iconst 3, 1) := by decide +kernel
theorem dX7_cross_8 : decode cX7_cross 8 = .ok (.if_icmp .eq 14, 3) := by decide +kernel
theorem dX7_cross_11 : decode cX7_cross 11 = .ok (.aload_n 0, 1) := by decide +kernel
theorem dX7_cross_12 : decode cX7_cross 12 = .ok (.iload_n 2, 1) := by decide +kernel
theorem dX7_cross_13 : decode cX7_cross 13 = .ok (.bipush 6, 2) := by decide +kernel
theorem dX7_cross_15 : decode cX7_cross 15 = .ok (.invokevirtual 68, 3) := by decide +kernel
theorem dX7_cross_18 : decode cX7_cross 18 = .ok (.iconst 3, 1) := by decide +kernel
theorem dX7_cross_19 : decode cX7_cross 19 = .ok (.if_icmp .ne 7, 3) := by decide +kernel
theorem dX7_cross_22 : decode cX7_cross 22 = .ok (.iconst 1, 1) := by decide +kernel
theorem dX7_cross_23 : decode cX7_cross 23 = .ok (.goto 4, 3) := by decide +kernel
theorem dX7_cross_26 : decode cX7_cross 26 = .ok (.iconst 0, 1) := by decide +kernel
theorem dX7_cross_27 : decode cX7_cross 27 = .ok (.istore_n 3, 1) := by decide +kernel
theorem dX7_cross_28 : decode cX7_cross 28 = .ok (.iload_n 3, 1) := by decide +kernel
theorem dX7_cross_29 : decode cX7_cross 29 = .ok (.ifCond .ne 52, 3) := by decide +kernel
theorem dX7_cross_32 : decode cX7_cross 32 = .ok (.aload_n 0, 1) := by decide +kernel
theorem dX7_cross_33 : decode cX7_cross 33 = .ok (.iload_n 1, 1) := by decide +kernel
theorem dX7_cross_34 : decode cX7_cross 34 = .ok (.iconst 0, 1) := by decide +kernel
theorem dX7_cross_35 : decode cX7_cross 35 = .ok (.invokevirtual 68, 3) := by decide +kernel
theorem dX7_cross_38 : decode cX7_cross 38 = .ok (.aload_n 0, 1) := by decide +kernel
theorem dX7_cross_39 : decode cX7_cross 39 = .ok (.iload_n 2, 1) := by decide +kernel
theorem dX7_cross_40 : decode cX7_cross 40 = .ok (.iconst 0, 1) := by decide +kernel
theorem dX7_cross_41 : decode cX7_cross 41 = .ok (.invokevirtual 68, 3) := by decide +kernel
theorem dX7_cross_44 : decode cX7_cross 44 = .ok (.if_icmp .eq 37, 3) := by decide +kernel
theorem dX7_cross_47 : decode cX7_cross 47 = .ok (.aload_n 0, 1) := by decide +kernel
theorem dX7_cross_48 : decode cX7_cross 48 = .ok (.iload_n 1, 1) := by decide +kernel
theorem dX7_cross_49 : decode cX7_cross 49 = .ok (.iconst 4, 1) := by decide +kernel
theorem dX7_cross_50 : decode cX7_cross 50 = .ok (.invokevirtual 68, 3) := by decide +kernel
theorem dX7_cross_53 : decode cX7_cross 53 = .ok (.aload_n 0, 1) := by decide +kernel
theorem dX7_cross_54 : decode cX7_cross 54 = .ok (.iload_n 2, 1) := by decide +kernel
theorem dX7_cross_55 : decode cX7_cross 55 = .ok (.iconst 5, 1) := by decide +kernel
theorem dX7_cross_56 : decode cX7_cross 56 = .ok (.invokevirtual 68, 3) := by decide +kernel
theorem dX7_cross_59 : decode cX7_cross 59 = .ok (.if_icmp .ge 22, 3) := by decide +kernel
theorem dX7_cross_62 : decode cX7_cross 62 = .ok (.aload_n 0, 1) := by decide +kernel
theorem dX7_cross_63 : decode cX7_cross 63 = .ok (.iload_n 2, 1) := by decide +kernel
theorem dX7_cross_64 : decode cX7_cross 64 = .ok (.iconst 4, 1) := by decide +kernel
theorem dX7_cross_65 : decode cX7_cross 65 = .ok (.invokevirtual 68, 3) := by decide +kernel
theorem dX7_cross_68 : decode cX7_cross 68 = .ok (.aload_n 0, 1) := by decide +kernel
theorem dX7_cross_69 : decode cX7_cross 69 = .ok (.iload_n 1, 1) := by decide +kernel
theorem dX7_cross_70 : decode cX7_cross 70 = .ok (.iconst 5, 1) := by decide +kernel
theorem dX7_cross_71 : decode cX7_cross 71 = .ok (.invokevirtual 68, 3) := by decide +kernel
theorem dX7_cross_74 : decode cX7_cross 74 = .ok (.if_icmp .ge 7, 3) := by decide +kernel
theorem dX7_cross_77 : decode cX7_cross 77 = .ok (.iconst 1, 1) := by decide +kernel
theorem dX7_cross_78 : decode cX7_cross 78 = .ok (.goto 4, 3) := by decide +kernel
theorem dX7_cross_81 : decode cX7_cross 81 = .ok (.iconst 0, 1) := by decide +kernel
theorem dX7_cross_82 : decode cX7_cross 82 = .ok (.ireturn, 1) := by decide +kernel
theorem dX7_crossed_0 : decode cX7_crossed 0 = .ok (.aload_n 0, 1) := by decide +kernel
theorem dX7_crossed_1 : decode cX7_crossed 1 = .ok (.iload_n 1, 1) := by decide +kernel
theorem dX7_crossed_2 : decode cX7_crossed 2 = .ok (.invokevirtual 123, 3) := by decide +kernel
theorem dX7_crossed_5 : decode cX7_crossed 5 = .ok (.ifCond .eq 11, 3) := by decide +kernel
theorem dX7_crossed_8 : decode cX7_crossed 8 = .ok (.aload_n 0, 1) := by decide +kernel
theorem dX7_crossed_9 : decode cX7_crossed 9 = .ok (.iload_n 2, 1) := by decide +kernel
theorem dX7_crossed_10 : decode cX7_crossed 10 = .ok (.invokevirtual 123, 3) := by decide +kernel
theorem dX7_crossed_13 : decode cX7_crossed 13 = .ok (.ifCond .ne 5, 3) := by decide +kernel
theorem dX7_crossed_16 : decode cX7_crossed 16 = .ok (.iconst (-1), 1) := by decide +kernel
theorem dX7_crossed_17 : decode cX7_crossed 17 = .ok (.ireturn, 1) := by decide +kernel
theorem dX7_crossed_18 : decode cX7_crossed 18 = .ok (.iload_n 1, 1) := by decide +kernel
theorem dX7_crossed_19 : decode cX7_crossed 19 = .ok (.iload_n 2, 1) := by decide +kernel
theorem dX7_crossed_20 : decode cX7_crossed 20 = .ok (.if_icmp .ne 8, 3) := by decide +kernel
theorem dX7_crossed_23 : decode cX7_crossed 23 = .ok (.bipush (-2), 2) := by decide +kernel
theorem dX7_crossed_25 : decode cX7_crossed 25 = .ok (.goto 17, 3) := by decide +kernel
theorem dX7_crossed_28 : decode cX7_crossed 28 = .ok (.aload_n 0, 1) := by decide +kernel
theorem dX7_crossed_29 : decode cX7_crossed 29 = .ok (.iload_n 1, 1) := by decide +kernel
theorem dX7_crossed_30 : decode cX7_crossed 30 = .ok (.iload_n 2, 1) := by decide +kernel
theorem dX7_crossed_31 : decode cX7_crossed 31 = .ok (.invokevirtual 188, 3) := by decide +kernel
theorem dX7_crossed_34 : decode cX7_crossed 34 = .ok (.ifCond .eq 7, 3) := by decide +kernel
theorem dX7_crossed_37 : decode cX7_crossed 37 = .ok (.iconst 1, 1) := by decide +kernel
theorem dX7_crossed_38 : decode cX7_crossed 38 = .ok (.goto 4, 3) := by decide +kernel
theorem dX7_crossed_41 : decode cX7_crossed 41 = .ok (.iconst 0, 1) := by decide +kernel
theorem dX7_crossed_42 : decode cX7_crossed 42 = .ok (.ireturn, 1) := by decide +kernel
theorem dX7_reasonEdge_0 : decode cX7_reasonEdge 0 = .ok (.iload_n 2, 1) := by decide +kernel
theorem dX7_reasonEdge_1 : decode cX7_reasonEdge 1 = .ok (.iload_n 3, 1) := by decide +kernel
theorem dX7_reasonEdge_2 : decode cX7_reasonEdge 2 = .ok (.invokestatic 71, 3) := by decide +kernel
theorem dX7_reasonEdge_5 : decode cX7_reasonEdge 5 = .ok (.istore 4, 2) := by decide +kernel
theorem dX7_reasonEdge_7 : decode cX7_reasonEdge 7 = .ok (.iload 4, 2) := by decide +kernel
theorem dX7_reasonEdge_9 : decode cX7_reasonEdge 9 = .ok (.bipush (-5), 2) := by decide +kernel
theorem dX7_reasonEdge_11 : decode cX7_reasonEdge 11 = .ok (.if_icmp .ne 7, 3) := by decide +kernel
theorem dX7_reasonEdge_14 : decode cX7_reasonEdge 14 = .ok (.iconst (-1), 1) := by decide +kernel
theorem dX7_reasonEdge_15 : decode cX7_reasonEdge 15 = .ok (.goto 10, 3) := by decide +kernel
theorem dX7_reasonEdge_18 : decode cX7_reasonEdge 18 = .ok (.aload_n 0, 1) := by decide +kernel
theorem dX7_reasonEdge_19 : decode cX7_reasonEdge 19 = .ok (.iload_n 1, 1) := by decide +kernel
theorem dX7_reasonEdge_20 : decode cX7_reasonEdge 20 = .ok (.iload 4, 2) := by decide +kernel
theorem dX7_reasonEdge_22 : decode cX7_reasonEdge 22 = .ok (.invokevirtual 77, 3) := by decide +kernel
theorem dX7_reasonEdge_25 : decode cX7_reasonEdge 25 = .ok (.ireturn, 1) := by decide +kernel
theorem dX7_reasonClaim_0 : decode cX7_reasonClaim 0 = .ok (.iload_n 1, 1) := by decide +kernel
theorem dX7_reasonClaim_1 : decode cX7_reasonClaim 1 = .ok (.invokestatic 50, 3) := by decide +kernel
theorem dX7_reasonClaim_4 : decode cX7_reasonClaim 4 = .ok (.ifCond .eq 11, 3) := by decide +kernel
theorem dX7_reasonClaim_7 : decode cX7_reasonClaim 7 = .ok (.aload_n 0, 1) := by decide +kernel
theorem dX7_reasonClaim_8 : decode cX7_reasonClaim 8 = .ok (.iload_n 1, 1) := by decide +kernel
theorem dX7_reasonClaim_9 : decode cX7_reasonClaim 9 = .ok (.invokevirtual 81, 3) := by decide +kernel
theorem dX7_reasonClaim_12 : decode cX7_reasonClaim 12 = .ok (.goto 4, 3) := by decide +kernel
theorem dX7_reasonClaim_15 : decode cX7_reasonClaim 15 = .ok (.iconst (-1), 1) := by decide +kernel
theorem dX7_reasonClaim_16 : decode cX7_reasonClaim 16 = .ok (.ireturn, 1) := by decide +kernel
theorem dX7_nextLetter_0 : decode cX7_nextLetter 0 = .ok (.bipush (-5), 2) := by decide +kernel
theorem dX7_nextLetter_2 : decode cX7_nextLetter 2 = .ok (.istore_n 1, 1) := by decide +kernel
theorem dX7_nextLetter_3 : decode cX7_nextLetter 3 = .ok (.aload_n 0, 1) := by decide +kernel
theorem dX7_nextLetter_4 : decode cX7_nextLetter 4 = .ok (.getfield 7, 3) := by decide +kernel
theorem dX7_nextLetter_7 : decode cX7_nextLetter 7 = .ok (.iconst 1, 1) := by decide +kernel
theorem dX7_nextLetter_8 : decode cX7_nextLetter 8 = .ok (.iaload, 1) := by decide +kernel
theorem dX7_nextLetter_9 : decode cX7_nextLetter 9 = .ok (.iconst 1, 1) := by decide +kernel
theorem dX7_nextLetter_10 : decode cX7_nextLetter 10 = .ok (.isub, 1) := by decide +kernel
theorem dX7_nextLetter_11 : decode cX7_nextLetter 11 = .ok (.istore_n 2, 1) := by decide +kernel
theorem dX7_nextLetter_12 : decode cX7_nextLetter 12 = .ok (.iload_n 2, 1) := by decide +kernel
theorem dX7_nextLetter_13 : decode cX7_nextLetter 13 = .ok (.ifCond .lt 46, 3) := by decide +kernel
theorem dX7_nextLetter_16 : decode cX7_nextLetter 16 = .ok (.aload_n 0, 1) := by decide +kernel
theorem dX7_nextLetter_17 : decode cX7_nextLetter 17 = .ok (.iload_n 2, 1) := by decide +kernel
theorem dX7_nextLetter_18 : decode cX7_nextLetter 18 = .ok (.bipush 6, 2) := by decide +kernel
theorem dX7_nextLetter_20 : decode cX7_nextLetter 20 = .ok (.invokevirtual 68, 3) := by decide +kernel
theorem dX7_nextLetter_23 : decode cX7_nextLetter 23 = .ok (.ifCond .ne 28, 3) := by decide +kernel
theorem dX7_nextLetter_26 : decode cX7_nextLetter 26 = .ok (.iload_n 1, 1) := by decide +kernel
theorem dX7_nextLetter_27 : decode cX7_nextLetter 27 = .ok (.bipush (-5), 2) := by decide +kernel
theorem dX7_nextLetter_29 : decode cX7_nextLetter 29 = .ok (.if_icmp .eq 18, 3) := by decide +kernel
theorem dX7_nextLetter_32 : decode cX7_nextLetter 32 = .ok (.aload_n 0, 1) := by decide +kernel
theorem dX7_nextLetter_33 : decode cX7_nextLetter 33 = .ok (.iload_n 2, 1) := by decide +kernel
theorem dX7_nextLetter_34 : decode cX7_nextLetter 34 = .ok (.iconst 5, 1) := by decide +kernel
theorem dX7_nextLetter_35 : decode cX7_nextLetter 35 = .ok (.invokevirtual 68, 3) := by decide +kernel
theorem dX7_nextLetter_38 : decode cX7_nextLetter 38 = .ok (.aload_n 0, 1) := by decide +kernel
theorem dX7_nextLetter_39 : decode cX7_nextLetter 39 = .ok (.iload_n 1, 1) := by decide +kernel
theorem dX7_nextLetter_40 : decode cX7_nextLetter 40 = .ok (.iconst 5, 1) := by decide +kernel
theorem dX7_nextLetter_41 : decode cX7_nextLetter 41 = .ok (.invokevirtual 68, 3) := by decide +kernel
theorem dX7_nextLetter_44 : decode cX7_nextLetter 44 = .ok (.if_icmp .gt 7, 3) := by decide +kernel
theorem dX7_nextLetter_47 : decode cX7_nextLetter 47 = .ok (.iload_n 2, 1) := by decide +kernel
theorem dX7_nextLetter_48 : decode cX7_nextLetter 48 = .ok (.goto 4, 3) := by decide +kernel
theorem dX7_nextLetter_51 : decode cX7_nextLetter 51 = .ok (.iload_n 1, 1) := by decide +kernel
theorem dX7_nextLetter_52 : decode cX7_nextLetter 52 = .ok (.istore_n 1, 1) := by decide +kernel
theorem dX7_nextLetter_53 : decode cX7_nextLetter 53 = .ok (.iinc 2 (-1), 3) := by decide +kernel
theorem dX7_nextLetter_56 : decode cX7_nextLetter 56 = .ok (.goto (-44), 3) := by decide +kernel
theorem dX7_nextLetter_59 : decode cX7_nextLetter 59 = .ok (.iload_n 1, 1) := by decide +kernel
theorem dX7_nextLetter_60 : decode cX7_nextLetter 60 = .ok (.ireturn, 1) := by decide +kernel
theorem dX7_next_0 : decode cX7_next 0 = .ok (.iload_n 1, 1) := by decide +kernel
theorem dX7_next_1 : decode cX7_next 1 = .ok (.iconst 0, 1) := by decide +kernel
theorem dX7_next_2 : decode cX7_next 2 = .ok (.iconst 1, 1) := by decide +kernel
theorem dX7_next_3 : decode cX7_next 3 = .ok (.invokestatic 39, 3) := by decide +kernel
theorem dX7_next_6 : decode cX7_next 6 = .ok (.ifCond .ne 6, 3) := by decide +kernel
theorem dX7_next_9 : decode cX7_next 9 = .ok (.bipush (-2), 2) := by decide +kernel
theorem dX7_next_11 : decode cX7_next 11 = .ok (.ireturn, 1) := by decide +kernel
theorem dX7_next_12 : decode cX7_next 12 = .ok (.aload_n 0, 1) := by decide +kernel
theorem dX7_next_13 : decode cX7_next 13 = .ok (.invokevirtual 191, 3) := by decide +kernel
theorem dX7_next_16 : decode cX7_next 16 = .ok (.istore_n 2, 1) := by decide +kernel
theorem dX7_next_17 : decode cX7_next 17 = .ok (.iload_n 2, 1) := by decide +kernel
theorem dX7_next_18 : decode cX7_next 18 = .ok (.bipush (-5), 2) := by decide +kernel
theorem dX7_next_20 : decode cX7_next 20 = .ok (.if_icmp .eq 7, 3) := by decide +kernel
theorem dX7_next_23 : decode cX7_next 23 = .ok (.iload_n 1, 1) := by decide +kernel
theorem dX7_next_24 : decode cX7_next 24 = .ok (.ifCond .ne 7, 3) := by decide +kernel
theorem dX7_next_27 : decode cX7_next 27 = .ok (.iload_n 2, 1) := by decide +kernel
theorem dX7_next_28 : decode cX7_next 28 = .ok (.goto 16, 3) := by decide +kernel
theorem dX7_next_31 : decode cX7_next 31 = .ok (.aload_n 0, 1) := by decide +kernel
theorem dX7_next_32 : decode cX7_next 32 = .ok (.iload_n 2, 1) := by decide +kernel
theorem dX7_next_33 : decode cX7_next 33 = .ok (.iconst 5, 1) := by decide +kernel
theorem dX7_next_34 : decode cX7_next 34 = .ok (.invokevirtual 68, 3) := by decide +kernel
theorem dX7_next_37 : decode cX7_next 37 = .ok (.aload_n 0, 1) := by decide +kernel
theorem dX7_next_38 : decode cX7_next 38 = .ok (.getfield 7, 3) := by decide +kernel
theorem dX7_next_41 : decode cX7_next 41 = .ok (.iconst 0, 1) := by decide +kernel
theorem dX7_next_42 : decode cX7_next 42 = .ok (.iaload, 1) := by decide +kernel
theorem dX7_next_43 : decode cX7_next 43 = .ok (.isub, 1) := by decide +kernel
theorem dX7_next_44 : decode cX7_next 44 = .ok (.ireturn, 1) := by decide +kernel
theorem dX7_lettersThat_0 : decode cX7_lettersThat 0 = .ok (.iconst 0, 1) := by decide +kernel
theorem dX7_lettersThat_1 : decode cX7_lettersThat 1 = .ok (.istore_n 2, 1) := by decide +kernel
theorem dX7_lettersThat_2 : decode cX7_lettersThat 2 = .ok (.iconst 0, 1) := by decide +kernel
theorem dX7_lettersThat_3 : decode cX7_lettersThat 3 = .ok (.istore_n 3, 1) := by decide +kernel
theorem dX7_lettersThat_4 : decode cX7_lettersThat 4 = .ok (.iload_n 3, 1) := by decide +kernel
theorem dX7_lettersThat_5 : decode cX7_lettersThat 5 = .ok (.aload_n 0, 1) := by decide +kernel
theorem dX7_lettersThat_6 : decode cX7_lettersThat 6 = .ok (.getfield 7, 3) := by decide +kernel
theorem dX7_lettersThat_9 : decode cX7_lettersThat 9 = .ok (.iconst 1, 1) := by decide +kernel
theorem dX7_lettersThat_10 : decode cX7_lettersThat 10 = .ok (.iaload, 1) := by decide +kernel
theorem dX7_lettersThat_11 : decode cX7_lettersThat 11 = .ok (.if_icmp .ge 28, 3) := by decide +kernel
theorem dX7_lettersThat_14 : decode cX7_lettersThat 14 = .ok (.iload_n 2, 1) := by decide +kernel
theorem dX7_lettersThat_15 : decode cX7_lettersThat 15 = .ok (.aload_n 0, 1) := by decide +kernel
theorem dX7_lettersThat_16 : decode cX7_lettersThat 16 = .ok (.iload_n 3, 1) := by decide +kernel
theorem dX7_lettersThat_17 : decode cX7_lettersThat 17 = .ok (.bipush 6, 2) := by decide +kernel
theorem dX7_lettersThat_19 : decode cX7_lettersThat 19 = .ok (.invokevirtual 68, 3) := by decide +kernel
theorem dX7_lettersThat_22 : decode cX7_lettersThat 22 = .ok (.iload_n 1, 1) := by decide +kernel
theorem dX7_lettersThat_23 : decode cX7_lettersThat 23 = .ok (.if_icmp .ne 7, 3) := by decide +kernel
theorem dX7_lettersThat_26 : decode cX7_lettersThat 26 = .ok (.iconst 1, 1) := by decide +kernel
theorem dX7_lettersThat_27 : decode cX7_lettersThat 27 = .ok (.goto 4, 3) := by decide +kernel
theorem dX7_lettersThat_30 : decode cX7_lettersThat 30 = .ok (.iconst 0, 1) := by decide +kernel
theorem dX7_lettersThat_31 : decode cX7_lettersThat 31 = .ok (.iadd, 1) := by decide +kernel
theorem dX7_lettersThat_32 : decode cX7_lettersThat 32 = .ok (.istore_n 2, 1) := by decide +kernel
theorem dX7_lettersThat_33 : decode cX7_lettersThat 33 = .ok (.iinc 3 1, 3) := by decide +kernel
theorem dX7_lettersThat_36 : decode cX7_lettersThat 36 = .ok (.goto (-32), 3) := by decide +kernel
theorem dX7_lettersThat_39 : decode cX7_lettersThat 39 = .ok (.iload_n 2, 1) := by decide +kernel
theorem dX7_lettersThat_40 : decode cX7_lettersThat 40 = .ok (.ireturn, 1) := by decide +kernel
theorem dX7_edgesThat_0 : decode cX7_edgesThat 0 = .ok (.iconst 0, 1) := by decide +kernel
theorem dX7_edgesThat_1 : decode cX7_edgesThat 1 = .ok (.istore_n 2, 1) := by decide +kernel
theorem dX7_edgesThat_2 : decode cX7_edgesThat 2 = .ok (.iconst 0, 1) := by decide +kernel
theorem dX7_edgesThat_3 : decode cX7_edgesThat 3 = .ok (.istore_n 3, 1) := by decide +kernel
theorem dX7_edgesThat_4 : decode cX7_edgesThat 4 = .ok (.iload_n 3, 1) := by decide +kernel
theorem dX7_edgesThat_5 : decode cX7_edgesThat 5 = .ok (.bipush 82, 2) := by decide +kernel
theorem dX7_edgesThat_7 : decode cX7_edgesThat 7 = .ok (.if_icmp .ge 30, 3) := by decide +kernel
theorem dX7_edgesThat_10 : decode cX7_edgesThat 10 = .ok (.iload_n 2, 1) := by decide +kernel
theorem dX7_edgesThat_11 : decode cX7_edgesThat 11 = .ok (.aload_n 0, 1) := by decide +kernel
theorem dX7_edgesThat_12 : decode cX7_edgesThat 12 = .ok (.getfield 7, 3) := by decide +kernel
theorem dX7_edgesThat_15 : decode cX7_edgesThat 15 = .ok (.bipush 12, 2) := by decide +kernel
theorem dX7_edgesThat_17 : decode cX7_edgesThat 17 = .ok (.iload_n 3, 1) := by decide +kernel
theorem dX7_edgesThat_18 : decode cX7_edgesThat 18 = .ok (.iadd, 1) := by decide +kernel
theorem dX7_edgesThat_19 : decode cX7_edgesThat 19 = .ok (.iaload, 1) := by decide +kernel
theorem dX7_edgesThat_20 : decode cX7_edgesThat 20 = .ok (.iload_n 1, 1) := by decide +kernel
theorem dX7_edgesThat_21 : decode cX7_edgesThat 21 = .ok (.if_icmp .ne 7, 3) := by decide +kernel
theorem dX7_edgesThat_24 : decode cX7_edgesThat 24 = .ok (.iconst 1, 1) := by decide +kernel
theorem dX7_edgesThat_25 : decode cX7_edgesThat 25 = .ok (.goto 4, 3) := by decide +kernel
theorem dX7_edgesThat_28 : decode cX7_edgesThat 28 = .ok (.iconst 0, 1) := by decide +kernel
theorem dX7_edgesThat_29 : decode cX7_edgesThat 29 = .ok (.iadd, 1) := by decide +kernel
theorem dX7_edgesThat_30 : decode cX7_edgesThat 30 = .ok (.istore_n 2, 1) := by decide +kernel
theorem dX7_edgesThat_31 : decode cX7_edgesThat 31 = .ok (.iinc 3 1, 3) := by decide +kernel
theorem dX7_edgesThat_34 : decode cX7_edgesThat 34 = .ok (.goto (-30), 3) := by decide +kernel
theorem dX7_edgesThat_37 : decode cX7_edgesThat 37 = .ok (.iload_n 2, 1) := by decide +kernel
theorem dX7_edgesThat_38 : decode cX7_edgesThat 38 = .ok (.ireturn, 1) := by decide +kernel
theorem dX7_fieldsOf_0 : decode cX7_fieldsOf 0 = .ok (.iconst 0, 1) := by decide +kernel
theorem dX7_fieldsOf_1 : decode cX7_fieldsOf 1 = .ok (.istore_n 2, 1) := by decide +kernel
theorem dX7_fieldsOf_2 : decode cX7_fieldsOf 2 = .ok (.iconst 0, 1) := by decide +kernel
theorem dX7_fieldsOf_3 : decode cX7_fieldsOf 3 = .ok (.istore_n 3, 1) := by decide +kernel
theorem dX7_fieldsOf_4 : decode cX7_fieldsOf 4 = .ok (.iload_n 3, 1) := by decide +kernel
theorem dX7_fieldsOf_5 : decode cX7_fieldsOf 5 = .ok (.bipush 48, 2) := by decide +kernel
theorem dX7_fieldsOf_7 : decode cX7_fieldsOf 7 = .ok (.if_icmp .ge 30, 3) := by decide +kernel
theorem dX7_fieldsOf_10 : decode cX7_fieldsOf 10 = .ok (.iload_n 2, 1) := by decide +kernel
theorem dX7_fieldsOf_11 : decode cX7_fieldsOf 11 = .ok (.aload_n 0, 1) := by decide +kernel
theorem dX7_fieldsOf_12 : decode cX7_fieldsOf 12 = .ok (.getfield 7, 3) := by decide +kernel
theorem dX7_fieldsOf_15 : decode cX7_fieldsOf 15 = .ok (.bipush 94, 2) := by decide +kernel
theorem dX7_fieldsOf_17 : decode cX7_fieldsOf 17 = .ok (.iload_n 3, 1) := by decide +kernel
theorem dX7_fieldsOf_18 : decode cX7_fieldsOf 18 = .ok (.iadd, 1) := by decide +kernel
theorem dX7_fieldsOf_19 : decode cX7_fieldsOf 19 = .ok (.iaload, 1) := by decide +kernel
theorem dX7_fieldsOf_20 : decode cX7_fieldsOf 20 = .ok (.iload_n 1, 1) := by decide +kernel
theorem dX7_fieldsOf_21 : decode cX7_fieldsOf 21 = .ok (.if_icmp .ne 7, 3) := by decide +kernel
theorem dX7_fieldsOf_24 : decode cX7_fieldsOf 24 = .ok (.iconst 1, 1) := by decide +kernel
theorem dX7_fieldsOf_25 : decode cX7_fieldsOf 25 = .ok (.goto 4, 3) := by decide +kernel
theorem dX7_fieldsOf_28 : decode cX7_fieldsOf 28 = .ok (.iconst 0, 1) := by decide +kernel
theorem dX7_fieldsOf_29 : decode cX7_fieldsOf 29 = .ok (.iadd, 1) := by decide +kernel
theorem dX7_fieldsOf_30 : decode cX7_fieldsOf 30 = .ok (.istore_n 2, 1) := by decide +kernel
theorem dX7_fieldsOf_31 : decode cX7_fieldsOf 31 = .ok (.iinc 3 1, 3) := by decide +kernel
theorem dX7_fieldsOf_34 : decode cX7_fieldsOf 34 = .ok (.goto (-30), 3) := by decide +kernel
theorem dX7_fieldsOf_37 : decode cX7_fieldsOf 37 = .ok (.iload_n 2, 1) := by decide +kernel
theorem dX7_fieldsOf_38 : decode cX7_fieldsOf 38 = .ok (.ireturn, 1) := by decide +kernel
theorem dX7_ifAllCome_0 : decode cX7_ifAllCome 0 = .ok (.iload_n 1, 1) := by decide +kernel
theorem dX7_ifAllCome_1 : decode cX7_ifAllCome 1 = .ok (.iconst 0, 1) := by decide +kernel
theorem dX7_ifAllCome_2 : decode cX7_ifAllCome 2 = .ok (.iconst 3, 1) := by decide +kernel
theorem dX7_ifAllCome_3 : decode cX7_ifAllCome 3 = .ok (.invokestatic 39, 3) := by decide +kernel
theorem dX7_ifAllCome_6 : decode cX7_ifAllCome 6 = .ok (.ifCond .ne 6, 3) := by decide +kernel
theorem dX7_ifAllCome_9 : decode cX7_ifAllCome 9 = .ok (.bipush (-2), 2) := by decide +kernel
theorem dX7_ifAllCome_11 : decode cX7_ifAllCome 11 = .ok (.ireturn, 1) := by decide +kernel
theorem dX7_ifAllCome_12 : decode cX7_ifAllCome 12 = .ok (.aload_n 0, 1) := by decide +kernel
theorem dX7_ifAllCome_13 : decode cX7_ifAllCome 13 = .ok (.invokevirtual 194, 3) := by decide +kernel
theorem dX7_ifAllCome_16 : decode cX7_ifAllCome 16 = .ok (.aload_n 0, 1) := by decide +kernel
theorem dX7_ifAllCome_17 : decode cX7_ifAllCome 17 = .ok (.invokevirtual 191, 3) := by decide +kernel
theorem dX7_ifAllCome_20 : decode cX7_ifAllCome 20 = .ok (.bipush (-5), 2) := by decide +kernel
theorem dX7_ifAllCome_22 : decode cX7_ifAllCome 22 = .ok (.if_icmp .eq 11, 3) := by decide +kernel
theorem dX7_ifAllCome_25 : decode cX7_ifAllCome 25 = .ok (.aload_n 0, 1) := by decide +kernel
theorem dX7_ifAllCome_26 : decode cX7_ifAllCome 26 = .ok (.invokevirtual 103, 3) := by decide +kernel
theorem dX7_ifAllCome_29 : decode cX7_ifAllCome 29 = .ok (.istore_n 2, 1) := by decide +kernel
theorem dX7_ifAllCome_30 : decode cX7_ifAllCome 30 = .ok (.goto (-14), 3) := by decide +kernel
theorem dX7_ifAllCome_33 : decode cX7_ifAllCome 33 = .ok (.iload_n 1, 1) := by decide +kernel
theorem dX7_ifAllCome_34 : decode cX7_ifAllCome 34 = .ok (.iconst 2, 1) := by decide +kernel
theorem dX7_ifAllCome_35 : decode cX7_ifAllCome 35 = .ok (.if_icmp .ge 11, 3) := by decide +kernel
theorem dX7_ifAllCome_38 : decode cX7_ifAllCome 38 = .ok (.aload_n 0, 1) := by decide +kernel
theorem dX7_ifAllCome_39 : decode cX7_ifAllCome 39 = .ok (.iload_n 1, 1) := by decide +kernel
theorem dX7_ifAllCome_40 : decode cX7_ifAllCome 40 = .ok (.invokevirtual 197, 3) := by decide +kernel
theorem dX7_ifAllCome_43 : decode cX7_ifAllCome 43 = .ok (.goto 21, 3) := by decide +kernel
theorem dX7_ifAllCome_46 : decode cX7_ifAllCome 46 = .ok (.iload_n 1, 1) := by decide +kernel
theorem dX7_ifAllCome_47 : decode cX7_ifAllCome 47 = .ok (.iconst 2, 1) := by decide +kernel
theorem dX7_ifAllCome_48 : decode cX7_ifAllCome 48 = .ok (.if_icmp .ne 11, 3) := by decide +kernel
theorem dX7_ifAllCome_51 : decode cX7_ifAllCome 51 = .ok (.aload_n 0, 1) := by decide +kernel
theorem dX7_ifAllCome_52 : decode cX7_ifAllCome 52 = .ok (.iconst 3, 1) := by decide +kernel
theorem dX7_ifAllCome_53 : decode cX7_ifAllCome 53 = .ok (.invokevirtual 200, 3) := by decide +kernel
theorem dX7_ifAllCome_56 : decode cX7_ifAllCome 56 = .ok (.goto 8, 3) := by decide +kernel
theorem dX7_ifAllCome_59 : decode cX7_ifAllCome 59 = .ok (.aload_n 0, 1) := by decide +kernel
theorem dX7_ifAllCome_60 : decode cX7_ifAllCome 60 = .ok (.iconst 2, 1) := by decide +kernel
theorem dX7_ifAllCome_61 : decode cX7_ifAllCome 61 = .ok (.invokevirtual 203, 3) := by decide +kernel
theorem dX7_ifAllCome_64 : decode cX7_ifAllCome 64 = .ok (.istore_n 2, 1) := by decide +kernel
theorem dX7_ifAllCome_65 : decode cX7_ifAllCome 65 = .ok (.aload_n 0, 1) := by decide +kernel
theorem dX7_ifAllCome_66 : decode cX7_ifAllCome 66 = .ok (.invokevirtual 206, 3) := by decide +kernel
theorem dX7_ifAllCome_69 : decode cX7_ifAllCome 69 = .ok (.iload_n 2, 1) := by decide +kernel
theorem dX7_ifAllCome_70 : decode cX7_ifAllCome 70 = .ok (.ireturn, 1) := by decide +kernel
theorem dX7_bestClaim_0 : decode cX7_bestClaim 0 = .ok (.iload_n 1, 1) := by decide +kernel
theorem dX7_bestClaim_1 : decode cX7_bestClaim 1 = .ok (.iconst 0, 1) := by decide +kernel
theorem dX7_bestClaim_2 : decode cX7_bestClaim 2 = .ok (.iconst 1, 1) := by decide +kernel
theorem dX7_bestClaim_3 : decode cX7_bestClaim 3 = .ok (.invokestatic 39, 3) := by decide +kernel
theorem dX7_bestClaim_6 : decode cX7_bestClaim 6 = .ok (.ifCond .ne 6, 3) := by decide +kernel
theorem dX7_bestClaim_9 : decode cX7_bestClaim 9 = .ok (.bipush (-2), 2) := by decide +kernel
theorem dX7_bestClaim_11 : decode cX7_bestClaim 11 = .ok (.ireturn, 1) := by decide +kernel
theorem dX7_bestClaim_12 : decode cX7_bestClaim 12 = .ok (.bipush (-5), 2) := by decide +kernel
theorem dX7_bestClaim_14 : decode cX7_bestClaim 14 = .ok (.istore_n 2, 1) := by decide +kernel
theorem dX7_bestClaim_15 : decode cX7_bestClaim 15 = .ok (.bipush (-5), 2) := by decide +kernel
theorem dX7_bestClaim_17 : decode cX7_bestClaim 17 = .ok (.istore_n 3, 1) := by decide +kernel
theorem dX7_bestClaim_18 : decode cX7_bestClaim 18 = .ok (.iconst 0, 1) := by decide +kernel
theorem dX7_bestClaim_19 : decode cX7_bestClaim 19 = .ok (.istore 4, 2) := by decide +kernel
theorem dX7_bestClaim_21 : decode cX7_bestClaim 21 = .ok (.iload 4, 2) := by decide +kernel
theorem dX7_bestClaim_23 : decode cX7_bestClaim 23 = .ok (.bipush 48, 2) := by decide +kernel
theorem dX7_bestClaim_25 : decode cX7_bestClaim 25 = .ok (.if_icmp .ge 52, 3) := by decide +kernel
theorem dX7_bestClaim_28 : decode cX7_bestClaim 28 = .ok (.aload_n 0, 1) := by decide +kernel
theorem dX7_bestClaim_29 : decode cX7_bestClaim 29 = .ok (.iload 4, 2) := by decide +kernel
theorem dX7_bestClaim_31 : decode cX7_bestClaim 31 = .ok (.invokevirtual 81, 3) := by decide +kernel
theorem dX7_bestClaim_34 : decode cX7_bestClaim 34 = .ok (.ifCond .ne 37, 3) := by decide +kernel
theorem dX7_bestClaim_37 : decode cX7_bestClaim 37 = .ok (.aload_n 0, 1) := by decide +kernel
theorem dX7_bestClaim_38 : decode cX7_bestClaim 38 = .ok (.iload 4, 2) := by decide +kernel
theorem dX7_bestClaim_40 : decode cX7_bestClaim 40 = .ok (.invokevirtual 179, 3) := by decide +kernel
theorem dX7_bestClaim_43 : decode cX7_bestClaim 43 = .ok (.istore 5, 2) := by decide +kernel
theorem dX7_bestClaim_45 : decode cX7_bestClaim 45 = .ok (.iload 5, 2) := by decide +kernel
theorem dX7_bestClaim_47 : decode cX7_bestClaim 47 = .ok (.iload_n 3, 1) := by decide +kernel
theorem dX7_bestClaim_48 : decode cX7_bestClaim 48 = .ok (.if_icmp .le 8, 3) := by decide +kernel
theorem dX7_bestClaim_51 : decode cX7_bestClaim 51 = .ok (.iload 4, 2) := by decide +kernel
theorem dX7_bestClaim_53 : decode cX7_bestClaim 53 = .ok (.goto 4, 3) := by decide +kernel
theorem dX7_bestClaim_56 : decode cX7_bestClaim 56 = .ok (.iload_n 2, 1) := by decide +kernel
theorem dX7_bestClaim_57 : decode cX7_bestClaim 57 = .ok (.istore_n 2, 1) := by decide +kernel
theorem dX7_bestClaim_58 : decode cX7_bestClaim 58 = .ok (.iload 5, 2) := by decide +kernel
theorem dX7_bestClaim_60 : decode cX7_bestClaim 60 = .ok (.iload_n 3, 1) := by decide +kernel
theorem dX7_bestClaim_61 : decode cX7_bestClaim 61 = .ok (.if_icmp .le 8, 3) := by decide +kernel
theorem dX7_bestClaim_64 : decode cX7_bestClaim 64 = .ok (.iload 5, 2) := by decide +kernel
theorem dX7_bestClaim_66 : decode cX7_bestClaim 66 = .ok (.goto 4, 3) := by decide +kernel
theorem dX7_bestClaim_69 : decode cX7_bestClaim 69 = .ok (.iload_n 3, 1) := by decide +kernel
theorem dX7_bestClaim_70 : decode cX7_bestClaim 70 = .ok (.istore_n 3, 1) := by decide +kernel
theorem dX7_bestClaim_71 : decode cX7_bestClaim 71 = .ok (.iinc 4 1, 3) := by decide +kernel
theorem dX7_bestClaim_74 : decode cX7_bestClaim 74 = .ok (.goto (-53), 3) := by decide +kernel
theorem dX7_bestClaim_77 : decode cX7_bestClaim 77 = .ok (.iload_n 1, 1) := by decide +kernel
theorem dX7_bestClaim_78 : decode cX7_bestClaim 78 = .ok (.ifCond .ne 7, 3) := by decide +kernel
theorem dX7_bestClaim_81 : decode cX7_bestClaim 81 = .ok (.iload_n 2, 1) := by decide +kernel
theorem dX7_bestClaim_82 : decode cX7_bestClaim 82 = .ok (.goto 4, 3) := by decide +kernel
theorem dX7_bestClaim_85 : decode cX7_bestClaim 85 = .ok (.iload_n 3, 1) := by decide +kernel
theorem dX7_bestClaim_86 : decode cX7_bestClaim 86 = .ok (.ireturn, 1) := by decide +kernel
theorem dX7_regions_0 : decode cX7_regions 0 = .ok (.iconst 0, 1) := by decide +kernel
theorem dX7_regions_1 : decode cX7_regions 1 = .ok (.istore_n 1, 1) := by decide +kernel
theorem dX7_regions_2 : decode cX7_regions 2 = .ok (.iconst 0, 1) := by decide +kernel
theorem dX7_regions_3 : decode cX7_regions 3 = .ok (.istore_n 2, 1) := by decide +kernel
theorem dX7_regions_4 : decode cX7_regions 4 = .ok (.iload_n 2, 1) := by decide +kernel
theorem dX7_regions_5 : decode cX7_regions 5 = .ok (.bipush 48, 2) := by decide +kernel
theorem dX7_regions_7 : decode cX7_regions 7 = .ok (.if_icmp .ge 26, 3) := by decide +kernel
theorem dX7_regions_10 : decode cX7_regions 10 = .ok (.iload_n 1, 1) := by decide +kernel
theorem dX7_regions_11 : decode cX7_regions 11 = .ok (.aload_n 0, 1) := by decide +kernel
theorem dX7_regions_12 : decode cX7_regions 12 = .ok (.iload_n 2, 1) := by decide +kernel
theorem dX7_regions_13 : decode cX7_regions 13 = .ok (.invokevirtual 182, 3) := by decide +kernel
theorem dX7_regions_16 : decode cX7_regions 16 = .ok (.iload_n 2, 1) := by decide +kernel
theorem dX7_regions_17 : decode cX7_regions 17 = .ok (.if_icmp .ne 7, 3) := by decide +kernel
theorem dX7_regions_20 : decode cX7_regions 20 = .ok (.iconst 1, 1) := by decide +kernel
theorem dX7_regions_21 : decode cX7_regions 21 = .ok (.goto 4, 3) := by decide +kernel
theorem dX7_regions_24 : decode cX7_regions 24 = .ok (.iconst 0, 1) := by decide +kernel
theorem dX7_regions_25 : decode cX7_regions 25 = .ok (.iadd, 1) := by decide +kernel
theorem dX7_regions_26 : decode cX7_regions 26 = .ok (.istore_n 1, 1) := by decide +kernel
theorem dX7_regions_27 : decode cX7_regions 27 = .ok (.iinc 2 1, 3) := by decide +kernel
theorem dX7_regions_30 : decode cX7_regions 30 = .ok (.goto (-26), 3) := by decide +kernel
theorem dX7_regions_33 : decode cX7_regions 33 = .ok (.iload_n 1, 1) := by decide +kernel
theorem dX7_regions_34 : decode cX7_regions 34 = .ok (.ireturn, 1) := by decide +kernel
theorem dX7_count_0 : decode cX7_count 0 = .ok (.iload_n 1, 1) := by decide +kernel
theorem dX7_count_1 : decode cX7_count 1 = .ok (.tableswitch 198 0 19 #[95, 95, 102, 108, 108, 116, 116, 127, 127, 136, 136, 136, 145, 150, 163, 163, 176, 176, 188, 193], 95) := by decide +kernel
theorem dX7_count_96 : decode cX7_count 96 = .ok (.aload_n 0, 1) := by decide +kernel
theorem dX7_count_97 : decode cX7_count 97 = .ok (.getfield 7, 3) := by decide +kernel
theorem dX7_count_100 : decode cX7_count 100 = .ok (.iload_n 1, 1) := by decide +kernel
theorem dX7_count_101 : decode cX7_count 101 = .ok (.iaload, 1) := by decide +kernel
theorem dX7_count_102 : decode cX7_count 102 = .ok (.ireturn, 1) := by decide +kernel
theorem dX7_count_103 : decode cX7_count 103 = .ok (.aload_n 0, 1) := by decide +kernel
theorem dX7_count_104 : decode cX7_count 104 = .ok (.iconst 0, 1) := by decide +kernel
theorem dX7_count_105 : decode cX7_count 105 = .ok (.invokevirtual 203, 3) := by decide +kernel
theorem dX7_count_108 : decode cX7_count 108 = .ok (.ireturn, 1) := by decide +kernel
theorem dX7_count_109 : decode cX7_count 109 = .ok (.aload_n 0, 1) := by decide +kernel
theorem dX7_count_110 : decode cX7_count 110 = .ok (.iload_n 1, 1) := by decide +kernel
theorem dX7_count_111 : decode cX7_count 111 = .ok (.iconst 2, 1) := by decide +kernel
theorem dX7_count_112 : decode cX7_count 112 = .ok (.isub, 1) := by decide +kernel
theorem dX7_count_113 : decode cX7_count 113 = .ok (.invokevirtual 203, 3) := by decide +kernel
theorem dX7_count_116 : decode cX7_count 116 = .ok (.ireturn, 1) := by decide +kernel
theorem dX7_count_117 : decode cX7_count 117 = .ok (.aload_n 0, 1) := by decide +kernel
theorem dX7_count_118 : decode cX7_count 118 = .ok (.getfield 7, 3) := by decide +kernel
theorem dX7_count_121 : decode cX7_count 121 = .ok (.iconst 2, 1) := by decide +kernel
theorem dX7_count_122 : decode cX7_count 122 = .ok (.iload_n 1, 1) := by decide +kernel
theorem dX7_count_123 : decode cX7_count 123 = .ok (.iadd, 1) := by decide +kernel
theorem dX7_count_124 : decode cX7_count 124 = .ok (.iconst 5, 1) := by decide +kernel
theorem dX7_count_125 : decode cX7_count 125 = .ok (.isub, 1) := by decide +kernel
theorem dX7_count_126 : decode cX7_count 126 = .ok (.iaload, 1) := by decide +kernel
theorem dX7_count_127 : decode cX7_count 127 = .ok (.ireturn, 1) := by decide +kernel
theorem dX7_count_128 : decode cX7_count 128 = .ok (.aload_n 0, 1) := by decide +kernel
theorem dX7_count_129 : decode cX7_count 129 = .ok (.iload_n 1, 1) := by decide +kernel
theorem dX7_count_130 : decode cX7_count 130 = .ok (.bipush 7, 2) := by decide +kernel
theorem dX7_count_132 : decode cX7_count 132 = .ok (.isub, 1) := by decide +kernel
theorem dX7_count_133 : decode cX7_count 133 = .ok (.invokevirtual 197, 3) := by decide +kernel
theorem dX7_count_136 : decode cX7_count 136 = .ok (.ireturn, 1) := by decide +kernel
theorem dX7_count_137 : decode cX7_count 137 = .ok (.aload_n 0, 1) := by decide +kernel
theorem dX7_count_138 : decode cX7_count 138 = .ok (.iload_n 1, 1) := by decide +kernel
theorem dX7_count_139 : decode cX7_count 139 = .ok (.bipush 8, 2) := by decide +kernel
theorem dX7_count_141 : decode cX7_count 141 = .ok (.isub, 1) := by decide +kernel
theorem dX7_count_142 : decode cX7_count 142 = .ok (.invokevirtual 200, 3) := by decide +kernel
theorem dX7_count_145 : decode cX7_count 145 = .ok (.ireturn, 1) := by decide +kernel
theorem dX7_count_146 : decode cX7_count 146 = .ok (.aload_n 0, 1) := by decide +kernel
theorem dX7_count_147 : decode cX7_count 147 = .ok (.invokevirtual 209, 3) := by decide +kernel
theorem dX7_count_150 : decode cX7_count 150 = .ok (.ireturn, 1) := by decide +kernel
theorem dX7_count_151 : decode cX7_count 151 = .ok (.aload_n 0, 1) := by decide +kernel
theorem dX7_count_152 : decode cX7_count 152 = .ok (.invokevirtual 64, 3) := by decide +kernel
theorem dX7_count_155 : decode cX7_count 155 = .ok (.ifCond .eq 7, 3) := by decide +kernel
theorem dX7_count_158 : decode cX7_count 158 = .ok (.iconst 1, 1) := by decide +kernel
theorem dX7_count_159 : decode cX7_count 159 = .ok (.goto 4, 3) := by decide +kernel
theorem dX7_count_162 : decode cX7_count 162 = .ok (.iconst 0, 1) := by decide +kernel
theorem dX7_count_163 : decode cX7_count 163 = .ok (.ireturn, 1) := by decide +kernel
theorem dX7_count_164 : decode cX7_count 164 = .ok (.aload_n 0, 1) := by decide +kernel
theorem dX7_count_165 : decode cX7_count 165 = .ok (.getfield 7, 3) := by decide +kernel
theorem dX7_count_168 : decode cX7_count 168 = .ok (.bipush 6, 2) := by decide +kernel
theorem dX7_count_170 : decode cX7_count 170 = .ok (.iload_n 1, 1) := by decide +kernel
theorem dX7_count_171 : decode cX7_count 171 = .ok (.iadd, 1) := by decide +kernel
theorem dX7_count_172 : decode cX7_count 172 = .ok (.bipush 14, 2) := by decide +kernel
theorem dX7_count_174 : decode cX7_count 174 = .ok (.isub, 1) := by decide +kernel
theorem dX7_count_175 : decode cX7_count 175 = .ok (.iaload, 1) := by decide +kernel
theorem dX7_count_176 : decode cX7_count 176 = .ok (.ireturn, 1) := by decide +kernel
theorem dX7_count_177 : decode cX7_count 177 = .ok (.aload_n 0, 1) := by decide +kernel
theorem dX7_count_178 : decode cX7_count 178 = .ok (.getfield 7, 3) := by decide +kernel
theorem dX7_count_181 : decode cX7_count 181 = .ok (.iconst 4, 1) := by decide +kernel
theorem dX7_count_182 : decode cX7_count 182 = .ok (.iload_n 1, 1) := by decide +kernel
theorem dX7_count_183 : decode cX7_count 183 = .ok (.iadd, 1) := by decide +kernel
theorem dX7_count_184 : decode cX7_count 184 = .ok (.bipush 16, 2) := by decide +kernel
theorem dX7_count_186 : decode cX7_count 186 = .ok (.isub, 1) := by decide +kernel
theorem dX7_count_187 : decode cX7_count 187 = .ok (.iaload, 1) := by decide +kernel
theorem dX7_count_188 : decode cX7_count 188 = .ok (.ireturn, 1) := by decide +kernel
theorem dX7_count_189 : decode cX7_count 189 = .ok (.aload_n 0, 1) := by decide +kernel
theorem dX7_count_190 : decode cX7_count 190 = .ok (.getfield 47, 3) := by decide +kernel
theorem dX7_count_193 : decode cX7_count 193 = .ok (.ireturn, 1) := by decide +kernel
theorem dX7_count_194 : decode cX7_count 194 = .ok (.aload_n 0, 1) := by decide +kernel
theorem dX7_count_195 : decode cX7_count 195 = .ok (.getfield 129, 3) := by decide +kernel
theorem dX7_count_198 : decode cX7_count 198 = .ok (.ireturn, 1) := by decide +kernel
theorem dX7_count_199 : decode cX7_count 199 = .ok (.bipush (-2), 2) := by decide +kernel
theorem dX7_count_201 : decode cX7_count 201 = .ok (.ireturn, 1) := by decide +kernel
theorem dJ9_floorMod_7cf53_0 : decode cJ9_floorMod_7cf53 0 = .ok (.iload_n 0, 1) := by decide +kernel
theorem dJ9_floorMod_7cf53_1 : decode cJ9_floorMod_7cf53 1 = .ok (.iload_n 1, 1) := by decide +kernel
theorem dJ9_floorMod_7cf53_2 : decode cJ9_floorMod_7cf53 2 = .ok (.irem, 1) := by decide +kernel
theorem dJ9_floorMod_7cf53_3 : decode cJ9_floorMod_7cf53 3 = .ok (.istore_n 2, 1) := by decide +kernel
theorem dJ9_floorMod_7cf53_4 : decode cJ9_floorMod_7cf53 4 = .ok (.iload_n 0, 1) := by decide +kernel
theorem dJ9_floorMod_7cf53_5 : decode cJ9_floorMod_7cf53 5 = .ok (.iload_n 1, 1) := by decide +kernel
theorem dJ9_floorMod_7cf53_6 : decode cJ9_floorMod_7cf53 6 = .ok (.ixor, 1) := by decide +kernel
theorem dJ9_floorMod_7cf53_7 : decode cJ9_floorMod_7cf53 7 = .ok (.ifCond .ge 11, 3) := by decide +kernel
theorem dJ9_floorMod_7cf53_10 : decode cJ9_floorMod_7cf53 10 = .ok (.iload_n 2, 1) := by decide +kernel
theorem dJ9_floorMod_7cf53_11 : decode cJ9_floorMod_7cf53 11 = .ok (.ifCond .eq 7, 3) := by decide +kernel
theorem dJ9_floorMod_7cf53_14 : decode cJ9_floorMod_7cf53 14 = .ok (.iload_n 2, 1) := by decide +kernel
theorem dJ9_floorMod_7cf53_15 : decode cJ9_floorMod_7cf53 15 = .ok (.iload_n 1, 1) := by decide +kernel
theorem dJ9_floorMod_7cf53_16 : decode cJ9_floorMod_7cf53 16 = .ok (.iadd, 1) := by decide +kernel
theorem dJ9_floorMod_7cf53_17 : decode cJ9_floorMod_7cf53 17 = .ok (.ireturn, 1) := by decide +kernel
theorem dJ9_floorMod_7cf53_18 : decode cJ9_floorMod_7cf53 18 = .ok (.iload_n 2, 1) := by decide +kernel
theorem dJ9_floorMod_7cf53_19 : decode cJ9_floorMod_7cf53 19 = .ok (.ireturn, 1) := by decide +kernel
theorem dJ7_fill_53178_0 : decode cJ7_fill_53178 0 = .ok (.iconst 0, 1) := by decide +kernel
theorem dJ7_fill_53178_1 : decode cJ7_fill_53178 1 = .ok (.istore_n 2, 1) := by decide +kernel
theorem dJ7_fill_53178_2 : decode cJ7_fill_53178 2 = .ok (.aload_n 0, 1) := by decide +kernel
theorem dJ7_fill_53178_3 : decode cJ7_fill_53178 3 = .ok (.arraylength, 1) := by decide +kernel
theorem dJ7_fill_53178_4 : decode cJ7_fill_53178 4 = .ok (.istore_n 3, 1) := by decide +kernel
theorem dJ7_fill_53178_5 : decode cJ7_fill_53178 5 = .ok (.iload_n 2, 1) := by decide +kernel
theorem dJ7_fill_53178_6 : decode cJ7_fill_53178 6 = .ok (.iload_n 3, 1) := by decide +kernel
theorem dJ7_fill_53178_7 : decode cJ7_fill_53178 7 = .ok (.if_icmp .ge 13, 3) := by decide +kernel
theorem dJ7_fill_53178_10 : decode cJ7_fill_53178 10 = .ok (.aload_n 0, 1) := by decide +kernel
theorem dJ7_fill_53178_11 : decode cJ7_fill_53178 11 = .ok (.iload_n 2, 1) := by decide +kernel
theorem dJ7_fill_53178_12 : decode cJ7_fill_53178 12 = .ok (.iload_n 1, 1) := by decide +kernel
theorem dJ7_fill_53178_13 : decode cJ7_fill_53178 13 = .ok (.iastore, 1) := by decide +kernel
theorem dJ7_fill_53178_14 : decode cJ7_fill_53178 14 = .ok (.iinc 2 1, 3) := by decide +kernel
theorem dJ7_fill_53178_17 : decode cJ7_fill_53178 17 = .ok (.goto (-12), 3) := by decide +kernel
theorem dJ7_fill_53178_20 : decode cJ7_fill_53178 20 = .ok (.return_, 1) := by decide +kernel
theorem dL_law_0 : decode cL_law 0 = .ok (.new 7, 3) := by decide +kernel
theorem dL_law_3 : decode cL_law 3 = .ok (.dup, 1) := by decide +kernel
theorem dL_law_4 : decode cL_law 4 = .ok (.invokespecial 9, 3) := by decide +kernel
theorem dL_law_7 : decode cL_law 7 = .ok (.astore_n 1, 1) := by decide +kernel
theorem dL_law_8 : decode cL_law 8 = .ok (.new 10, 3) := by decide +kernel
theorem dL_law_11 : decode cL_law 11 = .ok (.dup, 1) := by decide +kernel
theorem dL_law_12 : decode cL_law 12 = .ok (.invokespecial 12, 3) := by decide +kernel
theorem dL_law_15 : decode cL_law 15 = .ok (.astore_n 2, 1) := by decide +kernel
theorem dL_law_16 : decode cL_law 16 = .ok (.iconst 0, 1) := by decide +kernel
theorem dL_law_17 : decode cL_law 17 = .ok (.istore_n 3, 1) := by decide +kernel
theorem dL_law_18 : decode cL_law 18 = .ok (.iload_n 3, 1) := by decide +kernel
theorem dL_law_19 : decode cL_law 19 = .ok (.aload_n 0, 1) := by decide +kernel
theorem dL_law_20 : decode cL_law 20 = .ok (.arraylength, 1) := by decide +kernel
theorem dL_law_21 : decode cL_law 21 = .ok (.iconst 5, 1) := by decide +kernel
theorem dL_law_22 : decode cL_law 22 = .ok (.isub, 1) := by decide +kernel
theorem dL_law_23 : decode cL_law 23 = .ok (.if_icmp .gt 783, 3) := by decide +kernel
theorem dL_law_26 : decode cL_law 26 = .ok (.aload_n 0, 1) := by decide +kernel
theorem dL_law_27 : decode cL_law 27 = .ok (.iload_n 3, 1) := by decide +kernel
theorem dL_law_28 : decode cL_law 28 = .ok (.iaload, 1) := by decide +kernel
theorem dL_law_29 : decode cL_law 29 = .ok (.bipush 31, 2) := by decide +kernel
theorem dL_law_31 : decode cL_law 31 = .ok (.iand, 1) := by decide +kernel
theorem dL_law_32 : decode cL_law 32 = .ok (.tableswitch 768 0 23 #[112, 181, 214, 247, 270, 293, 326, 351, 364, 377, 400, 413, 426, 439, 472, 505, 528, 561, 594, 653, 676, 699, 722, 745], 112) := by decide +kernel
theorem dL_law_144 : decode cL_law 144 = .ok (.aload_n 1, 1) := by decide +kernel
theorem dL_law_145 : decode cL_law 145 = .ok (.aload_n 0, 1) := by decide +kernel
theorem dL_law_146 : decode cL_law 146 = .ok (.iload_n 3, 1) := by decide +kernel
theorem dL_law_147 : decode cL_law 147 = .ok (.iconst 1, 1) := by decide +kernel
theorem dL_law_148 : decode cL_law 148 = .ok (.iadd, 1) := by decide +kernel
theorem dL_law_149 : decode cL_law 149 = .ok (.iaload, 1) := by decide +kernel
theorem dL_law_150 : decode cL_law 150 = .ok (.aload_n 0, 1) := by decide +kernel
theorem dL_law_151 : decode cL_law 151 = .ok (.iload_n 3, 1) := by decide +kernel
theorem dL_law_152 : decode cL_law 152 = .ok (.iconst 2, 1) := by decide +kernel
theorem dL_law_153 : decode cL_law 153 = .ok (.iadd, 1) := by decide +kernel
theorem dL_law_154 : decode cL_law 154 = .ok (.iaload, 1) := by decide +kernel
theorem dL_law_155 : decode cL_law 155 = .ok (.ifCond .eq 7, 3) := by decide +kernel
theorem dL_law_158 : decode cL_law 158 = .ok (.iconst 1, 1) := by decide +kernel
theorem dL_law_159 : decode cL_law 159 = .ok (.goto 4, 3) := by decide +kernel
theorem dL_law_162 : decode cL_law 162 = .ok (.iconst 0, 1) := by decide +kernel
theorem dL_law_163 : decode cL_law 163 = .ok (.aload_n 0, 1) := by decide +kernel
theorem dL_law_164 : decode cL_law 164 = .ok (.iload_n 3, 1) := by decide +kernel
theorem dL_law_165 : decode cL_law 165 = .ok (.iconst 3, 1) := by decide +kernel
theorem dL_law_166 : decode cL_law 166 = .ok (.iadd, 1) := by decide +kernel
theorem dL_law_167 : decode cL_law 167 = .ok (.iaload, 1) := by decide +kernel
theorem dL_law_168 : decode cL_law 168 = .ok (.aload_n 0, 1) := by decide +kernel
theorem dL_law_169 : decode cL_law 169 = .ok (.iload_n 3, 1) := by decide +kernel
theorem dL_law_170 : decode cL_law 170 = .ok (.iconst 4, 1) := by decide +kernel
theorem dL_law_171 : decode cL_law 171 = .ok (.iadd, 1) := by decide +kernel
theorem dL_law_172 : decode cL_law 172 = .ok (.iaload, 1) := by decide +kernel
theorem dL_law_173 : decode cL_law 173 = .ok (.invokevirtual 13, 3) := by decide +kernel
theorem dL_law_176 : decode cL_law 176 = .ok (.aload_n 2, 1) := by decide +kernel
theorem dL_law_177 : decode cL_law 177 = .ok (.aload_n 0, 1) := by decide +kernel
theorem dL_law_178 : decode cL_law 178 = .ok (.iload_n 3, 1) := by decide +kernel
theorem dL_law_179 : decode cL_law 179 = .ok (.iconst 1, 1) := by decide +kernel
theorem dL_law_180 : decode cL_law 180 = .ok (.iadd, 1) := by decide +kernel
theorem dL_law_181 : decode cL_law 181 = .ok (.iaload, 1) := by decide +kernel
theorem dL_law_182 : decode cL_law 182 = .ok (.aload_n 0, 1) := by decide +kernel
theorem dL_law_183 : decode cL_law 183 = .ok (.iload_n 3, 1) := by decide +kernel
theorem dL_law_184 : decode cL_law 184 = .ok (.iconst 2, 1) := by decide +kernel
theorem dL_law_185 : decode cL_law 185 = .ok (.iadd, 1) := by decide +kernel
theorem dL_law_186 : decode cL_law 186 = .ok (.iaload, 1) := by decide +kernel
theorem dL_law_187 : decode cL_law 187 = .ok (.ifCond .eq 7, 3) := by decide +kernel
theorem dL_law_190 : decode cL_law 190 = .ok (.iconst 1, 1) := by decide +kernel
theorem dL_law_191 : decode cL_law 191 = .ok (.goto 4, 3) := by decide +kernel
theorem dL_law_194 : decode cL_law 194 = .ok (.iconst 0, 1) := by decide +kernel
theorem dL_law_195 : decode cL_law 195 = .ok (.aload_n 0, 1) := by decide +kernel
theorem dL_law_196 : decode cL_law 196 = .ok (.iload_n 3, 1) := by decide +kernel
theorem dL_law_197 : decode cL_law 197 = .ok (.iconst 3, 1) := by decide +kernel
theorem dL_law_198 : decode cL_law 198 = .ok (.iadd, 1) := by decide +kernel
theorem dL_law_199 : decode cL_law 199 = .ok (.iaload, 1) := by decide +kernel
theorem dL_law_200 : decode cL_law 200 = .ok (.aload_n 0, 1) := by decide +kernel
theorem dL_law_201 : decode cL_law 201 = .ok (.iload_n 3, 1) := by decide +kernel
theorem dL_law_202 : decode cL_law 202 = .ok (.iconst 4, 1) := by decide +kernel
theorem dL_law_203 : decode cL_law 203 = .ok (.iadd, 1) := by decide +kernel
theorem dL_law_204 : decode cL_law 204 = .ok (.iaload, 1) := by decide +kernel
theorem dL_law_205 : decode cL_law 205 = .ok (.invokevirtual 17, 3) := by decide +kernel
theorem dL_law_208 : decode cL_law 208 = .ok (.if_icmp .eq 592, 3) := by decide +kernel
theorem dL_law_211 : decode cL_law 211 = .ok (.iconst 0, 1) := by decide +kernel
theorem dL_law_212 : decode cL_law 212 = .ok (.ireturn, 1) := by decide +kernel
theorem dL_law_213 : decode cL_law 213 = .ok (.aload_n 1, 1) := by decide +kernel
theorem dL_law_214 : decode cL_law 214 = .ok (.aload_n 0, 1) := by decide +kernel
theorem dL_law_215 : decode cL_law 215 = .ok (.iload_n 3, 1) := by decide +kernel
theorem dL_law_216 : decode cL_law 216 = .ok (.iconst 1, 1) := by decide +kernel
theorem dL_law_217 : decode cL_law 217 = .ok (.iadd, 1) := by decide +kernel
theorem dL_law_218 : decode cL_law 218 = .ok (.iaload, 1) := by decide +kernel
theorem dL_law_219 : decode cL_law 219 = .ok (.aload_n 0, 1) := by decide +kernel
theorem dL_law_220 : decode cL_law 220 = .ok (.iload_n 3, 1) := by decide +kernel
theorem dL_law_221 : decode cL_law 221 = .ok (.iconst 2, 1) := by decide +kernel
theorem dL_law_222 : decode cL_law 222 = .ok (.iadd, 1) := by decide +kernel
theorem dL_law_223 : decode cL_law 223 = .ok (.iaload, 1) := by decide +kernel
theorem dL_law_224 : decode cL_law 224 = .ok (.invokevirtual 18, 3) := by decide +kernel
theorem dL_law_227 : decode cL_law 227 = .ok (.aload_n 2, 1) := by decide +kernel
theorem dL_law_228 : decode cL_law 228 = .ok (.aload_n 0, 1) := by decide +kernel
theorem dL_law_229 : decode cL_law 229 = .ok (.iload_n 3, 1) := by decide +kernel
theorem dL_law_230 : decode cL_law 230 = .ok (.iconst 1, 1) := by decide +kernel
theorem dL_law_231 : decode cL_law 231 = .ok (.iadd, 1) := by decide +kernel
theorem dL_law_232 : decode cL_law 232 = .ok (.iaload, 1) := by decide +kernel
theorem dL_law_233 : decode cL_law 233 = .ok (.aload_n 0, 1) := by decide +kernel
theorem dL_law_234 : decode cL_law 234 = .ok (.iload_n 3, 1) := by decide +kernel
theorem dL_law_235 : decode cL_law 235 = .ok (.iconst 2, 1) := by decide +kernel
theorem dL_law_236 : decode cL_law 236 = .ok (.iadd, 1) := by decide +kernel
theorem dL_law_237 : decode cL_law 237 = .ok (.iaload, 1) := by decide +kernel
theorem dL_law_238 : decode cL_law 238 = .ok (.invokevirtual 22, 3) := by decide +kernel
theorem dL_law_241 : decode cL_law 241 = .ok (.if_icmp .eq 559, 3) := by decide +kernel
theorem dL_law_244 : decode cL_law 244 = .ok (.iconst 0, 1) := by decide +kernel
theorem dL_law_245 : decode cL_law 245 = .ok (.ireturn, 1) := by decide +kernel
theorem dL_law_246 : decode cL_law 246 = .ok (.aload_n 1, 1) := by decide +kernel
theorem dL_law_247 : decode cL_law 247 = .ok (.aload_n 0, 1) := by decide +kernel
theorem dL_law_248 : decode cL_law 248 = .ok (.iload_n 3, 1) := by decide +kernel
theorem dL_law_249 : decode cL_law 249 = .ok (.iconst 1, 1) := by decide +kernel
theorem dL_law_250 : decode cL_law 250 = .ok (.iadd, 1) := by decide +kernel
theorem dL_law_251 : decode cL_law 251 = .ok (.iaload, 1) := by decide +kernel
theorem dL_law_252 : decode cL_law 252 = .ok (.aload_n 0, 1) := by decide +kernel
theorem dL_law_253 : decode cL_law 253 = .ok (.iload_n 3, 1) := by decide +kernel
theorem dL_law_254 : decode cL_law 254 = .ok (.iconst 2, 1) := by decide +kernel
theorem dL_law_255 : decode cL_law 255 = .ok (.iadd, 1) := by decide +kernel
theorem dL_law_256 : decode cL_law 256 = .ok (.iaload, 1) := by decide +kernel
theorem dL_law_257 : decode cL_law 257 = .ok (.invokevirtual 23, 3) := by decide +kernel
theorem dL_law_260 : decode cL_law 260 = .ok (.aload_n 2, 1) := by decide +kernel
theorem dL_law_261 : decode cL_law 261 = .ok (.aload_n 0, 1) := by decide +kernel
theorem dL_law_262 : decode cL_law 262 = .ok (.iload_n 3, 1) := by decide +kernel
theorem dL_law_263 : decode cL_law 263 = .ok (.iconst 1, 1) := by decide +kernel
theorem dL_law_264 : decode cL_law 264 = .ok (.iadd, 1) := by decide +kernel
theorem dL_law_265 : decode cL_law 265 = .ok (.iaload, 1) := by decide +kernel
theorem dL_law_266 : decode cL_law 266 = .ok (.aload_n 0, 1) := by decide +kernel
theorem dL_law_267 : decode cL_law 267 = .ok (.iload_n 3, 1) := by decide +kernel
theorem dL_law_268 : decode cL_law 268 = .ok (.iconst 2, 1) := by decide +kernel
theorem dL_law_269 : decode cL_law 269 = .ok (.iadd, 1) := by decide +kernel
theorem dL_law_270 : decode cL_law 270 = .ok (.iaload, 1) := by decide +kernel
theorem dL_law_271 : decode cL_law 271 = .ok (.invokevirtual 26, 3) := by decide +kernel
theorem dL_law_274 : decode cL_law 274 = .ok (.if_icmp .eq 526, 3) := by decide +kernel
theorem dL_law_277 : decode cL_law 277 = .ok (.iconst 0, 1) := by decide +kernel
theorem dL_law_278 : decode cL_law 278 = .ok (.ireturn, 1) := by decide +kernel
theorem dL_law_279 : decode cL_law 279 = .ok (.aload_n 1, 1) := by decide +kernel
theorem dL_law_280 : decode cL_law 280 = .ok (.aload_n 0, 1) := by decide +kernel
theorem dL_law_281 : decode cL_law 281 = .ok (.iload_n 3, 1) := by decide +kernel
theorem dL_law_282 : decode cL_law 282 = .ok (.iconst 1, 1) := by decide +kernel
theorem dL_law_283 : decode cL_law 283 = .ok (.iadd, 1) := by decide +kernel
theorem dL_law_284 : decode cL_law 284 = .ok (.iaload, 1) := by decide +kernel
theorem dL_law_285 : decode cL_law 285 = .ok (.invokevirtual 27, 3) := by decide +kernel
theorem dL_law_288 : decode cL_law 288 = .ok (.aload_n 2, 1) := by decide +kernel
theorem dL_law_289 : decode cL_law 289 = .ok (.aload_n 0, 1) := by decide +kernel
theorem dL_law_290 : decode cL_law 290 = .ok (.iload_n 3, 1) := by decide +kernel
theorem dL_law_291 : decode cL_law 291 = .ok (.iconst 1, 1) := by decide +kernel
theorem dL_law_292 : decode cL_law 292 = .ok (.iadd, 1) := by decide +kernel
theorem dL_law_293 : decode cL_law 293 = .ok (.iaload, 1) := by decide +kernel
theorem dL_law_294 : decode cL_law 294 = .ok (.invokevirtual 31, 3) := by decide +kernel
theorem dL_law_297 : decode cL_law 297 = .ok (.if_icmp .eq 503, 3) := by decide +kernel
theorem dL_law_300 : decode cL_law 300 = .ok (.iconst 0, 1) := by decide +kernel
theorem dL_law_301 : decode cL_law 301 = .ok (.ireturn, 1) := by decide +kernel
theorem dL_law_302 : decode cL_law 302 = .ok (.aload_n 1, 1) := by decide +kernel
theorem dL_law_303 : decode cL_law 303 = .ok (.aload_n 0, 1) := by decide +kernel
theorem dL_law_304 : decode cL_law 304 = .ok (.iload_n 3, 1) := by decide +kernel
theorem dL_law_305 : decode cL_law 305 = .ok (.iconst 1, 1) := by decide +kernel
theorem dL_law_306 : decode cL_law 306 = .ok (.iadd, 1) := by decide +kernel
theorem dL_law_307 : decode cL_law 307 = .ok (.iaload, 1) := by decide +kernel
theorem dL_law_308 : decode cL_law 308 = .ok (.invokevirtual 32, 3) := by decide +kernel
theorem dL_law_311 : decode cL_law 311 = .ok (.aload_n 2, 1) := by decide +kernel
theorem dL_law_312 : decode cL_law 312 = .ok (.aload_n 0, 1) := by decide +kernel
theorem dL_law_313 : decode cL_law 313 = .ok (.iload_n 3, 1) := by decide +kernel
theorem dL_law_314 : decode cL_law 314 = .ok (.iconst 1, 1) := by decide +kernel
theorem dL_law_315 : decode cL_law 315 = .ok (.iadd, 1) := by decide +kernel
theorem dL_law_316 : decode cL_law 316 = .ok (.iaload, 1) := by decide +kernel
theorem dL_law_317 : decode cL_law 317 = .ok (.invokevirtual 35, 3) := by decide +kernel
theorem dL_law_320 : decode cL_law 320 = .ok (.if_icmp .eq 480, 3) := by decide +kernel
theorem dL_law_323 : decode cL_law 323 = .ok (.iconst 0, 1) := by decide +kernel
theorem dL_law_324 : decode cL_law 324 = .ok (.ireturn, 1) := by decide +kernel
theorem dL_law_325 : decode cL_law 325 = .ok (.aload_n 1, 1) := by decide +kernel
theorem dL_law_326 : decode cL_law 326 = .ok (.aload_n 0, 1) := by decide +kernel
theorem dL_law_327 : decode cL_law 327 = .ok (.iload_n 3, 1) := by decide +kernel
theorem dL_law_328 : decode cL_law 328 = .ok (.iconst 1, 1) := by decide +kernel
theorem dL_law_329 : decode cL_law 329 = .ok (.iadd, 1) := by decide +kernel
theorem dL_law_330 : decode cL_law 330 = .ok (.iaload, 1) := by decide +kernel
theorem dL_law_331 : decode cL_law 331 = .ok (.aload_n 0, 1) := by decide +kernel
theorem dL_law_332 : decode cL_law 332 = .ok (.iload_n 3, 1) := by decide +kernel
theorem dL_law_333 : decode cL_law 333 = .ok (.iconst 2, 1) := by decide +kernel
theorem dL_law_334 : decode cL_law 334 = .ok (.iadd, 1) := by decide +kernel
theorem dL_law_335 : decode cL_law 335 = .ok (.iaload, 1) := by decide +kernel
theorem dL_law_336 : decode cL_law 336 = .ok (.invokevirtual 36, 3) := by decide +kernel
theorem dL_law_339 : decode cL_law 339 = .ok (.aload_n 2, 1) := by decide +kernel
theorem dL_law_340 : decode cL_law 340 = .ok (.aload_n 0, 1) := by decide +kernel
theorem dL_law_341 : decode cL_law 341 = .ok (.iload_n 3, 1) := by decide +kernel
theorem dL_law_342 : decode cL_law 342 = .ok (.iconst 1, 1) := by decide +kernel
theorem dL_law_343 : decode cL_law 343 = .ok (.iadd, 1) := by decide +kernel
theorem dL_law_344 : decode cL_law 344 = .ok (.iaload, 1) := by decide +kernel
theorem dL_law_345 : decode cL_law 345 = .ok (.aload_n 0, 1) := by decide +kernel
theorem dL_law_346 : decode cL_law 346 = .ok (.iload_n 3, 1) := by decide +kernel
theorem dL_law_347 : decode cL_law 347 = .ok (.iconst 2, 1) := by decide +kernel
theorem dL_law_348 : decode cL_law 348 = .ok (.iadd, 1) := by decide +kernel
theorem dL_law_349 : decode cL_law 349 = .ok (.iaload, 1) := by decide +kernel
theorem dL_law_350 : decode cL_law 350 = .ok (.invokevirtual 39, 3) := by decide +kernel
theorem dL_law_353 : decode cL_law 353 = .ok (.if_icmp .eq 447, 3) := by decide +kernel
theorem dL_law_356 : decode cL_law 356 = .ok (.iconst 0, 1) := by decide +kernel
theorem dL_law_357 : decode cL_law 357 = .ok (.ireturn, 1) := by decide +kernel
theorem dL_law_358 : decode cL_law 358 = .ok (.aload_n 1, 1) := by decide +kernel
theorem dL_law_359 : decode cL_law 359 = .ok (.aload_n 0, 1) := by decide +kernel
theorem dL_law_360 : decode cL_law 360 = .ok (.iload_n 3, 1) := by decide +kernel
theorem dL_law_361 : decode cL_law 361 = .ok (.iconst 1, 1) := by decide +kernel
theorem dL_law_362 : decode cL_law 362 = .ok (.iadd, 1) := by decide +kernel
theorem dL_law_363 : decode cL_law 363 = .ok (.iaload, 1) := by decide +kernel
theorem dL_law_364 : decode cL_law 364 = .ok (.i2c, 1) := by decide +kernel
theorem dL_law_365 : decode cL_law 365 = .ok (.invokevirtual 40, 3) := by decide +kernel
theorem dL_law_368 : decode cL_law 368 = .ok (.aload_n 2, 1) := by decide +kernel
theorem dL_law_369 : decode cL_law 369 = .ok (.aload_n 0, 1) := by decide +kernel
theorem dL_law_370 : decode cL_law 370 = .ok (.iload_n 3, 1) := by decide +kernel
theorem dL_law_371 : decode cL_law 371 = .ok (.iconst 1, 1) := by decide +kernel
theorem dL_law_372 : decode cL_law 372 = .ok (.iadd, 1) := by decide +kernel
theorem dL_law_373 : decode cL_law 373 = .ok (.iaload, 1) := by decide +kernel
theorem dL_law_374 : decode cL_law 374 = .ok (.i2c, 1) := by decide +kernel
theorem dL_law_375 : decode cL_law 375 = .ok (.invokevirtual 44, 3) := by decide +kernel
theorem dL_law_378 : decode cL_law 378 = .ok (.if_icmp .eq 422, 3) := by decide +kernel
theorem dL_law_381 : decode cL_law 381 = .ok (.iconst 0, 1) := by decide +kernel
theorem dL_law_382 : decode cL_law 382 = .ok (.ireturn, 1) := by decide +kernel
theorem dL_law_383 : decode cL_law 383 = .ok (.aload_n 1, 1) := by decide +kernel
theorem dL_law_384 : decode cL_law 384 = .ok (.invokevirtual 45, 3) := by decide +kernel
theorem dL_law_387 : decode cL_law 387 = .ok (.aload_n 2, 1) := by decide +kernel
theorem dL_law_388 : decode cL_law 388 = .ok (.invokevirtual 49, 3) := by decide +kernel
theorem dL_law_391 : decode cL_law 391 = .ok (.if_icmp .eq 409, 3) := by decide +kernel
theorem dL_law_394 : decode cL_law 394 = .ok (.iconst 0, 1) := by decide +kernel
theorem dL_law_395 : decode cL_law 395 = .ok (.ireturn, 1) := by decide +kernel
theorem dL_law_396 : decode cL_law 396 = .ok (.aload_n 1, 1) := by decide +kernel
theorem dL_law_397 : decode cL_law 397 = .ok (.invokevirtual 50, 3) := by decide +kernel
theorem dL_law_400 : decode cL_law 400 = .ok (.aload_n 2, 1) := by decide +kernel
theorem dL_law_401 : decode cL_law 401 = .ok (.invokevirtual 53, 3) := by decide +kernel
theorem dL_law_404 : decode cL_law 404 = .ok (.if_icmp .eq 396, 3) := by decide +kernel
theorem dL_law_407 : decode cL_law 407 = .ok (.iconst 0, 1) := by decide +kernel
theorem dL_law_408 : decode cL_law 408 = .ok (.ireturn, 1) := by decide +kernel
theorem dL_law_409 : decode cL_law 409 = .ok (.aload_n 1, 1) := by decide +kernel
theorem dL_law_410 : decode cL_law 410 = .ok (.aload_n 0, 1) := by decide +kernel
theorem dL_law_411 : decode cL_law 411 = .ok (.iload_n 3, 1) := by decide +kernel
theorem dL_law_412 : decode cL_law 412 = .ok (.iconst 1, 1) := by decide +kernel
theorem dL_law_413 : decode cL_law 413 = .ok (.iadd, 1) := by decide +kernel
theorem dL_law_414 : decode cL_law 414 = .ok (.iaload, 1) := by decide +kernel
theorem dL_law_415 : decode cL_law 415 = .ok (.invokevirtual 54, 3) := by decide +kernel
theorem dL_law_418 : decode cL_law 418 = .ok (.aload_n 2, 1) := by decide +kernel
theorem dL_law_419 : decode cL_law 419 = .ok (.aload_n 0, 1) := by decide +kernel
theorem dL_law_420 : decode cL_law 420 = .ok (.iload_n 3, 1) := by decide +kernel
theorem dL_law_421 : decode cL_law 421 = .ok (.iconst 1, 1) := by decide +kernel
theorem dL_law_422 : decode cL_law 422 = .ok (.iadd, 1) := by decide +kernel
theorem dL_law_423 : decode cL_law 423 = .ok (.iaload, 1) := by decide +kernel
theorem dL_law_424 : decode cL_law 424 = .ok (.invokevirtual 57, 3) := by decide +kernel
theorem dL_law_427 : decode cL_law 427 = .ok (.if_icmp .eq 373, 3) := by decide +kernel
theorem dL_law_430 : decode cL_law 430 = .ok (.iconst 0, 1) := by decide +kernel
theorem dL_law_431 : decode cL_law 431 = .ok (.ireturn, 1) := by decide +kernel
theorem dL_law_432 : decode cL_law 432 = .ok (.aload_n 1, 1) := by decide +kernel
theorem dL_law_433 : decode cL_law 433 = .ok (.invokevirtual 58, 3) := by decide +kernel
theorem dL_law_436 : decode cL_law 436 = .ok (.aload_n 2, 1) := by decide +kernel
theorem dL_law_437 : decode cL_law 437 = .ok (.invokevirtual 61, 3) := by decide +kernel
theorem dL_law_440 : decode cL_law 440 = .ok (.if_icmp .eq 360, 3) := by decide +kernel
theorem dL_law_443 : decode cL_law 443 = .ok (.iconst 0, 1) := by decide +kernel
theorem dL_law_444 : decode cL_law 444 = .ok (.ireturn, 1) := by decide +kernel
theorem dL_law_445 : decode cL_law 445 = .ok (.aload_n 1, 1) := by decide +kernel
theorem dL_law_446 : decode cL_law 446 = .ok (.invokevirtual 62, 3) := by decide +kernel
theorem dL_law_449 : decode cL_law 449 = .ok (.aload_n 2, 1) := by decide +kernel
theorem dL_law_450 : decode cL_law 450 = .ok (.invokevirtual 65, 3) := by decide +kernel
theorem dL_law_453 : decode cL_law 453 = .ok (.if_icmp .eq 347, 3) := by decide +kernel
theorem dL_law_456 : decode cL_law 456 = .ok (.iconst 0, 1) := by decide +kernel
theorem dL_law_457 : decode cL_law 457 = .ok (.ireturn, 1) := by decide +kernel
theorem dL_law_458 : decode cL_law 458 = .ok (.aload_n 1, 1) := by decide +kernel
theorem dL_law_459 : decode cL_law 459 = .ok (.invokevirtual 66, 3) := by decide +kernel
theorem dL_law_462 : decode cL_law 462 = .ok (.aload_n 2, 1) := by decide +kernel
theorem dL_law_463 : decode cL_law 463 = .ok (.invokevirtual 69, 3) := by decide +kernel
theorem dL_law_466 : decode cL_law 466 = .ok (.if_icmp .eq 334, 3) := by decide +kernel
theorem dL_law_469 : decode cL_law 469 = .ok (.iconst 0, 1) := by decide +kernel
theorem dL_law_470 : decode cL_law 470 = .ok (.ireturn, 1) := by decide +kernel
theorem dL_law_471 : decode cL_law 471 = .ok (.aload_n 1, 1) := by decide +kernel
theorem dL_law_472 : decode cL_law 472 = .ok (.aload_n 0, 1) := by decide +kernel
theorem dL_law_473 : decode cL_law 473 = .ok (.iload_n 3, 1) := by decide +kernel
theorem dL_law_474 : decode cL_law 474 = .ok (.iconst 1, 1) := by decide +kernel
theorem dL_law_475 : decode cL_law 475 = .ok (.iadd, 1) := by decide +kernel
theorem dL_law_476 : decode cL_law 476 = .ok (.iaload, 1) := by decide +kernel
theorem dL_law_477 : decode cL_law 477 = .ok (.aload_n 0, 1) := by decide +kernel
theorem dL_law_478 : decode cL_law 478 = .ok (.iload_n 3, 1) := by decide +kernel
theorem dL_law_479 : decode cL_law 479 = .ok (.iconst 2, 1) := by decide +kernel
theorem dL_law_480 : decode cL_law 480 = .ok (.iadd, 1) := by decide +kernel
theorem dL_law_481 : decode cL_law 481 = .ok (.iaload, 1) := by decide +kernel
theorem dL_law_482 : decode cL_law 482 = .ok (.invokevirtual 70, 3) := by decide +kernel
theorem dL_law_485 : decode cL_law 485 = .ok (.aload_n 2, 1) := by decide +kernel
theorem dL_law_486 : decode cL_law 486 = .ok (.aload_n 0, 1) := by decide +kernel
theorem dL_law_487 : decode cL_law 487 = .ok (.iload_n 3, 1) := by decide +kernel
theorem dL_law_488 : decode cL_law 488 = .ok (.iconst 1, 1) := by decide +kernel
theorem dL_law_489 : decode cL_law 489 = .ok (.iadd, 1) := by decide +kernel
theorem dL_law_490 : decode cL_law 490 = .ok (.iaload, 1) := by decide +kernel
theorem dL_law_491 : decode cL_law 491 = .ok (.aload_n 0, 1) := by decide +kernel
theorem dL_law_492 : decode cL_law 492 = .ok (.iload_n 3, 1) := by decide +kernel
theorem dL_law_493 : decode cL_law 493 = .ok (.iconst 2, 1) := by decide +kernel
theorem dL_law_494 : decode cL_law 494 = .ok (.iadd, 1) := by decide +kernel
theorem dL_law_495 : decode cL_law 495 = .ok (.iaload, 1) := by decide +kernel
theorem dL_law_496 : decode cL_law 496 = .ok (.invokevirtual 73, 3) := by decide +kernel
theorem dL_law_499 : decode cL_law 499 = .ok (.if_icmp .eq 301, 3) := by decide +kernel
theorem dL_law_502 : decode cL_law 502 = .ok (.iconst 0, 1) := by decide +kernel
theorem dL_law_503 : decode cL_law 503 = .ok (.ireturn, 1) := by decide +kernel
theorem dL_law_504 : decode cL_law 504 = .ok (.aload_n 1, 1) := by decide +kernel
theorem dL_law_505 : decode cL_law 505 = .ok (.aload_n 0, 1) := by decide +kernel
theorem dL_law_506 : decode cL_law 506 = .ok (.iload_n 3, 1) := by decide +kernel
theorem dL_law_507 : decode cL_law 507 = .ok (.iconst 1, 1) := by decide +kernel
theorem dL_law_508 : decode cL_law 508 = .ok (.iadd, 1) := by decide +kernel
theorem dL_law_509 : decode cL_law 509 = .ok (.iaload, 1) := by decide +kernel
theorem dL_law_510 : decode cL_law 510 = .ok (.aload_n 0, 1) := by decide +kernel
theorem dL_law_511 : decode cL_law 511 = .ok (.iload_n 3, 1) := by decide +kernel
theorem dL_law_512 : decode cL_law 512 = .ok (.iconst 2, 1) := by decide +kernel
theorem dL_law_513 : decode cL_law 513 = .ok (.iadd, 1) := by decide +kernel
theorem dL_law_514 : decode cL_law 514 = .ok (.iaload, 1) := by decide +kernel
theorem dL_law_515 : decode cL_law 515 = .ok (.invokevirtual 74, 3) := by decide +kernel
theorem dL_law_518 : decode cL_law 518 = .ok (.aload_n 2, 1) := by decide +kernel
theorem dL_law_519 : decode cL_law 519 = .ok (.aload_n 0, 1) := by decide +kernel
theorem dL_law_520 : decode cL_law 520 = .ok (.iload_n 3, 1) := by decide +kernel
theorem dL_law_521 : decode cL_law 521 = .ok (.iconst 1, 1) := by decide +kernel
theorem dL_law_522 : decode cL_law 522 = .ok (.iadd, 1) := by decide +kernel
theorem dL_law_523 : decode cL_law 523 = .ok (.iaload, 1) := by decide +kernel
theorem dL_law_524 : decode cL_law 524 = .ok (.aload_n 0, 1) := by decide +kernel
theorem dL_law_525 : decode cL_law 525 = .ok (.iload_n 3, 1) := by decide +kernel
theorem dL_law_526 : decode cL_law 526 = .ok (.iconst 2, 1) := by decide +kernel
theorem dL_law_527 : decode cL_law 527 = .ok (.iadd, 1) := by decide +kernel
theorem dL_law_528 : decode cL_law 528 = .ok (.iaload, 1) := by decide +kernel
theorem dL_law_529 : decode cL_law 529 = .ok (.invokevirtual 77, 3) := by decide +kernel
theorem dL_law_532 : decode cL_law 532 = .ok (.if_icmp .eq 268, 3) := by decide +kernel
theorem dL_law_535 : decode cL_law 535 = .ok (.iconst 0, 1) := by decide +kernel
theorem dL_law_536 : decode cL_law 536 = .ok (.ireturn, 1) := by decide +kernel
theorem dL_law_537 : decode cL_law 537 = .ok (.aload_n 1, 1) := by decide +kernel
theorem dL_law_538 : decode cL_law 538 = .ok (.aload_n 0, 1) := by decide +kernel
theorem dL_law_539 : decode cL_law 539 = .ok (.iload_n 3, 1) := by decide +kernel
theorem dL_law_540 : decode cL_law 540 = .ok (.iconst 1, 1) := by decide +kernel
theorem dL_law_541 : decode cL_law 541 = .ok (.iadd, 1) := by decide +kernel
theorem dL_law_542 : decode cL_law 542 = .ok (.iaload, 1) := by decide +kernel
theorem dL_law_543 : decode cL_law 543 = .ok (.invokevirtual 78, 3) := by decide +kernel
theorem dL_law_546 : decode cL_law 546 = .ok (.aload_n 2, 1) := by decide +kernel
theorem dL_law_547 : decode cL_law 547 = .ok (.aload_n 0, 1) := by decide +kernel
theorem dL_law_548 : decode cL_law 548 = .ok (.iload_n 3, 1) := by decide +kernel
theorem dL_law_549 : decode cL_law 549 = .ok (.iconst 1, 1) := by decide +kernel
theorem dL_law_550 : decode cL_law 550 = .ok (.iadd, 1) := by decide +kernel
theorem dL_law_551 : decode cL_law 551 = .ok (.iaload, 1) := by decide +kernel
theorem dL_law_552 : decode cL_law 552 = .ok (.invokevirtual 81, 3) := by decide +kernel
theorem dL_law_555 : decode cL_law 555 = .ok (.if_icmp .eq 245, 3) := by decide +kernel
theorem dL_law_558 : decode cL_law 558 = .ok (.iconst 0, 1) := by decide +kernel
theorem dL_law_559 : decode cL_law 559 = .ok (.ireturn, 1) := by decide +kernel
theorem dL_law_560 : decode cL_law 560 = .ok (.aload_n 1, 1) := by decide +kernel
theorem dL_law_561 : decode cL_law 561 = .ok (.aload_n 0, 1) := by decide +kernel
theorem dL_law_562 : decode cL_law 562 = .ok (.iload_n 3, 1) := by decide +kernel
theorem dL_law_563 : decode cL_law 563 = .ok (.iconst 1, 1) := by decide +kernel
theorem dL_law_564 : decode cL_law 564 = .ok (.iadd, 1) := by decide +kernel
theorem dL_law_565 : decode cL_law 565 = .ok (.iaload, 1) := by decide +kernel
theorem dL_law_566 : decode cL_law 566 = .ok (.aload_n 0, 1) := by decide +kernel
theorem dL_law_567 : decode cL_law 567 = .ok (.iload_n 3, 1) := by decide +kernel
theorem dL_law_568 : decode cL_law 568 = .ok (.iconst 2, 1) := by decide +kernel
theorem dL_law_569 : decode cL_law 569 = .ok (.iadd, 1) := by decide +kernel
theorem dL_law_570 : decode cL_law 570 = .ok (.iaload, 1) := by decide +kernel
theorem dL_law_571 : decode cL_law 571 = .ok (.invokevirtual 82, 3) := by decide +kernel
theorem dL_law_574 : decode cL_law 574 = .ok (.aload_n 2, 1) := by decide +kernel
theorem dL_law_575 : decode cL_law 575 = .ok (.aload_n 0, 1) := by decide +kernel
theorem dL_law_576 : decode cL_law 576 = .ok (.iload_n 3, 1) := by decide +kernel
theorem dL_law_577 : decode cL_law 577 = .ok (.iconst 1, 1) := by decide +kernel
theorem dL_law_578 : decode cL_law 578 = .ok (.iadd, 1) := by decide +kernel
theorem dL_law_579 : decode cL_law 579 = .ok (.iaload, 1) := by decide +kernel
theorem dL_law_580 : decode cL_law 580 = .ok (.aload_n 0, 1) := by decide +kernel
theorem dL_law_581 : decode cL_law 581 = .ok (.iload_n 3, 1) := by decide +kernel
theorem dL_law_582 : decode cL_law 582 = .ok (.iconst 2, 1) := by decide +kernel
theorem dL_law_583 : decode cL_law 583 = .ok (.iadd, 1) := by decide +kernel
theorem dL_law_584 : decode cL_law 584 = .ok (.iaload, 1) := by decide +kernel
theorem dL_law_585 : decode cL_law 585 = .ok (.invokevirtual 85, 3) := by decide +kernel
theorem dL_law_588 : decode cL_law 588 = .ok (.if_icmp .eq 212, 3) := by decide +kernel
theorem dL_law_591 : decode cL_law 591 = .ok (.iconst 0, 1) := by decide +kernel
theorem dL_law_592 : decode cL_law 592 = .ok (.ireturn, 1) := by decide +kernel
theorem dL_law_593 : decode cL_law 593 = .ok (.aload_n 1, 1) := by decide +kernel
theorem dL_law_594 : decode cL_law 594 = .ok (.aload_n 0, 1) := by decide +kernel
theorem dL_law_595 : decode cL_law 595 = .ok (.iload_n 3, 1) := by decide +kernel
theorem dL_law_596 : decode cL_law 596 = .ok (.iconst 1, 1) := by decide +kernel
theorem dL_law_597 : decode cL_law 597 = .ok (.iadd, 1) := by decide +kernel
theorem dL_law_598 : decode cL_law 598 = .ok (.iaload, 1) := by decide +kernel
theorem dL_law_599 : decode cL_law 599 = .ok (.aload_n 0, 1) := by decide +kernel
theorem dL_law_600 : decode cL_law 600 = .ok (.iload_n 3, 1) := by decide +kernel
theorem dL_law_601 : decode cL_law 601 = .ok (.iconst 2, 1) := by decide +kernel
theorem dL_law_602 : decode cL_law 602 = .ok (.iadd, 1) := by decide +kernel
theorem dL_law_603 : decode cL_law 603 = .ok (.iaload, 1) := by decide +kernel
theorem dL_law_604 : decode cL_law 604 = .ok (.invokevirtual 86, 3) := by decide +kernel
theorem dL_law_607 : decode cL_law 607 = .ok (.aload_n 2, 1) := by decide +kernel
theorem dL_law_608 : decode cL_law 608 = .ok (.aload_n 0, 1) := by decide +kernel
theorem dL_law_609 : decode cL_law 609 = .ok (.iload_n 3, 1) := by decide +kernel
theorem dL_law_610 : decode cL_law 610 = .ok (.iconst 1, 1) := by decide +kernel
theorem dL_law_611 : decode cL_law 611 = .ok (.iadd, 1) := by decide +kernel
theorem dL_law_612 : decode cL_law 612 = .ok (.iaload, 1) := by decide +kernel
theorem dL_law_613 : decode cL_law 613 = .ok (.aload_n 0, 1) := by decide +kernel
theorem dL_law_614 : decode cL_law 614 = .ok (.iload_n 3, 1) := by decide +kernel
theorem dL_law_615 : decode cL_law 615 = .ok (.iconst 2, 1) := by decide +kernel
theorem dL_law_616 : decode cL_law 616 = .ok (.iadd, 1) := by decide +kernel
theorem dL_law_617 : decode cL_law 617 = .ok (.iaload, 1) := by decide +kernel
theorem dL_law_618 : decode cL_law 618 = .ok (.invokevirtual 89, 3) := by decide +kernel
theorem dL_law_621 : decode cL_law 621 = .ok (.if_icmp .eq 179, 3) := by decide +kernel
theorem dL_law_624 : decode cL_law 624 = .ok (.iconst 0, 1) := by decide +kernel
theorem dL_law_625 : decode cL_law 625 = .ok (.ireturn, 1) := by decide +kernel
theorem dL_law_626 : decode cL_law 626 = .ok (.aload_n 1, 1) := by decide +kernel
theorem dL_law_627 : decode cL_law 627 = .ok (.aload_n 0, 1) := by decide +kernel
theorem dL_law_628 : decode cL_law 628 = .ok (.iload_n 3, 1) := by decide +kernel
theorem dL_law_629 : decode cL_law 629 = .ok (.iconst 1, 1) := by decide +kernel
theorem dL_law_630 : decode cL_law 630 = .ok (.iadd, 1) := by decide +kernel
theorem dL_law_631 : decode cL_law 631 = .ok (.iaload, 1) := by decide +kernel
theorem dL_law_632 : decode cL_law 632 = .ok (.ifCond .eq 7, 3) := by decide +kernel
theorem dL_law_635 : decode cL_law 635 = .ok (.iconst 1, 1) := by decide +kernel
theorem dL_law_636 : decode cL_law 636 = .ok (.goto 4, 3) := by decide +kernel
theorem dL_law_639 : decode cL_law 639 = .ok (.iconst 0, 1) := by decide +kernel
theorem dL_law_640 : decode cL_law 640 = .ok (.aload_n 0, 1) := by decide +kernel
theorem dL_law_641 : decode cL_law 641 = .ok (.iload_n 3, 1) := by decide +kernel
theorem dL_law_642 : decode cL_law 642 = .ok (.iconst 2, 1) := by decide +kernel
theorem dL_law_643 : decode cL_law 643 = .ok (.iadd, 1) := by decide +kernel
theorem dL_law_644 : decode cL_law 644 = .ok (.iaload, 1) := by decide +kernel
theorem dL_law_645 : decode cL_law 645 = .ok (.aload_n 0, 1) := by decide +kernel
theorem dL_law_646 : decode cL_law 646 = .ok (.iload_n 3, 1) := by decide +kernel
theorem dL_law_647 : decode cL_law 647 = .ok (.iconst 3, 1) := by decide +kernel
theorem dL_law_648 : decode cL_law 648 = .ok (.iadd, 1) := by decide +kernel
theorem dL_law_649 : decode cL_law 649 = .ok (.iaload, 1) := by decide +kernel
theorem dL_law_650 : decode cL_law 650 = .ok (.invokevirtual 90, 3) := by decide +kernel
theorem dL_law_653 : decode cL_law 653 = .ok (.aload_n 2, 1) := by decide +kernel
theorem dL_law_654 : decode cL_law 654 = .ok (.aload_n 0, 1) := by decide +kernel
theorem dL_law_655 : decode cL_law 655 = .ok (.iload_n 3, 1) := by decide +kernel
theorem dL_law_656 : decode cL_law 656 = .ok (.iconst 1, 1) := by decide +kernel
theorem dL_law_657 : decode cL_law 657 = .ok (.iadd, 1) := by decide +kernel
theorem dL_law_658 : decode cL_law 658 = .ok (.iaload, 1) := by decide +kernel
theorem dL_law_659 : decode cL_law 659 = .ok (.ifCond .eq 7, 3) := by decide +kernel
theorem dL_law_662 : decode cL_law 662 = .ok (.iconst 1, 1) := by decide +kernel
theorem dL_law_663 : decode cL_law 663 = .ok (.goto 4, 3) := by decide +kernel
theorem dL_law_666 : decode cL_law 666 = .ok (.iconst 0, 1) := by decide +kernel
theorem dL_law_667 : decode cL_law 667 = .ok (.aload_n 0, 1) := by decide +kernel
theorem dL_law_668 : decode cL_law 668 = .ok (.iload_n 3, 1) := by decide +kernel
theorem dL_law_669 : decode cL_law 669 = .ok (.iconst 2, 1) := by decide +kernel
theorem dL_law_670 : decode cL_law 670 = .ok (.iadd, 1) := by decide +kernel
theorem dL_law_671 : decode cL_law 671 = .ok (.iaload, 1) := by decide +kernel
theorem dL_law_672 : decode cL_law 672 = .ok (.aload_n 0, 1) := by decide +kernel
theorem dL_law_673 : decode cL_law 673 = .ok (.iload_n 3, 1) := by decide +kernel
theorem dL_law_674 : decode cL_law 674 = .ok (.iconst 3, 1) := by decide +kernel
theorem dL_law_675 : decode cL_law 675 = .ok (.iadd, 1) := by decide +kernel
theorem dL_law_676 : decode cL_law 676 = .ok (.iaload, 1) := by decide +kernel
theorem dL_law_677 : decode cL_law 677 = .ok (.invokevirtual 94, 3) := by decide +kernel
theorem dL_law_680 : decode cL_law 680 = .ok (.if_icmp .eq 120, 3) := by decide +kernel
theorem dL_law_683 : decode cL_law 683 = .ok (.iconst 0, 1) := by decide +kernel
theorem dL_law_684 : decode cL_law 684 = .ok (.ireturn, 1) := by decide +kernel
theorem dL_law_685 : decode cL_law 685 = .ok (.aload_n 1, 1) := by decide +kernel
theorem dL_law_686 : decode cL_law 686 = .ok (.aload_n 0, 1) := by decide +kernel
theorem dL_law_687 : decode cL_law 687 = .ok (.iload_n 3, 1) := by decide +kernel
theorem dL_law_688 : decode cL_law 688 = .ok (.iconst 1, 1) := by decide +kernel
theorem dL_law_689 : decode cL_law 689 = .ok (.iadd, 1) := by decide +kernel
theorem dL_law_690 : decode cL_law 690 = .ok (.iaload, 1) := by decide +kernel
theorem dL_law_691 : decode cL_law 691 = .ok (.invokevirtual 95, 3) := by decide +kernel
theorem dL_law_694 : decode cL_law 694 = .ok (.aload_n 2, 1) := by decide +kernel
theorem dL_law_695 : decode cL_law 695 = .ok (.aload_n 0, 1) := by decide +kernel
theorem dL_law_696 : decode cL_law 696 = .ok (.iload_n 3, 1) := by decide +kernel
theorem dL_law_697 : decode cL_law 697 = .ok (.iconst 1, 1) := by decide +kernel
theorem dL_law_698 : decode cL_law 698 = .ok (.iadd, 1) := by decide +kernel
theorem dL_law_699 : decode cL_law 699 = .ok (.iaload, 1) := by decide +kernel
theorem dL_law_700 : decode cL_law 700 = .ok (.invokevirtual 98, 3) := by decide +kernel
theorem dL_law_703 : decode cL_law 703 = .ok (.if_icmp .eq 97, 3) := by decide +kernel
theorem dL_law_706 : decode cL_law 706 = .ok (.iconst 0, 1) := by decide +kernel
theorem dL_law_707 : decode cL_law 707 = .ok (.ireturn, 1) := by decide +kernel
theorem dL_law_708 : decode cL_law 708 = .ok (.aload_n 1, 1) := by decide +kernel
theorem dL_law_709 : decode cL_law 709 = .ok (.aload_n 0, 1) := by decide +kernel
theorem dL_law_710 : decode cL_law 710 = .ok (.iload_n 3, 1) := by decide +kernel
theorem dL_law_711 : decode cL_law 711 = .ok (.iconst 1, 1) := by decide +kernel
theorem dL_law_712 : decode cL_law 712 = .ok (.iadd, 1) := by decide +kernel
theorem dL_law_713 : decode cL_law 713 = .ok (.iaload, 1) := by decide +kernel
theorem dL_law_714 : decode cL_law 714 = .ok (.invokevirtual 99, 3) := by decide +kernel
theorem dL_law_717 : decode cL_law 717 = .ok (.aload_n 2, 1) := by decide +kernel
theorem dL_law_718 : decode cL_law 718 = .ok (.aload_n 0, 1) := by decide +kernel
theorem dL_law_719 : decode cL_law 719 = .ok (.iload_n 3, 1) := by decide +kernel
theorem dL_law_720 : decode cL_law 720 = .ok (.iconst 1, 1) := by decide +kernel
theorem dL_law_721 : decode cL_law 721 = .ok (.iadd, 1) := by decide +kernel
theorem dL_law_722 : decode cL_law 722 = .ok (.iaload, 1) := by decide +kernel
theorem dL_law_723 : decode cL_law 723 = .ok (.invokevirtual 102, 3) := by decide +kernel
theorem dL_law_726 : decode cL_law 726 = .ok (.if_icmp .eq 74, 3) := by decide +kernel
theorem dL_law_729 : decode cL_law 729 = .ok (.iconst 0, 1) := by decide +kernel
theorem dL_law_730 : decode cL_law 730 = .ok (.ireturn, 1) := by decide +kernel
theorem dL_law_731 : decode cL_law 731 = .ok (.aload_n 1, 1) := by decide +kernel
theorem dL_law_732 : decode cL_law 732 = .ok (.aload_n 0, 1) := by decide +kernel
theorem dL_law_733 : decode cL_law 733 = .ok (.iload_n 3, 1) := by decide +kernel
theorem dL_law_734 : decode cL_law 734 = .ok (.iconst 1, 1) := by decide +kernel
theorem dL_law_735 : decode cL_law 735 = .ok (.iadd, 1) := by decide +kernel
theorem dL_law_736 : decode cL_law 736 = .ok (.iaload, 1) := by decide +kernel
theorem dL_law_737 : decode cL_law 737 = .ok (.invokevirtual 103, 3) := by decide +kernel
theorem dL_law_740 : decode cL_law 740 = .ok (.aload_n 2, 1) := by decide +kernel
theorem dL_law_741 : decode cL_law 741 = .ok (.aload_n 0, 1) := by decide +kernel
theorem dL_law_742 : decode cL_law 742 = .ok (.iload_n 3, 1) := by decide +kernel
theorem dL_law_743 : decode cL_law 743 = .ok (.iconst 1, 1) := by decide +kernel
theorem dL_law_744 : decode cL_law 744 = .ok (.iadd, 1) := by decide +kernel
theorem dL_law_745 : decode cL_law 745 = .ok (.iaload, 1) := by decide +kernel
theorem dL_law_746 : decode cL_law 746 = .ok (.invokevirtual 106, 3) := by decide +kernel
theorem dL_law_749 : decode cL_law 749 = .ok (.if_icmp .eq 51, 3) := by decide +kernel
theorem dL_law_752 : decode cL_law 752 = .ok (.iconst 0, 1) := by decide +kernel
theorem dL_law_753 : decode cL_law 753 = .ok (.ireturn, 1) := by decide +kernel
theorem dL_law_754 : decode cL_law 754 = .ok (.aload_n 1, 1) := by decide +kernel
theorem dL_law_755 : decode cL_law 755 = .ok (.aload_n 0, 1) := by decide +kernel
theorem dL_law_756 : decode cL_law 756 = .ok (.iload_n 3, 1) := by decide +kernel
theorem dL_law_757 : decode cL_law 757 = .ok (.iconst 1, 1) := by decide +kernel
theorem dL_law_758 : decode cL_law 758 = .ok (.iadd, 1) := by decide +kernel
theorem dL_law_759 : decode cL_law 759 = .ok (.iaload, 1) := by decide +kernel
theorem dL_law_760 : decode cL_law 760 = .ok (.invokevirtual 107, 3) := by decide +kernel
theorem dL_law_763 : decode cL_law 763 = .ok (.aload_n 2, 1) := by decide +kernel
theorem dL_law_764 : decode cL_law 764 = .ok (.aload_n 0, 1) := by decide +kernel
theorem dL_law_765 : decode cL_law 765 = .ok (.iload_n 3, 1) := by decide +kernel
theorem dL_law_766 : decode cL_law 766 = .ok (.iconst 1, 1) := by decide +kernel
theorem dL_law_767 : decode cL_law 767 = .ok (.iadd, 1) := by decide +kernel
theorem dL_law_768 : decode cL_law 768 = .ok (.iaload, 1) := by decide +kernel
theorem dL_law_769 : decode cL_law 769 = .ok (.invokevirtual 110, 3) := by decide +kernel
theorem dL_law_772 : decode cL_law 772 = .ok (.if_icmp .eq 28, 3) := by decide +kernel
theorem dL_law_775 : decode cL_law 775 = .ok (.iconst 0, 1) := by decide +kernel
theorem dL_law_776 : decode cL_law 776 = .ok (.ireturn, 1) := by decide +kernel
theorem dL_law_777 : decode cL_law 777 = .ok (.aload_n 1, 1) := by decide +kernel
theorem dL_law_778 : decode cL_law 778 = .ok (.aload_n 0, 1) := by decide +kernel
theorem dL_law_779 : decode cL_law 779 = .ok (.iload_n 3, 1) := by decide +kernel
theorem dL_law_780 : decode cL_law 780 = .ok (.iconst 1, 1) := by decide +kernel
theorem dL_law_781 : decode cL_law 781 = .ok (.iadd, 1) := by decide +kernel
theorem dL_law_782 : decode cL_law 782 = .ok (.iaload, 1) := by decide +kernel
theorem dL_law_783 : decode cL_law 783 = .ok (.invokevirtual 111, 3) := by decide +kernel
theorem dL_law_786 : decode cL_law 786 = .ok (.aload_n 2, 1) := by decide +kernel
theorem dL_law_787 : decode cL_law 787 = .ok (.aload_n 0, 1) := by decide +kernel
theorem dL_law_788 : decode cL_law 788 = .ok (.iload_n 3, 1) := by decide +kernel
theorem dL_law_789 : decode cL_law 789 = .ok (.iconst 1, 1) := by decide +kernel
theorem dL_law_790 : decode cL_law 790 = .ok (.iadd, 1) := by decide +kernel
theorem dL_law_791 : decode cL_law 791 = .ok (.iaload, 1) := by decide +kernel
theorem dL_law_792 : decode cL_law 792 = .ok (.invokevirtual 114, 3) := by decide +kernel
theorem dL_law_795 : decode cL_law 795 = .ok (.if_icmp .eq 5, 3) := by decide +kernel
theorem dL_law_798 : decode cL_law 798 = .ok (.iconst 0, 1) := by decide +kernel
theorem dL_law_799 : decode cL_law 799 = .ok (.ireturn, 1) := by decide +kernel
theorem dL_law_800 : decode cL_law 800 = .ok (.iinc 3 5, 3) := by decide +kernel
theorem dL_law_803 : decode cL_law 803 = .ok (.goto (-785), 3) := by decide +kernel
theorem dL_law_806 : decode cL_law 806 = .ok (.iconst 1, 1) := by decide +kernel
theorem dL_law_807 : decode cL_law 807 = .ok (.ireturn, 1) := by decide +kernel
