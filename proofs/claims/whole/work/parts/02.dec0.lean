theorem dX0_init_0 : decode cX0_init 0 = .ok (.aload_n 0, 1) := by decide +kernel
theorem dX0_init_1 : decode cX0_init 1 = .ok (.invokespecial 3, 3) := by decide +kernel
theorem dX0_init_4 : decode cX0_init 4 = .ok (.aload_n 0, 1) := by decide +kernel
theorem dX0_init_5 : decode cX0_init 5 = .ok (.bipush 60, 2) := by decide +kernel
theorem dX0_init_7 : decode cX0_init 7 = .ok (.newarray .char, 2) := by decide +kernel
theorem dX0_init_9 : decode cX0_init 9 = .ok (.putfield 9, 3) := by decide +kernel
theorem dX0_init_12 : decode cX0_init 12 = .ok (.aload_n 0, 1) := by decide +kernel
theorem dX0_init_13 : decode cX0_init 13 = .ok (.bipush 60, 2) := by decide +kernel
theorem dX0_init_15 : decode cX0_init 15 = .ok (.newarray .int, 2) := by decide +kernel
theorem dX0_init_17 : decode cX0_init 17 = .ok (.putfield 15, 3) := by decide +kernel
theorem dX0_init_20 : decode cX0_init 20 = .ok (.aload_n 0, 1) := by decide +kernel
theorem dX0_init_21 : decode cX0_init 21 = .ok (.bipush 60, 2) := by decide +kernel
theorem dX0_init_23 : decode cX0_init 23 = .ok (.newarray .int, 2) := by decide +kernel
theorem dX0_init_25 : decode cX0_init 25 = .ok (.putfield 19, 3) := by decide +kernel
theorem dX0_init_28 : decode cX0_init 28 = .ok (.aload_n 0, 1) := by decide +kernel
theorem dX0_init_29 : decode cX0_init 29 = .ok (.bipush 60, 2) := by decide +kernel
theorem dX0_init_31 : decode cX0_init 31 = .ok (.newarray .int, 2) := by decide +kernel
theorem dX0_init_33 : decode cX0_init 33 = .ok (.putfield 22, 3) := by decide +kernel
theorem dX0_init_36 : decode cX0_init 36 = .ok (.aload_n 0, 1) := by decide +kernel
theorem dX0_init_37 : decode cX0_init 37 = .ok (.bipush 60, 2) := by decide +kernel
theorem dX0_init_39 : decode cX0_init 39 = .ok (.newarray .int, 2) := by decide +kernel
theorem dX0_init_41 : decode cX0_init 41 = .ok (.putfield 25, 3) := by decide +kernel
theorem dX0_init_44 : decode cX0_init 44 = .ok (.return_, 1) := by decide +kernel
theorem dX0_append_0 : decode cX0_append 0 = .ok (.aload_n 0, 1) := by decide +kernel
theorem dX0_append_1 : decode cX0_append 1 = .ok (.getfield 28, 3) := by decide +kernel
theorem dX0_append_4 : decode cX0_append 4 = .ok (.ifCond .lt 12, 3) := by decide +kernel
theorem dX0_append_7 : decode cX0_append 7 = .ok (.aload_n 0, 1) := by decide +kernel
theorem dX0_append_8 : decode cX0_append 8 = .ok (.getfield 28, 3) := by decide +kernel
theorem dX0_append_11 : decode cX0_append 11 = .ok (.bipush 60, 2) := by decide +kernel
theorem dX0_append_13 : decode cX0_append 13 = .ok (.if_icmp .lt 6, 3) := by decide +kernel
theorem dX0_append_16 : decode cX0_append 16 = .ok (.bipush (-3), 2) := by decide +kernel
theorem dX0_append_18 : decode cX0_append 18 = .ok (.ireturn, 1) := by decide +kernel
theorem dX0_append_19 : decode cX0_append 19 = .ok (.aload_n 0, 1) := by decide +kernel
theorem dX0_append_20 : decode cX0_append 20 = .ok (.getfield 9, 3) := by decide +kernel
theorem dX0_append_23 : decode cX0_append 23 = .ok (.aload_n 0, 1) := by decide +kernel
theorem dX0_append_24 : decode cX0_append 24 = .ok (.getfield 28, 3) := by decide +kernel
theorem dX0_append_27 : decode cX0_append 27 = .ok (.iload_n 1, 1) := by decide +kernel
theorem dX0_append_28 : decode cX0_append 28 = .ok (.castore, 1) := by decide +kernel
theorem dX0_append_29 : decode cX0_append 29 = .ok (.aload_n 0, 1) := by decide +kernel
theorem dX0_append_30 : decode cX0_append 30 = .ok (.dup, 1) := by decide +kernel
theorem dX0_append_31 : decode cX0_append 31 = .ok (.getfield 28, 3) := by decide +kernel
theorem dX0_append_34 : decode cX0_append 34 = .ok (.iconst 1, 1) := by decide +kernel
theorem dX0_append_35 : decode cX0_append 35 = .ok (.iadd, 1) := by decide +kernel
theorem dX0_append_36 : decode cX0_append 36 = .ok (.putfield 28, 3) := by decide +kernel
theorem dX0_append_39 : decode cX0_append 39 = .ok (.aload_n 0, 1) := by decide +kernel
theorem dX0_append_40 : decode cX0_append 40 = .ok (.getfield 28, 3) := by decide +kernel
theorem dX0_append_43 : decode cX0_append 43 = .ok (.ireturn, 1) := by decide +kernel
theorem dX0_empty_0 : decode cX0_empty 0 = .ok (.aload_n 0, 1) := by decide +kernel
theorem dX0_empty_1 : decode cX0_empty 1 = .ok (.getfield 28, 3) := by decide +kernel
theorem dX0_empty_4 : decode cX0_empty 4 = .ok (.istore_n 1, 1) := by decide +kernel
theorem dX0_empty_5 : decode cX0_empty 5 = .ok (.aload_n 0, 1) := by decide +kernel
theorem dX0_empty_6 : decode cX0_empty 6 = .ok (.iconst 0, 1) := by decide +kernel
theorem dX0_empty_7 : decode cX0_empty 7 = .ok (.putfield 28, 3) := by decide +kernel
theorem dX0_empty_10 : decode cX0_empty 10 = .ok (.iload_n 1, 1) := by decide +kernel
theorem dX0_empty_11 : decode cX0_empty 11 = .ok (.ireturn, 1) := by decide +kernel
theorem dX0_part_0 : decode cX0_part 0 = .ok (.iload_n 2, 1) := by decide +kernel
theorem dX0_part_1 : decode cX0_part 1 = .ok (.ifCond .lt 15, 3) := by decide +kernel
theorem dX0_part_4 : decode cX0_part 4 = .ok (.iload_n 2, 1) := by decide +kernel
theorem dX0_part_5 : decode cX0_part 5 = .ok (.aload_n 1, 1) := by decide +kernel
theorem dX0_part_6 : decode cX0_part 6 = .ok (.arraylength, 1) := by decide +kernel
theorem dX0_part_7 : decode cX0_part 7 = .ok (.if_icmp .ge 9, 3) := by decide +kernel
theorem dX0_part_10 : decode cX0_part 10 = .ok (.aload_n 1, 1) := by decide +kernel
theorem dX0_part_11 : decode cX0_part 11 = .ok (.iload_n 2, 1) := by decide +kernel
theorem dX0_part_12 : decode cX0_part 12 = .ok (.iaload, 1) := by decide +kernel
theorem dX0_part_13 : decode cX0_part 13 = .ok (.goto 5, 3) := by decide +kernel
theorem dX0_part_16 : decode cX0_part 16 = .ok (.bipush (-5), 2) := by decide +kernel
theorem dX0_part_18 : decode cX0_part 18 = .ok (.ireturn, 1) := by decide +kernel
theorem dX0_putPart_0 : decode cX0_putPart 0 = .ok (.iload_n 2, 1) := by decide +kernel
theorem dX0_putPart_1 : decode cX0_putPart 1 = .ok (.ifCond .lt 13, 3) := by decide +kernel
theorem dX0_putPart_4 : decode cX0_putPart 4 = .ok (.iload_n 2, 1) := by decide +kernel
theorem dX0_putPart_5 : decode cX0_putPart 5 = .ok (.aload_n 1, 1) := by decide +kernel
theorem dX0_putPart_6 : decode cX0_putPart 6 = .ok (.arraylength, 1) := by decide +kernel
theorem dX0_putPart_7 : decode cX0_putPart 7 = .ok (.if_icmp .ge 7, 3) := by decide +kernel
theorem dX0_putPart_10 : decode cX0_putPart 10 = .ok (.aload_n 1, 1) := by decide +kernel
theorem dX0_putPart_11 : decode cX0_putPart 11 = .ok (.iload_n 2, 1) := by decide +kernel
theorem dX0_putPart_12 : decode cX0_putPart 12 = .ok (.iload_n 3, 1) := by decide +kernel
theorem dX0_putPart_13 : decode cX0_putPart 13 = .ok (.iastore, 1) := by decide +kernel
theorem dX0_putPart_14 : decode cX0_putPart 14 = .ok (.return_, 1) := by decide +kernel
theorem dX0_findFault_0 : decode cX0_findFault 0 = .ok (.aload_n 0, 1) := by decide +kernel
theorem dX0_findFault_1 : decode cX0_findFault 1 = .ok (.iconst 0, 1) := by decide +kernel
theorem dX0_findFault_2 : decode cX0_findFault 2 = .ok (.putfield 32, 3) := by decide +kernel
theorem dX0_findFault_5 : decode cX0_findFault 5 = .ok (.aload_n 0, 1) := by decide +kernel
theorem dX0_findFault_6 : decode cX0_findFault 6 = .ok (.iconst 0, 1) := by decide +kernel
theorem dX0_findFault_7 : decode cX0_findFault 7 = .ok (.putfield 35, 3) := by decide +kernel
theorem dX0_findFault_10 : decode cX0_findFault 10 = .ok (.iconst 0, 1) := by decide +kernel
theorem dX0_findFault_11 : decode cX0_findFault 11 = .ok (.istore_n 1, 1) := by decide +kernel
theorem dX0_findFault_12 : decode cX0_findFault 12 = .ok (.iload_n 1, 1) := by decide +kernel
theorem dX0_findFault_13 : decode cX0_findFault 13 = .ok (.bipush 60, 2) := by decide +kernel
theorem dX0_findFault_15 : decode cX0_findFault 15 = .ok (.if_icmp .ge 70, 3) := by decide +kernel
theorem dX0_findFault_18 : decode cX0_findFault 18 = .ok (.aload_n 0, 1) := by decide +kernel
theorem dX0_findFault_19 : decode cX0_findFault 19 = .ok (.iload_n 1, 1) := by decide +kernel
theorem dX0_findFault_20 : decode cX0_findFault 20 = .ok (.invokevirtual 38, 3) := by decide +kernel
theorem dX0_findFault_23 : decode cX0_findFault 23 = .ok (.ifCond .ne 8, 3) := by decide +kernel
theorem dX0_findFault_26 : decode cX0_findFault 26 = .ok (.aload_n 0, 1) := by decide +kernel
theorem dX0_findFault_27 : decode cX0_findFault 27 = .ok (.getfield 32, 3) := by decide +kernel
theorem dX0_findFault_30 : decode cX0_findFault 30 = .ok (.ireturn, 1) := by decide +kernel
theorem dX0_findFault_31 : decode cX0_findFault 31 = .ok (.aload_n 0, 1) := by decide +kernel
theorem dX0_findFault_32 : decode cX0_findFault 32 = .ok (.dup, 1) := by decide +kernel
theorem dX0_findFault_33 : decode cX0_findFault 33 = .ok (.getfield 35, 3) := by decide +kernel
theorem dX0_findFault_36 : decode cX0_findFault 36 = .ok (.iconst 1, 1) := by decide +kernel
theorem dX0_findFault_37 : decode cX0_findFault 37 = .ok (.iadd, 1) := by decide +kernel
theorem dX0_findFault_38 : decode cX0_findFault 38 = .ok (.putfield 35, 3) := by decide +kernel
theorem dX0_findFault_41 : decode cX0_findFault 41 = .ok (.aload_n 0, 1) := by decide +kernel
theorem dX0_findFault_42 : decode cX0_findFault 42 = .ok (.getfield 32, 3) := by decide +kernel
theorem dX0_findFault_45 : decode cX0_findFault 45 = .ok (.aload_n 0, 1) := by decide +kernel
theorem dX0_findFault_46 : decode cX0_findFault 46 = .ok (.getfield 28, 3) := by decide +kernel
theorem dX0_findFault_49 : decode cX0_findFault 49 = .ok (.if_icmp .ne 6, 3) := by decide +kernel
theorem dX0_findFault_52 : decode cX0_findFault 52 = .ok (.bipush (-5), 2) := by decide +kernel
theorem dX0_findFault_54 : decode cX0_findFault 54 = .ok (.ireturn, 1) := by decide +kernel
theorem dX0_findFault_55 : decode cX0_findFault 55 = .ok (.aload_n 0, 1) := by decide +kernel
theorem dX0_findFault_56 : decode cX0_findFault 56 = .ok (.invokevirtual 42, 3) := by decide +kernel
theorem dX0_findFault_59 : decode cX0_findFault 59 = .ok (.bipush 59, 2) := by decide +kernel
theorem dX0_findFault_61 : decode cX0_findFault 61 = .ok (.if_icmp .eq 8, 3) := by decide +kernel
theorem dX0_findFault_64 : decode cX0_findFault 64 = .ok (.aload_n 0, 1) := by decide +kernel
theorem dX0_findFault_65 : decode cX0_findFault 65 = .ok (.getfield 32, 3) := by decide +kernel
theorem dX0_findFault_68 : decode cX0_findFault 68 = .ok (.ireturn, 1) := by decide +kernel
theorem dX0_findFault_69 : decode cX0_findFault 69 = .ok (.aload_n 0, 1) := by decide +kernel
theorem dX0_findFault_70 : decode cX0_findFault 70 = .ok (.dup, 1) := by decide +kernel
theorem dX0_findFault_71 : decode cX0_findFault 71 = .ok (.getfield 32, 3) := by decide +kernel
theorem dX0_findFault_74 : decode cX0_findFault 74 = .ok (.iconst 1, 1) := by decide +kernel
theorem dX0_findFault_75 : decode cX0_findFault 75 = .ok (.iadd, 1) := by decide +kernel
theorem dX0_findFault_76 : decode cX0_findFault 76 = .ok (.putfield 32, 3) := by decide +kernel
theorem dX0_findFault_79 : decode cX0_findFault 79 = .ok (.iinc 1 1, 3) := by decide +kernel
theorem dX0_findFault_82 : decode cX0_findFault 82 = .ok (.goto (-70), 3) := by decide +kernel
theorem dX0_findFault_85 : decode cX0_findFault 85 = .ok (.aload_n 0, 1) := by decide +kernel
theorem dX0_findFault_86 : decode cX0_findFault 86 = .ok (.getfield 32, 3) := by decide +kernel
theorem dX0_findFault_89 : decode cX0_findFault 89 = .ok (.ireturn, 1) := by decide +kernel
theorem dX0_readThing_0 : decode cX0_readThing 0 = .ok (.aload_n 0, 1) := by decide +kernel
theorem dX0_readThing_1 : decode cX0_readThing 1 = .ok (.invokevirtual 42, 3) := by decide +kernel
theorem dX0_readThing_4 : decode cX0_readThing 4 = .ok (.istore_n 2, 1) := by decide +kernel
theorem dX0_readThing_5 : decode cX0_readThing 5 = .ok (.iload_n 2, 1) := by decide +kernel
theorem dX0_readThing_6 : decode cX0_readThing 6 = .ok (.bipush 46, 2) := by decide +kernel
theorem dX0_readThing_8 : decode cX0_readThing 8 = .ok (.if_icmp .ne 32, 3) := by decide +kernel
theorem dX0_readThing_11 : decode cX0_readThing 11 = .ok (.aload_n 0, 1) := by decide +kernel
theorem dX0_readThing_12 : decode cX0_readThing 12 = .ok (.dup, 1) := by decide +kernel
theorem dX0_readThing_13 : decode cX0_readThing 13 = .ok (.getfield 32, 3) := by decide +kernel
theorem dX0_readThing_16 : decode cX0_readThing 16 = .ok (.iconst 1, 1) := by decide +kernel
theorem dX0_readThing_17 : decode cX0_readThing 17 = .ok (.iadd, 1) := by decide +kernel
theorem dX0_readThing_18 : decode cX0_readThing 18 = .ok (.putfield 32, 3) := by decide +kernel
theorem dX0_readThing_21 : decode cX0_readThing 21 = .ok (.aload_n 0, 1) := by decide +kernel
theorem dX0_readThing_22 : decode cX0_readThing 22 = .ok (.aload_n 0, 1) := by decide +kernel
theorem dX0_readThing_23 : decode cX0_readThing 23 = .ok (.getfield 15, 3) := by decide +kernel
theorem dX0_readThing_26 : decode cX0_readThing 26 = .ok (.iload_n 1, 1) := by decide +kernel
theorem dX0_readThing_27 : decode cX0_readThing 27 = .ok (.iconst 4, 1) := by decide +kernel
theorem dX0_readThing_28 : decode cX0_readThing 28 = .ok (.invokevirtual 46, 3) := by decide +kernel
theorem dX0_readThing_31 : decode cX0_readThing 31 = .ok (.aload_n 0, 1) := by decide +kernel
theorem dX0_readThing_32 : decode cX0_readThing 32 = .ok (.iload_n 1, 1) := by decide +kernel
theorem dX0_readThing_33 : decode cX0_readThing 33 = .ok (.iconst 1, 1) := by decide +kernel
theorem dX0_readThing_34 : decode cX0_readThing 34 = .ok (.bipush 99, 2) := by decide +kernel
theorem dX0_readThing_36 : decode cX0_readThing 36 = .ok (.invokevirtual 50, 3) := by decide +kernel
theorem dX0_readThing_39 : decode cX0_readThing 39 = .ok (.ireturn, 1) := by decide +kernel
theorem dX0_readThing_40 : decode cX0_readThing 40 = .ok (.iload_n 2, 1) := by decide +kernel
theorem dX0_readThing_41 : decode cX0_readThing 41 = .ok (.bipush 48, 2) := by decide +kernel
theorem dX0_readThing_43 : decode cX0_readThing 43 = .ok (.if_icmp .eq 11, 3) := by decide +kernel
theorem dX0_readThing_46 : decode cX0_readThing 46 = .ok (.iload_n 2, 1) := by decide +kernel
theorem dX0_readThing_47 : decode cX0_readThing 47 = .ok (.bipush 49, 2) := by decide +kernel
theorem dX0_readThing_49 : decode cX0_readThing 49 = .ok (.if_icmp .eq 5, 3) := by decide +kernel
theorem dX0_readThing_52 : decode cX0_readThing 52 = .ok (.iconst 0, 1) := by decide +kernel
theorem dX0_readThing_53 : decode cX0_readThing 53 = .ok (.ireturn, 1) := by decide +kernel
theorem dX0_readThing_54 : decode cX0_readThing 54 = .ok (.aload_n 0, 1) := by decide +kernel
theorem dX0_readThing_55 : decode cX0_readThing 55 = .ok (.dup, 1) := by decide +kernel
theorem dX0_readThing_56 : decode cX0_readThing 56 = .ok (.getfield 32, 3) := by decide +kernel
theorem dX0_readThing_59 : decode cX0_readThing 59 = .ok (.iconst 1, 1) := by decide +kernel
theorem dX0_readThing_60 : decode cX0_readThing 60 = .ok (.iadd, 1) := by decide +kernel
theorem dX0_readThing_61 : decode cX0_readThing 61 = .ok (.putfield 32, 3) := by decide +kernel
theorem dX0_readThing_64 : decode cX0_readThing 64 = .ok (.aload_n 0, 1) := by decide +kernel
theorem dX0_readThing_65 : decode cX0_readThing 65 = .ok (.aload_n 0, 1) := by decide +kernel
theorem dX0_readThing_66 : decode cX0_readThing 66 = .ok (.getfield 19, 3) := by decide +kernel
theorem dX0_readThing_69 : decode cX0_readThing 69 = .ok (.iload_n 1, 1) := by decide +kernel
theorem dX0_readThing_70 : decode cX0_readThing 70 = .ok (.iload_n 2, 1) := by decide +kernel
theorem dX0_readThing_71 : decode cX0_readThing 71 = .ok (.bipush 48, 2) := by decide +kernel
theorem dX0_readThing_73 : decode cX0_readThing 73 = .ok (.isub, 1) := by decide +kernel
theorem dX0_readThing_74 : decode cX0_readThing 74 = .ok (.invokevirtual 46, 3) := by decide +kernel
theorem dX0_readThing_77 : decode cX0_readThing 77 = .ok (.aload_n 0, 1) := by decide +kernel
theorem dX0_readThing_78 : decode cX0_readThing 78 = .ok (.iload_n 1, 1) := by decide +kernel
theorem dX0_readThing_79 : decode cX0_readThing 79 = .ok (.invokevirtual 54, 3) := by decide +kernel
theorem dX0_readThing_82 : decode cX0_readThing 82 = .ok (.ireturn, 1) := by decide +kernel
theorem dX0_readLetter_0 : decode cX0_readLetter 0 = .ok (.aload_n 0, 1) := by decide +kernel
theorem dX0_readLetter_1 : decode cX0_readLetter 1 = .ok (.invokevirtual 42, 3) := by decide +kernel
theorem dX0_readLetter_4 : decode cX0_readLetter 4 = .ok (.invokestatic 57, 3) := by decide +kernel
theorem dX0_readLetter_7 : decode cX0_readLetter 7 = .ok (.istore_n 2, 1) := by decide +kernel
theorem dX0_readLetter_8 : decode cX0_readLetter 8 = .ok (.iload_n 2, 1) := by decide +kernel
theorem dX0_readLetter_9 : decode cX0_readLetter 9 = .ok (.bipush (-5), 2) := by decide +kernel
theorem dX0_readLetter_11 : decode cX0_readLetter 11 = .ok (.if_icmp .ne 5, 3) := by decide +kernel
theorem dX0_readLetter_14 : decode cX0_readLetter 14 = .ok (.iconst 0, 1) := by decide +kernel
theorem dX0_readLetter_15 : decode cX0_readLetter 15 = .ok (.ireturn, 1) := by decide +kernel
theorem dX0_readLetter_16 : decode cX0_readLetter 16 = .ok (.aload_n 0, 1) := by decide +kernel
theorem dX0_readLetter_17 : decode cX0_readLetter 17 = .ok (.dup, 1) := by decide +kernel
theorem dX0_readLetter_18 : decode cX0_readLetter 18 = .ok (.getfield 32, 3) := by decide +kernel
theorem dX0_readLetter_21 : decode cX0_readLetter 21 = .ok (.iconst 1, 1) := by decide +kernel
theorem dX0_readLetter_22 : decode cX0_readLetter 22 = .ok (.iadd, 1) := by decide +kernel
theorem dX0_readLetter_23 : decode cX0_readLetter 23 = .ok (.putfield 32, 3) := by decide +kernel
theorem dX0_readLetter_26 : decode cX0_readLetter 26 = .ok (.aload_n 0, 1) := by decide +kernel
theorem dX0_readLetter_27 : decode cX0_readLetter 27 = .ok (.aload_n 0, 1) := by decide +kernel
theorem dX0_readLetter_28 : decode cX0_readLetter 28 = .ok (.getfield 15, 3) := by decide +kernel
theorem dX0_readLetter_31 : decode cX0_readLetter 31 = .ok (.iload_n 1, 1) := by decide +kernel
theorem dX0_readLetter_32 : decode cX0_readLetter 32 = .ok (.iload_n 2, 1) := by decide +kernel
theorem dX0_readLetter_33 : decode cX0_readLetter 33 = .ok (.invokevirtual 46, 3) := by decide +kernel
theorem dX0_readLetter_36 : decode cX0_readLetter 36 = .ok (.iload_n 2, 1) := by decide +kernel
theorem dX0_readLetter_37 : decode cX0_readLetter 37 = .ok (.lookupswitch 45 #[(2, 27), (3, 36)], 27) := by decide +kernel
theorem dX0_readLetter_64 : decode cX0_readLetter 64 = .ok (.aload_n 0, 1) := by decide +kernel
theorem dX0_readLetter_65 : decode cX0_readLetter 65 = .ok (.iload_n 1, 1) := by decide +kernel
theorem dX0_readLetter_66 : decode cX0_readLetter 66 = .ok (.iconst 0, 1) := by decide +kernel
theorem dX0_readLetter_67 : decode cX0_readLetter 67 = .ok (.bipush 47, 2) := by decide +kernel
theorem dX0_readLetter_69 : decode cX0_readLetter 69 = .ok (.invokevirtual 50, 3) := by decide +kernel
theorem dX0_readLetter_72 : decode cX0_readLetter 72 = .ok (.ireturn, 1) := by decide +kernel
theorem dX0_readLetter_73 : decode cX0_readLetter 73 = .ok (.aload_n 0, 1) := by decide +kernel
theorem dX0_readLetter_74 : decode cX0_readLetter 74 = .ok (.iload_n 1, 1) := by decide +kernel
theorem dX0_readLetter_75 : decode cX0_readLetter 75 = .ok (.iconst 1, 1) := by decide +kernel
theorem dX0_readLetter_76 : decode cX0_readLetter 76 = .ok (.bipush 99, 2) := by decide +kernel
theorem dX0_readLetter_78 : decode cX0_readLetter 78 = .ok (.invokevirtual 50, 3) := by decide +kernel
theorem dX0_readLetter_81 : decode cX0_readLetter 81 = .ok (.ireturn, 1) := by decide +kernel
theorem dX0_readLetter_82 : decode cX0_readLetter 82 = .ok (.aload_n 0, 1) := by decide +kernel
theorem dX0_readLetter_83 : decode cX0_readLetter 83 = .ok (.iload_n 1, 1) := by decide +kernel
theorem dX0_readLetter_84 : decode cX0_readLetter 84 = .ok (.iconst 0, 1) := by decide +kernel
theorem dX0_readLetter_85 : decode cX0_readLetter 85 = .ok (.bipush 47, 2) := by decide +kernel
theorem dX0_readLetter_87 : decode cX0_readLetter 87 = .ok (.invokevirtual 50, 3) := by decide +kernel
theorem dX0_readLetter_90 : decode cX0_readLetter 90 = .ok (.ifCond .eq 15, 3) := by decide +kernel
theorem dX0_readLetter_93 : decode cX0_readLetter 93 = .ok (.aload_n 0, 1) := by decide +kernel
theorem dX0_readLetter_94 : decode cX0_readLetter 94 = .ok (.iload_n 1, 1) := by decide +kernel
theorem dX0_readLetter_95 : decode cX0_readLetter 95 = .ok (.invokevirtual 61, 3) := by decide +kernel
theorem dX0_readLetter_98 : decode cX0_readLetter 98 = .ok (.ifCond .eq 7, 3) := by decide +kernel
theorem dX0_readLetter_101 : decode cX0_readLetter 101 = .ok (.iconst 1, 1) := by decide +kernel
theorem dX0_readLetter_102 : decode cX0_readLetter 102 = .ok (.goto 4, 3) := by decide +kernel
theorem dX0_readLetter_105 : decode cX0_readLetter 105 = .ok (.iconst 0, 1) := by decide +kernel
theorem dX0_readLetter_106 : decode cX0_readLetter 106 = .ok (.ireturn, 1) := by decide +kernel
theorem dX0_readNumber_0 : decode cX0_readNumber 0 = .ok (.aload_n 0, 1) := by decide +kernel
theorem dX0_readNumber_1 : decode cX0_readNumber 1 = .ok (.invokevirtual 42, 3) := by decide +kernel
theorem dX0_readNumber_4 : decode cX0_readNumber 4 = .ok (.invokestatic 64, 3) := by decide +kernel
theorem dX0_readNumber_7 : decode cX0_readNumber 7 = .ok (.istore 4, 2) := by decide +kernel
theorem dX0_readNumber_9 : decode cX0_readNumber 9 = .ok (.iload 4, 2) := by decide +kernel
theorem dX0_readNumber_11 : decode cX0_readNumber 11 = .ok (.iload_n 2, 1) := by decide +kernel
theorem dX0_readNumber_12 : decode cX0_readNumber 12 = .ok (.if_icmp .ge 5, 3) := by decide +kernel
theorem dX0_readNumber_15 : decode cX0_readNumber 15 = .ok (.iconst 0, 1) := by decide +kernel
theorem dX0_readNumber_16 : decode cX0_readNumber 16 = .ok (.ireturn, 1) := by decide +kernel
theorem dX0_readNumber_17 : decode cX0_readNumber 17 = .ok (.aload_n 0, 1) := by decide +kernel
theorem dX0_readNumber_18 : decode cX0_readNumber 18 = .ok (.dup, 1) := by decide +kernel
theorem dX0_readNumber_19 : decode cX0_readNumber 19 = .ok (.getfield 32, 3) := by decide +kernel
theorem dX0_readNumber_22 : decode cX0_readNumber 22 = .ok (.iconst 1, 1) := by decide +kernel
theorem dX0_readNumber_23 : decode cX0_readNumber 23 = .ok (.iadd, 1) := by decide +kernel
theorem dX0_readNumber_24 : decode cX0_readNumber 24 = .ok (.putfield 32, 3) := by decide +kernel
theorem dX0_readNumber_27 : decode cX0_readNumber 27 = .ok (.aload_n 0, 1) := by decide +kernel
theorem dX0_readNumber_28 : decode cX0_readNumber 28 = .ok (.invokevirtual 42, 3) := by decide +kernel
theorem dX0_readNumber_31 : decode cX0_readNumber 31 = .ok (.invokestatic 64, 3) := by decide +kernel
theorem dX0_readNumber_34 : decode cX0_readNumber 34 = .ok (.istore 5, 2) := by decide +kernel
theorem dX0_readNumber_36 : decode cX0_readNumber 36 = .ok (.iload 4, 2) := by decide +kernel
theorem dX0_readNumber_38 : decode cX0_readNumber 38 = .ok (.ifCond .le 40, 3) := by decide +kernel
theorem dX0_readNumber_41 : decode cX0_readNumber 41 = .ok (.iload 5, 2) := by decide +kernel
theorem dX0_readNumber_43 : decode cX0_readNumber 43 = .ok (.ifCond .lt 35, 3) := by decide +kernel
theorem dX0_readNumber_46 : decode cX0_readNumber 46 = .ok (.iload 4, 2) := by decide +kernel
theorem dX0_readNumber_48 : decode cX0_readNumber 48 = .ok (.bipush 10, 2) := by decide +kernel
theorem dX0_readNumber_50 : decode cX0_readNumber 50 = .ok (.imul, 1) := by decide +kernel
theorem dX0_readNumber_51 : decode cX0_readNumber 51 = .ok (.iload 5, 2) := by decide +kernel
theorem dX0_readNumber_53 : decode cX0_readNumber 53 = .ok (.iadd, 1) := by decide +kernel
theorem dX0_readNumber_54 : decode cX0_readNumber 54 = .ok (.iload_n 3, 1) := by decide +kernel
theorem dX0_readNumber_55 : decode cX0_readNumber 55 = .ok (.if_icmp .gt 23, 3) := by decide +kernel
theorem dX0_readNumber_58 : decode cX0_readNumber 58 = .ok (.aload_n 0, 1) := by decide +kernel
theorem dX0_readNumber_59 : decode cX0_readNumber 59 = .ok (.dup, 1) := by decide +kernel
theorem dX0_readNumber_60 : decode cX0_readNumber 60 = .ok (.getfield 32, 3) := by decide +kernel
theorem dX0_readNumber_63 : decode cX0_readNumber 63 = .ok (.iconst 1, 1) := by decide +kernel
theorem dX0_readNumber_64 : decode cX0_readNumber 64 = .ok (.iadd, 1) := by decide +kernel
theorem dX0_readNumber_65 : decode cX0_readNumber 65 = .ok (.putfield 32, 3) := by decide +kernel
theorem dX0_readNumber_68 : decode cX0_readNumber 68 = .ok (.iload 4, 2) := by decide +kernel
theorem dX0_readNumber_70 : decode cX0_readNumber 70 = .ok (.bipush 10, 2) := by decide +kernel
theorem dX0_readNumber_72 : decode cX0_readNumber 72 = .ok (.imul, 1) := by decide +kernel
theorem dX0_readNumber_73 : decode cX0_readNumber 73 = .ok (.iload 5, 2) := by decide +kernel
theorem dX0_readNumber_75 : decode cX0_readNumber 75 = .ok (.iadd, 1) := by decide +kernel
theorem dX0_readNumber_76 : decode cX0_readNumber 76 = .ok (.istore 4, 2) := by decide +kernel
theorem dX0_readNumber_78 : decode cX0_readNumber 78 = .ok (.aload_n 0, 1) := by decide +kernel
theorem dX0_readNumber_79 : decode cX0_readNumber 79 = .ok (.aload_n 0, 1) := by decide +kernel
theorem dX0_readNumber_80 : decode cX0_readNumber 80 = .ok (.getfield 22, 3) := by decide +kernel
theorem dX0_readNumber_83 : decode cX0_readNumber 83 = .ok (.iload_n 1, 1) := by decide +kernel
theorem dX0_readNumber_84 : decode cX0_readNumber 84 = .ok (.iload 4, 2) := by decide +kernel
theorem dX0_readNumber_86 : decode cX0_readNumber 86 = .ok (.invokevirtual 46, 3) := by decide +kernel
theorem dX0_readNumber_89 : decode cX0_readNumber 89 = .ok (.iconst 1, 1) := by decide +kernel
theorem dX0_readNumber_90 : decode cX0_readNumber 90 = .ok (.ireturn, 1) := by decide +kernel
theorem dX0_readSide_0 : decode cX0_readSide 0 = .ok (.aload_n 0, 1) := by decide +kernel
theorem dX0_readSide_1 : decode cX0_readSide 1 = .ok (.invokevirtual 42, 3) := by decide +kernel
theorem dX0_readSide_4 : decode cX0_readSide 4 = .ok (.invokestatic 67, 3) := by decide +kernel
theorem dX0_readSide_7 : decode cX0_readSide 7 = .ok (.istore_n 2, 1) := by decide +kernel
theorem dX0_readSide_8 : decode cX0_readSide 8 = .ok (.iload_n 2, 1) := by decide +kernel
theorem dX0_readSide_9 : decode cX0_readSide 9 = .ok (.bipush (-5), 2) := by decide +kernel
theorem dX0_readSide_11 : decode cX0_readSide 11 = .ok (.if_icmp .ne 5, 3) := by decide +kernel
theorem dX0_readSide_14 : decode cX0_readSide 14 = .ok (.iconst 0, 1) := by decide +kernel
theorem dX0_readSide_15 : decode cX0_readSide 15 = .ok (.ireturn, 1) := by decide +kernel
theorem dX0_readSide_16 : decode cX0_readSide 16 = .ok (.aload_n 0, 1) := by decide +kernel
theorem dX0_readSide_17 : decode cX0_readSide 17 = .ok (.dup, 1) := by decide +kernel
theorem dX0_readSide_18 : decode cX0_readSide 18 = .ok (.getfield 32, 3) := by decide +kernel
theorem dX0_readSide_21 : decode cX0_readSide 21 = .ok (.iconst 1, 1) := by decide +kernel
theorem dX0_readSide_22 : decode cX0_readSide 22 = .ok (.iadd, 1) := by decide +kernel
theorem dX0_readSide_23 : decode cX0_readSide 23 = .ok (.putfield 32, 3) := by decide +kernel
theorem dX0_readSide_26 : decode cX0_readSide 26 = .ok (.aload_n 0, 1) := by decide +kernel
theorem dX0_readSide_27 : decode cX0_readSide 27 = .ok (.aload_n 0, 1) := by decide +kernel
theorem dX0_readSide_28 : decode cX0_readSide 28 = .ok (.getfield 25, 3) := by decide +kernel
theorem dX0_readSide_31 : decode cX0_readSide 31 = .ok (.iload_n 1, 1) := by decide +kernel
theorem dX0_readSide_32 : decode cX0_readSide 32 = .ok (.iload_n 2, 1) := by decide +kernel
theorem dX0_readSide_33 : decode cX0_readSide 33 = .ok (.invokevirtual 46, 3) := by decide +kernel
theorem dX0_readSide_36 : decode cX0_readSide 36 = .ok (.iconst 1, 1) := by decide +kernel
theorem dX0_readSide_37 : decode cX0_readSide 37 = .ok (.ireturn, 1) := by decide +kernel
theorem dX0_look_0 : decode cX0_look 0 = .ok (.aload_n 0, 1) := by decide +kernel
theorem dX0_look_1 : decode cX0_look 1 = .ok (.getfield 32, 3) := by decide +kernel
theorem dX0_look_4 : decode cX0_look 4 = .ok (.ifCond .lt 35, 3) := by decide +kernel
theorem dX0_look_7 : decode cX0_look 7 = .ok (.aload_n 0, 1) := by decide +kernel
theorem dX0_look_8 : decode cX0_look 8 = .ok (.getfield 32, 3) := by decide +kernel
theorem dX0_look_11 : decode cX0_look 11 = .ok (.aload_n 0, 1) := by decide +kernel
theorem dX0_look_12 : decode cX0_look 12 = .ok (.getfield 28, 3) := by decide +kernel
theorem dX0_look_15 : decode cX0_look 15 = .ok (.if_icmp .ge 24, 3) := by decide +kernel
theorem dX0_look_18 : decode cX0_look 18 = .ok (.aload_n 0, 1) := by decide +kernel
theorem dX0_look_19 : decode cX0_look 19 = .ok (.getfield 32, 3) := by decide +kernel
theorem dX0_look_22 : decode cX0_look 22 = .ok (.bipush 60, 2) := by decide +kernel
theorem dX0_look_24 : decode cX0_look 24 = .ok (.if_icmp .ge 15, 3) := by decide +kernel
theorem dX0_look_27 : decode cX0_look 27 = .ok (.aload_n 0, 1) := by decide +kernel
theorem dX0_look_28 : decode cX0_look 28 = .ok (.getfield 9, 3) := by decide +kernel
theorem dX0_look_31 : decode cX0_look 31 = .ok (.aload_n 0, 1) := by decide +kernel
theorem dX0_look_32 : decode cX0_look 32 = .ok (.getfield 32, 3) := by decide +kernel
theorem dX0_look_35 : decode cX0_look 35 = .ok (.caload, 1) := by decide +kernel
theorem dX0_look_36 : decode cX0_look 36 = .ok (.goto 5, 3) := by decide +kernel
theorem dX0_look_39 : decode cX0_look 39 = .ok (.bipush (-5), 2) := by decide +kernel
theorem dX0_look_41 : decode cX0_look 41 = .ok (.ireturn, 1) := by decide +kernel
theorem dX0_kindOf_0 : decode cX0_kindOf 0 = .ok (.iload_n 0, 1) := by decide +kernel
theorem dX0_kindOf_1 : decode cX0_kindOf 1 = .ok (.lookupswitch 51 #[(99, 47), (102, 43), (103, 45), (116, 49)], 43) := by decide +kernel
theorem dX0_kindOf_44 : decode cX0_kindOf 44 = .ok (.iconst 0, 1) := by decide +kernel
theorem dX0_kindOf_45 : decode cX0_kindOf 45 = .ok (.ireturn, 1) := by decide +kernel
theorem dX0_kindOf_46 : decode cX0_kindOf 46 = .ok (.iconst 1, 1) := by decide +kernel
theorem dX0_kindOf_47 : decode cX0_kindOf 47 = .ok (.ireturn, 1) := by decide +kernel
theorem dX0_kindOf_48 : decode cX0_kindOf 48 = .ok (.iconst 2, 1) := by decide +kernel
theorem dX0_kindOf_49 : decode cX0_kindOf 49 = .ok (.ireturn, 1) := by decide +kernel
theorem dX0_kindOf_50 : decode cX0_kindOf 50 = .ok (.iconst 3, 1) := by decide +kernel
theorem dX0_kindOf_51 : decode cX0_kindOf 51 = .ok (.ireturn, 1) := by decide +kernel
theorem dX0_kindOf_52 : decode cX0_kindOf 52 = .ok (.bipush (-5), 2) := by decide +kernel
theorem dX0_kindOf_54 : decode cX0_kindOf 54 = .ok (.ireturn, 1) := by decide +kernel
theorem dX0_sideOf_0 : decode cX0_sideOf 0 = .ok (.iload_n 0, 1) := by decide +kernel
theorem dX0_sideOf_1 : decode cX0_sideOf 1 = .ok (.lookupswitch 51 #[(101, 45), (110, 43), (115, 47), (119, 49)], 43) := by decide +kernel
theorem dX0_sideOf_44 : decode cX0_sideOf 44 = .ok (.iconst 0, 1) := by decide +kernel
theorem dX0_sideOf_45 : decode cX0_sideOf 45 = .ok (.ireturn, 1) := by decide +kernel
theorem dX0_sideOf_46 : decode cX0_sideOf 46 = .ok (.iconst 1, 1) := by decide +kernel
theorem dX0_sideOf_47 : decode cX0_sideOf 47 = .ok (.ireturn, 1) := by decide +kernel
theorem dX0_sideOf_48 : decode cX0_sideOf 48 = .ok (.iconst 2, 1) := by decide +kernel
theorem dX0_sideOf_49 : decode cX0_sideOf 49 = .ok (.ireturn, 1) := by decide +kernel
theorem dX0_sideOf_50 : decode cX0_sideOf 50 = .ok (.iconst 3, 1) := by decide +kernel
theorem dX0_sideOf_51 : decode cX0_sideOf 51 = .ok (.ireturn, 1) := by decide +kernel
theorem dX0_sideOf_52 : decode cX0_sideOf 52 = .ok (.bipush (-5), 2) := by decide +kernel
theorem dX0_sideOf_54 : decode cX0_sideOf 54 = .ok (.ireturn, 1) := by decide +kernel
theorem dX0_digitOf_0 : decode cX0_digitOf 0 = .ok (.iload_n 0, 1) := by decide +kernel
theorem dX0_digitOf_1 : decode cX0_digitOf 1 = .ok (.bipush 48, 2) := by decide +kernel
theorem dX0_digitOf_3 : decode cX0_digitOf 3 = .ok (.if_icmp .lt 16, 3) := by decide +kernel
theorem dX0_digitOf_6 : decode cX0_digitOf 6 = .ok (.iload_n 0, 1) := by decide +kernel
theorem dX0_digitOf_7 : decode cX0_digitOf 7 = .ok (.bipush 57, 2) := by decide +kernel
theorem dX0_digitOf_9 : decode cX0_digitOf 9 = .ok (.if_icmp .gt 10, 3) := by decide +kernel
theorem dX0_digitOf_12 : decode cX0_digitOf 12 = .ok (.iload_n 0, 1) := by decide +kernel
theorem dX0_digitOf_13 : decode cX0_digitOf 13 = .ok (.bipush 48, 2) := by decide +kernel
theorem dX0_digitOf_15 : decode cX0_digitOf 15 = .ok (.isub, 1) := by decide +kernel
theorem dX0_digitOf_16 : decode cX0_digitOf 16 = .ok (.goto 5, 3) := by decide +kernel
theorem dX0_digitOf_19 : decode cX0_digitOf 19 = .ok (.bipush (-5), 2) := by decide +kernel
theorem dX0_digitOf_21 : decode cX0_digitOf 21 = .ok (.ireturn, 1) := by decide +kernel
theorem dX1_init_0 : decode cX1_init 0 = .ok (.aload_n 0, 1) := by decide +kernel
theorem dX1_init_1 : decode cX1_init 1 = .ok (.invokespecial 3, 3) := by decide +kernel
theorem dX1_init_4 : decode cX1_init 4 = .ok (.aload_n 0, 1) := by decide +kernel
theorem dX1_init_5 : decode cX1_init 5 = .ok (.sipush 192, 3) := by decide +kernel
theorem dX1_init_8 : decode cX1_init 8 = .ok (.newarray .int, 2) := by decide +kernel
theorem dX1_init_10 : decode cX1_init 10 = .ok (.putfield 9, 3) := by decide +kernel
theorem dX1_init_13 : decode cX1_init 13 = .ok (.aload_n 0, 1) := by decide +kernel
theorem dX1_init_14 : decode cX1_init 14 = .ok (.sipush 192, 3) := by decide +kernel
theorem dX1_init_17 : decode cX1_init 17 = .ok (.newarray .int, 2) := by decide +kernel
theorem dX1_init_19 : decode cX1_init 19 = .ok (.putfield 15, 3) := by decide +kernel
theorem dX1_init_22 : decode cX1_init 22 = .ok (.aload_n 0, 1) := by decide +kernel
theorem dX1_init_23 : decode cX1_init 23 = .ok (.bipush 82, 2) := by decide +kernel
theorem dX1_init_25 : decode cX1_init 25 = .ok (.newarray .int, 2) := by decide +kernel
theorem dX1_init_27 : decode cX1_init 27 = .ok (.putfield 18, 3) := by decide +kernel
theorem dX1_init_30 : decode cX1_init 30 = .ok (.aload_n 0, 1) := by decide +kernel
theorem dX1_init_31 : decode cX1_init 31 = .ok (.bipush 82, 2) := by decide +kernel
theorem dX1_init_33 : decode cX1_init 33 = .ok (.newarray .int, 2) := by decide +kernel
theorem dX1_init_35 : decode cX1_init 35 = .ok (.putfield 21, 3) := by decide +kernel
theorem dX1_init_38 : decode cX1_init 38 = .ok (.aload_n 0, 1) := by decide +kernel
theorem dX1_init_39 : decode cX1_init 39 = .ok (.getfield 9, 3) := by decide +kernel
theorem dX1_init_42 : decode cX1_init 42 = .ok (.bipush (-5), 2) := by decide +kernel
theorem dX1_init_44 : decode cX1_init 44 = .ok (.invokestatic 24, 3) := by decide +kernel
theorem dX1_init_47 : decode cX1_init 47 = .ok (.aload_n 0, 1) := by decide +kernel
theorem dX1_init_48 : decode cX1_init 48 = .ok (.getfield 15, 3) := by decide +kernel
theorem dX1_init_51 : decode cX1_init 51 = .ok (.bipush (-5), 2) := by decide +kernel
theorem dX1_init_53 : decode cX1_init 53 = .ok (.invokestatic 24, 3) := by decide +kernel
theorem dX1_init_56 : decode cX1_init 56 = .ok (.iconst 0, 1) := by decide +kernel
theorem dX1_init_57 : decode cX1_init 57 = .ok (.istore_n 1, 1) := by decide +kernel
theorem dX1_init_58 : decode cX1_init 58 = .ok (.iconst 0, 1) := by decide +kernel
theorem dX1_init_59 : decode cX1_init 59 = .ok (.istore_n 2, 1) := by decide +kernel
theorem dX1_init_60 : decode cX1_init 60 = .ok (.iload_n 2, 1) := by decide +kernel
theorem dX1_init_61 : decode cX1_init 61 = .ok (.bipush 48, 2) := by decide +kernel
theorem dX1_init_63 : decode cX1_init 63 = .ok (.if_icmp .ge 54, 3) := by decide +kernel
theorem dX1_init_66 : decode cX1_init 66 = .ok (.iload_n 2, 1) := by decide +kernel
theorem dX1_init_67 : decode cX1_init 67 = .ok (.bipush 8, 2) := by decide +kernel
theorem dX1_init_69 : decode cX1_init 69 = .ok (.irem, 1) := by decide +kernel
theorem dX1_init_70 : decode cX1_init 70 = .ok (.bipush 7, 2) := by decide +kernel
theorem dX1_init_72 : decode cX1_init 72 = .ok (.if_icmp .ge 16, 3) := by decide +kernel
theorem dX1_init_75 : decode cX1_init 75 = .ok (.aload_n 0, 1) := by decide +kernel
theorem dX1_init_76 : decode cX1_init 76 = .ok (.iload_n 1, 1) := by decide +kernel
theorem dX1_init_77 : decode cX1_init 77 = .ok (.iload_n 2, 1) := by decide +kernel
theorem dX1_init_78 : decode cX1_init 78 = .ok (.iconst 1, 1) := by decide +kernel
theorem dX1_init_79 : decode cX1_init 79 = .ok (.iload_n 2, 1) := by decide +kernel
theorem dX1_init_80 : decode cX1_init 80 = .ok (.iconst 1, 1) := by decide +kernel
theorem dX1_init_81 : decode cX1_init 81 = .ok (.iadd, 1) := by decide +kernel
theorem dX1_init_82 : decode cX1_init 82 = .ok (.invokevirtual 30, 3) := by decide +kernel
theorem dX1_init_85 : decode cX1_init 85 = .ok (.iinc 1 1, 3) := by decide +kernel
theorem dX1_init_88 : decode cX1_init 88 = .ok (.iload_n 2, 1) := by decide +kernel
theorem dX1_init_89 : decode cX1_init 89 = .ok (.bipush 8, 2) := by decide +kernel
theorem dX1_init_91 : decode cX1_init 91 = .ok (.iadd, 1) := by decide +kernel
theorem dX1_init_92 : decode cX1_init 92 = .ok (.bipush 48, 2) := by decide +kernel
theorem dX1_init_94 : decode cX1_init 94 = .ok (.if_icmp .ge 17, 3) := by decide +kernel
theorem dX1_init_97 : decode cX1_init 97 = .ok (.aload_n 0, 1) := by decide +kernel
theorem dX1_init_98 : decode cX1_init 98 = .ok (.iload_n 1, 1) := by decide +kernel
theorem dX1_init_99 : decode cX1_init 99 = .ok (.iload_n 2, 1) := by decide +kernel
theorem dX1_init_100 : decode cX1_init 100 = .ok (.iconst 2, 1) := by decide +kernel
theorem dX1_init_101 : decode cX1_init 101 = .ok (.iload_n 2, 1) := by decide +kernel
theorem dX1_init_102 : decode cX1_init 102 = .ok (.bipush 8, 2) := by decide +kernel
theorem dX1_init_104 : decode cX1_init 104 = .ok (.iadd, 1) := by decide +kernel
theorem dX1_init_105 : decode cX1_init 105 = .ok (.invokevirtual 30, 3) := by decide +kernel
theorem dX1_init_108 : decode cX1_init 108 = .ok (.iinc 1 1, 3) := by decide +kernel
theorem dX1_init_111 : decode cX1_init 111 = .ok (.iinc 2 1, 3) := by decide +kernel
theorem dX1_init_114 : decode cX1_init 114 = .ok (.goto (-54), 3) := by decide +kernel
theorem dX1_init_117 : decode cX1_init 117 = .ok (.return_, 1) := by decide +kernel
theorem dX1_layEdge_0 : decode cX1_layEdge 0 = .ok (.iload_n 3, 1) := by decide +kernel
theorem dX1_layEdge_1 : decode cX1_layEdge 1 = .ok (.ifCond .lt 12, 3) := by decide +kernel
theorem dX1_layEdge_4 : decode cX1_layEdge 4 = .ok (.iload_n 3, 1) := by decide +kernel
theorem dX1_layEdge_5 : decode cX1_layEdge 5 = .ok (.iconst 4, 1) := by decide +kernel
theorem dX1_layEdge_6 : decode cX1_layEdge 6 = .ok (.if_icmp .ge 7, 3) := by decide +kernel
theorem dX1_layEdge_9 : decode cX1_layEdge 9 = .ok (.iconst 1, 1) := by decide +kernel
theorem dX1_layEdge_10 : decode cX1_layEdge 10 = .ok (.goto 4, 3) := by decide +kernel
theorem dX1_layEdge_13 : decode cX1_layEdge 13 = .ok (.iconst 0, 1) := by decide +kernel
theorem dX1_layEdge_14 : decode cX1_layEdge 14 = .ok (.istore 5, 2) := by decide +kernel
theorem dX1_layEdge_16 : decode cX1_layEdge 16 = .ok (.iload_n 1, 1) := by decide +kernel
theorem dX1_layEdge_17 : decode cX1_layEdge 17 = .ok (.invokestatic 34, 3) := by decide +kernel
theorem dX1_layEdge_20 : decode cX1_layEdge 20 = .ok (.ifCond .eq 23, 3) := by decide +kernel
theorem dX1_layEdge_23 : decode cX1_layEdge 23 = .ok (.iload_n 2, 1) := by decide +kernel
theorem dX1_layEdge_24 : decode cX1_layEdge 24 = .ok (.invokestatic 38, 3) := by decide +kernel
theorem dX1_layEdge_27 : decode cX1_layEdge 27 = .ok (.ifCond .eq 16, 3) := by decide +kernel
theorem dX1_layEdge_30 : decode cX1_layEdge 30 = .ok (.iload 5, 2) := by decide +kernel
theorem dX1_layEdge_32 : decode cX1_layEdge 32 = .ok (.ifCond .eq 11, 3) := by decide +kernel
theorem dX1_layEdge_35 : decode cX1_layEdge 35 = .ok (.iload 4, 2) := by decide +kernel
theorem dX1_layEdge_37 : decode cX1_layEdge 37 = .ok (.invokestatic 38, 3) := by decide +kernel
theorem dX1_layEdge_40 : decode cX1_layEdge 40 = .ok (.ifCond .ne 4, 3) := by decide +kernel
theorem dX1_layEdge_43 : decode cX1_layEdge 43 = .ok (.return_, 1) := by decide +kernel
theorem dX1_layEdge_44 : decode cX1_layEdge 44 = .ok (.iload_n 2, 1) := by decide +kernel
theorem dX1_layEdge_45 : decode cX1_layEdge 45 = .ok (.iconst 4, 1) := by decide +kernel
theorem dX1_layEdge_46 : decode cX1_layEdge 46 = .ok (.imul, 1) := by decide +kernel
theorem dX1_layEdge_47 : decode cX1_layEdge 47 = .ok (.iload_n 3, 1) := by decide +kernel
theorem dX1_layEdge_48 : decode cX1_layEdge 48 = .ok (.iadd, 1) := by decide +kernel
theorem dX1_layEdge_49 : decode cX1_layEdge 49 = .ok (.istore 6, 2) := by decide +kernel
theorem dX1_layEdge_51 : decode cX1_layEdge 51 = .ok (.iload 4, 2) := by decide +kernel
theorem dX1_layEdge_53 : decode cX1_layEdge 53 = .ok (.iconst 4, 1) := by decide +kernel
theorem dX1_layEdge_54 : decode cX1_layEdge 54 = .ok (.imul, 1) := by decide +kernel
theorem dX1_layEdge_55 : decode cX1_layEdge 55 = .ok (.iload_n 3, 1) := by decide +kernel
theorem dX1_layEdge_56 : decode cX1_layEdge 56 = .ok (.iconst 2, 1) := by decide +kernel
theorem dX1_layEdge_57 : decode cX1_layEdge 57 = .ok (.iadd, 1) := by decide +kernel
theorem dX1_layEdge_58 : decode cX1_layEdge 58 = .ok (.iconst 4, 1) := by decide +kernel
theorem dX1_layEdge_59 : decode cX1_layEdge 59 = .ok (.irem, 1) := by decide +kernel
theorem dX1_layEdge_60 : decode cX1_layEdge 60 = .ok (.iadd, 1) := by decide +kernel
theorem dX1_layEdge_61 : decode cX1_layEdge 61 = .ok (.istore 7, 2) := by decide +kernel
theorem dX1_layEdge_63 : decode cX1_layEdge 63 = .ok (.aload_n 0, 1) := by decide +kernel
theorem dX1_layEdge_64 : decode cX1_layEdge 64 = .ok (.getfield 9, 3) := by decide +kernel
theorem dX1_layEdge_67 : decode cX1_layEdge 67 = .ok (.iload 6, 2) := by decide +kernel
theorem dX1_layEdge_69 : decode cX1_layEdge 69 = .ok (.iload 4, 2) := by decide +kernel
theorem dX1_layEdge_71 : decode cX1_layEdge 71 = .ok (.iastore, 1) := by decide +kernel
theorem dX1_layEdge_72 : decode cX1_layEdge 72 = .ok (.aload_n 0, 1) := by decide +kernel
theorem dX1_layEdge_73 : decode cX1_layEdge 73 = .ok (.getfield 9, 3) := by decide +kernel
theorem dX1_layEdge_76 : decode cX1_layEdge 76 = .ok (.iload 7, 2) := by decide +kernel
theorem dX1_layEdge_78 : decode cX1_layEdge 78 = .ok (.iload_n 2, 1) := by decide +kernel
theorem dX1_layEdge_79 : decode cX1_layEdge 79 = .ok (.iastore, 1) := by decide +kernel
theorem dX1_layEdge_80 : decode cX1_layEdge 80 = .ok (.aload_n 0, 1) := by decide +kernel
theorem dX1_layEdge_81 : decode cX1_layEdge 81 = .ok (.getfield 15, 3) := by decide +kernel
theorem dX1_layEdge_84 : decode cX1_layEdge 84 = .ok (.iload 6, 2) := by decide +kernel
theorem dX1_layEdge_86 : decode cX1_layEdge 86 = .ok (.iload_n 1, 1) := by decide +kernel
theorem dX1_layEdge_87 : decode cX1_layEdge 87 = .ok (.iastore, 1) := by decide +kernel
theorem dX1_layEdge_88 : decode cX1_layEdge 88 = .ok (.aload_n 0, 1) := by decide +kernel
theorem dX1_layEdge_89 : decode cX1_layEdge 89 = .ok (.getfield 15, 3) := by decide +kernel
theorem dX1_layEdge_92 : decode cX1_layEdge 92 = .ok (.iload 7, 2) := by decide +kernel
theorem dX1_layEdge_94 : decode cX1_layEdge 94 = .ok (.iload_n 1, 1) := by decide +kernel
theorem dX1_layEdge_95 : decode cX1_layEdge 95 = .ok (.iastore, 1) := by decide +kernel
theorem dX1_layEdge_96 : decode cX1_layEdge 96 = .ok (.aload_n 0, 1) := by decide +kernel
theorem dX1_layEdge_97 : decode cX1_layEdge 97 = .ok (.getfield 18, 3) := by decide +kernel
theorem dX1_layEdge_100 : decode cX1_layEdge 100 = .ok (.iload_n 1, 1) := by decide +kernel
theorem dX1_layEdge_101 : decode cX1_layEdge 101 = .ok (.iload_n 2, 1) := by decide +kernel
theorem dX1_layEdge_102 : decode cX1_layEdge 102 = .ok (.iastore, 1) := by decide +kernel
theorem dX1_layEdge_103 : decode cX1_layEdge 103 = .ok (.aload_n 0, 1) := by decide +kernel
theorem dX1_layEdge_104 : decode cX1_layEdge 104 = .ok (.getfield 21, 3) := by decide +kernel
theorem dX1_layEdge_107 : decode cX1_layEdge 107 = .ok (.iload_n 1, 1) := by decide +kernel
theorem dX1_layEdge_108 : decode cX1_layEdge 108 = .ok (.iload 4, 2) := by decide +kernel
theorem dX1_layEdge_110 : decode cX1_layEdge 110 = .ok (.iastore, 1) := by decide +kernel
theorem dX1_layEdge_111 : decode cX1_layEdge 111 = .ok (.return_, 1) := by decide +kernel
theorem dX1_edgeNumber_0 : decode cX1_edgeNumber 0 = .ok (.iload_n 1, 1) := by decide +kernel
theorem dX1_edgeNumber_1 : decode cX1_edgeNumber 1 = .ok (.invokestatic 38, 3) := by decide +kernel
theorem dX1_edgeNumber_4 : decode cX1_edgeNumber 4 = .ok (.ifCond .eq 12, 3) := by decide +kernel
theorem dX1_edgeNumber_7 : decode cX1_edgeNumber 7 = .ok (.iload_n 2, 1) := by decide +kernel
theorem dX1_edgeNumber_8 : decode cX1_edgeNumber 8 = .ok (.ifCond .lt 8, 3) := by decide +kernel
theorem dX1_edgeNumber_11 : decode cX1_edgeNumber 11 = .ok (.iload_n 2, 1) := by decide +kernel
theorem dX1_edgeNumber_12 : decode cX1_edgeNumber 12 = .ok (.iconst 4, 1) := by decide +kernel
theorem dX1_edgeNumber_13 : decode cX1_edgeNumber 13 = .ok (.if_icmp .lt 6, 3) := by decide +kernel
theorem dX1_edgeNumber_16 : decode cX1_edgeNumber 16 = .ok (.bipush (-5), 2) := by decide +kernel
theorem dX1_edgeNumber_18 : decode cX1_edgeNumber 18 = .ok (.ireturn, 1) := by decide +kernel
theorem dX1_edgeNumber_19 : decode cX1_edgeNumber 19 = .ok (.aload_n 0, 1) := by decide +kernel
theorem dX1_edgeNumber_20 : decode cX1_edgeNumber 20 = .ok (.getfield 15, 3) := by decide +kernel
theorem dX1_edgeNumber_23 : decode cX1_edgeNumber 23 = .ok (.iload_n 1, 1) := by decide +kernel
theorem dX1_edgeNumber_24 : decode cX1_edgeNumber 24 = .ok (.iconst 4, 1) := by decide +kernel
theorem dX1_edgeNumber_25 : decode cX1_edgeNumber 25 = .ok (.imul, 1) := by decide +kernel
theorem dX1_edgeNumber_26 : decode cX1_edgeNumber 26 = .ok (.iload_n 2, 1) := by decide +kernel
theorem dX1_edgeNumber_27 : decode cX1_edgeNumber 27 = .ok (.iadd, 1) := by decide +kernel
theorem dX1_edgeNumber_28 : decode cX1_edgeNumber 28 = .ok (.iaload, 1) := by decide +kernel
theorem dX1_edgeNumber_29 : decode cX1_edgeNumber 29 = .ok (.ireturn, 1) := by decide +kernel
theorem dX2_init_0 : decode cX2_init 0 = .ok (.aload_n 0, 1) := by decide +kernel
theorem dX2_init_1 : decode cX2_init 1 = .ok (.invokespecial 3, 3) := by decide +kernel
theorem dX2_init_4 : decode cX2_init 4 = .ok (.aload_n 0, 1) := by decide +kernel
theorem dX2_init_5 : decode cX2_init 5 = .ok (.iconst 4, 1) := by decide +kernel
theorem dX2_init_6 : decode cX2_init 6 = .ok (.anewarray 9, 3) := by decide +kernel
theorem dX2_init_9 : decode cX2_init 9 = .ok (.dup, 1) := by decide +kernel
theorem dX2_init_10 : decode cX2_init 10 = .ok (.iconst 0, 1) := by decide +kernel
theorem dX2_init_11 : decode cX2_init 11 = .ok (.new 9, 3) := by decide +kernel
theorem dX2_init_14 : decode cX2_init 14 = .ok (.dup, 1) := by decide +kernel
theorem dX2_init_15 : decode cX2_init 15 = .ok (.invokespecial 11, 3) := by decide +kernel
theorem dX2_init_18 : decode cX2_init 18 = .ok (.aastore, 1) := by decide +kernel
theorem dX2_init_19 : decode cX2_init 19 = .ok (.dup, 1) := by decide +kernel
theorem dX2_init_20 : decode cX2_init 20 = .ok (.iconst 1, 1) := by decide +kernel
theorem dX2_init_21 : decode cX2_init 21 = .ok (.new 9, 3) := by decide +kernel
theorem dX2_init_24 : decode cX2_init 24 = .ok (.dup, 1) := by decide +kernel
theorem dX2_init_25 : decode cX2_init 25 = .ok (.invokespecial 11, 3) := by decide +kernel
theorem dX2_init_28 : decode cX2_init 28 = .ok (.aastore, 1) := by decide +kernel
theorem dX2_init_29 : decode cX2_init 29 = .ok (.dup, 1) := by decide +kernel
theorem dX2_init_30 : decode cX2_init 30 = .ok (.iconst 2, 1) := by decide +kernel
theorem dX2_init_31 : decode cX2_init 31 = .ok (.new 9, 3) := by decide +kernel
theorem dX2_init_34 : decode cX2_init 34 = .ok (.dup, 1) := by decide +kernel
theorem dX2_init_35 : decode cX2_init 35 = .ok (.invokespecial 11, 3) := by decide +kernel
theorem dX2_init_38 : decode cX2_init 38 = .ok (.aastore, 1) := by decide +kernel
theorem dX2_init_39 : decode cX2_init 39 = .ok (.dup, 1) := by decide +kernel
theorem dX2_init_40 : decode cX2_init 40 = .ok (.iconst 3, 1) := by decide +kernel
theorem dX2_init_41 : decode cX2_init 41 = .ok (.new 9, 3) := by decide +kernel
theorem dX2_init_44 : decode cX2_init 44 = .ok (.dup, 1) := by decide +kernel
theorem dX2_init_45 : decode cX2_init 45 = .ok (.invokespecial 11, 3) := by decide +kernel
theorem dX2_init_48 : decode cX2_init 48 = .ok (.aastore, 1) := by decide +kernel
theorem dX2_init_49 : decode cX2_init 49 = .ok (.putfield 12, 3) := by decide +kernel
theorem dX2_init_52 : decode cX2_init 52 = .ok (.return_, 1) := by decide +kernel
theorem dX2_add_0 : decode cX2_add 0 = .ok (.aload_n 0, 1) := by decide +kernel
theorem dX2_add_1 : decode cX2_add 1 = .ok (.getfield 18, 3) := by decide +kernel
theorem dX2_add_4 : decode cX2_add 4 = .ok (.iconst 4, 1) := by decide +kernel
theorem dX2_add_5 : decode cX2_add 5 = .ok (.invokestatic 22, 3) := by decide +kernel
theorem dX2_add_8 : decode cX2_add 8 = .ok (.istore_n 2, 1) := by decide +kernel
theorem dX2_add_9 : decode cX2_add 9 = .ok (.aload_n 0, 1) := by decide +kernel
theorem dX2_add_10 : decode cX2_add 10 = .ok (.getfield 12, 3) := by decide +kernel
theorem dX2_add_13 : decode cX2_add 13 = .ok (.iload_n 2, 1) := by decide +kernel
theorem dX2_add_14 : decode cX2_add 14 = .ok (.aaload, 1) := by decide +kernel
theorem dX2_add_15 : decode cX2_add 15 = .ok (.aload_n 1, 1) := by decide +kernel
theorem dX2_add_16 : decode cX2_add 16 = .ok (.invokevirtual 28, 3) := by decide +kernel
theorem dX2_add_19 : decode cX2_add 19 = .ok (.aload_n 0, 1) := by decide +kernel
theorem dX2_add_20 : decode cX2_add 20 = .ok (.iload_n 2, 1) := by decide +kernel
theorem dX2_add_21 : decode cX2_add 21 = .ok (.iconst 1, 1) := by decide +kernel
theorem dX2_add_22 : decode cX2_add 22 = .ok (.iadd, 1) := by decide +kernel
theorem dX2_add_23 : decode cX2_add 23 = .ok (.putfield 18, 3) := by decide +kernel
theorem dX2_add_26 : decode cX2_add 26 = .ok (.aload_n 0, 1) := by decide +kernel
theorem dX2_add_27 : decode cX2_add 27 = .ok (.getfield 32, 3) := by decide +kernel
theorem dX2_add_30 : decode cX2_add 30 = .ok (.iconst 4, 1) := by decide +kernel
theorem dX2_add_31 : decode cX2_add 31 = .ok (.if_icmp .ge 13, 3) := by decide +kernel
theorem dX2_add_34 : decode cX2_add 34 = .ok (.aload_n 0, 1) := by decide +kernel
theorem dX2_add_35 : decode cX2_add 35 = .ok (.dup, 1) := by decide +kernel
theorem dX2_add_36 : decode cX2_add 36 = .ok (.getfield 32, 3) := by decide +kernel
theorem dX2_add_39 : decode cX2_add 39 = .ok (.iconst 1, 1) := by decide +kernel
theorem dX2_add_40 : decode cX2_add 40 = .ok (.iadd, 1) := by decide +kernel
theorem dX2_add_41 : decode cX2_add 41 = .ok (.putfield 32, 3) := by decide +kernel
theorem dX2_add_44 : decode cX2_add 44 = .ok (.return_, 1) := by decide +kernel
theorem dX2_takeBack_0 : decode cX2_takeBack 0 = .ok (.aload_n 0, 1) := by decide +kernel
theorem dX2_takeBack_1 : decode cX2_takeBack 1 = .ok (.getfield 32, 3) := by decide +kernel
theorem dX2_takeBack_4 : decode cX2_takeBack 4 = .ok (.ifCond .ne 6, 3) := by decide +kernel
theorem dX2_takeBack_7 : decode cX2_takeBack 7 = .ok (.bipush (-5), 2) := by decide +kernel
theorem dX2_takeBack_9 : decode cX2_takeBack 9 = .ok (.ireturn, 1) := by decide +kernel
theorem dX2_takeBack_10 : decode cX2_takeBack 10 = .ok (.aload_n 0, 1) := by decide +kernel
theorem dX2_takeBack_11 : decode cX2_takeBack 11 = .ok (.getfield 18, 3) := by decide +kernel
theorem dX2_takeBack_14 : decode cX2_takeBack 14 = .ok (.iconst 1, 1) := by decide +kernel
theorem dX2_takeBack_15 : decode cX2_takeBack 15 = .ok (.isub, 1) := by decide +kernel
theorem dX2_takeBack_16 : decode cX2_takeBack 16 = .ok (.iconst 4, 1) := by decide +kernel
theorem dX2_takeBack_17 : decode cX2_takeBack 17 = .ok (.invokestatic 22, 3) := by decide +kernel
theorem dX2_takeBack_20 : decode cX2_takeBack 20 = .ok (.istore_n 2, 1) := by decide +kernel
theorem dX2_takeBack_21 : decode cX2_takeBack 21 = .ok (.aload_n 1, 1) := by decide +kernel
theorem dX2_takeBack_22 : decode cX2_takeBack 22 = .ok (.aload_n 0, 1) := by decide +kernel
theorem dX2_takeBack_23 : decode cX2_takeBack 23 = .ok (.getfield 12, 3) := by decide +kernel
theorem dX2_takeBack_26 : decode cX2_takeBack 26 = .ok (.iload_n 2, 1) := by decide +kernel
theorem dX2_takeBack_27 : decode cX2_takeBack 27 = .ok (.aaload, 1) := by decide +kernel
theorem dX2_takeBack_28 : decode cX2_takeBack 28 = .ok (.invokevirtual 28, 3) := by decide +kernel
theorem dX2_takeBack_31 : decode cX2_takeBack 31 = .ok (.aload_n 0, 1) := by decide +kernel
theorem dX2_takeBack_32 : decode cX2_takeBack 32 = .ok (.iload_n 2, 1) := by decide +kernel
theorem dX2_takeBack_33 : decode cX2_takeBack 33 = .ok (.putfield 18, 3) := by decide +kernel
theorem dX2_takeBack_36 : decode cX2_takeBack 36 = .ok (.aload_n 0, 1) := by decide +kernel
theorem dX2_takeBack_37 : decode cX2_takeBack 37 = .ok (.dup, 1) := by decide +kernel
theorem dX2_takeBack_38 : decode cX2_takeBack 38 = .ok (.getfield 32, 3) := by decide +kernel
theorem dX2_takeBack_41 : decode cX2_takeBack 41 = .ok (.iconst 1, 1) := by decide +kernel
theorem dX2_takeBack_42 : decode cX2_takeBack 42 = .ok (.isub, 1) := by decide +kernel
theorem dX2_takeBack_43 : decode cX2_takeBack 43 = .ok (.putfield 32, 3) := by decide +kernel
theorem dX2_takeBack_46 : decode cX2_takeBack 46 = .ok (.aload_n 0, 1) := by decide +kernel
theorem dX2_takeBack_47 : decode cX2_takeBack 47 = .ok (.getfield 32, 3) := by decide +kernel
theorem dX2_takeBack_50 : decode cX2_takeBack 50 = .ok (.ireturn, 1) := by decide +kernel
theorem dX3_init_0 : decode cX3_init 0 = .ok (.aload_n 0, 1) := by decide +kernel
theorem dX3_init_1 : decode cX3_init 1 = .ok (.invokespecial 3, 3) := by decide +kernel
theorem dX3_init_4 : decode cX3_init 4 = .ok (.aload_n 0, 1) := by decide +kernel
theorem dX3_init_5 : decode cX3_init 5 = .ok (.aload_n 1, 1) := by decide +kernel
theorem dX3_init_6 : decode cX3_init 6 = .ok (.putfield 9, 3) := by decide +kernel
theorem dX3_init_9 : decode cX3_init 9 = .ok (.aload_n 0, 1) := by decide +kernel
theorem dX3_init_10 : decode cX3_init 10 = .ok (.aload_n 2, 1) := by decide +kernel
theorem dX3_init_11 : decode cX3_init 11 = .ok (.putfield 15, 3) := by decide +kernel
theorem dX3_init_14 : decode cX3_init 14 = .ok (.return_, 1) := by decide +kernel
theorem dX3_deliver_0 : decode cX3_deliver 0 = .ok (.iconst 0, 1) := by decide +kernel
theorem dX3_deliver_1 : decode cX3_deliver 1 = .ok (.istore_n 3, 1) := by decide +kernel
theorem dX3_deliver_2 : decode cX3_deliver 2 = .ok (.iconst 0, 1) := by decide +kernel
theorem dX3_deliver_3 : decode cX3_deliver 3 = .ok (.istore 4, 2) := by decide +kernel
theorem dX3_deliver_5 : decode cX3_deliver 5 = .ok (.iload 4, 2) := by decide +kernel
theorem dX3_deliver_7 : decode cX3_deliver 7 = .ok (.bipush 60, 2) := by decide +kernel
theorem dX3_deliver_9 : decode cX3_deliver 9 = .ok (.if_icmp .ge 57, 3) := by decide +kernel
theorem dX3_deliver_12 : decode cX3_deliver 12 = .ok (.aload_n 1, 1) := by decide +kernel
theorem dX3_deliver_13 : decode cX3_deliver 13 = .ok (.invokevirtual 19, 3) := by decide +kernel
theorem dX3_deliver_16 : decode cX3_deliver 16 = .ok (.istore 5, 2) := by decide +kernel
theorem dX3_deliver_18 : decode cX3_deliver 18 = .ok (.iload 5, 2) := by decide +kernel
theorem dX3_deliver_20 : decode cX3_deliver 20 = .ok (.bipush (-5), 2) := by decide +kernel
theorem dX3_deliver_22 : decode cX3_deliver 22 = .ok (.if_icmp .eq 44, 3) := by decide +kernel
theorem dX3_deliver_25 : decode cX3_deliver 25 = .ok (.aload_n 1, 1) := by decide +kernel
theorem dX3_deliver_26 : decode cX3_deliver 26 = .ok (.iload 5, 2) := by decide +kernel
theorem dX3_deliver_28 : decode cX3_deliver 28 = .ok (.iconst 5, 1) := by decide +kernel
theorem dX3_deliver_29 : decode cX3_deliver 29 = .ok (.invokevirtual 25, 3) := by decide +kernel
theorem dX3_deliver_32 : decode cX3_deliver 32 = .ok (.iload_n 2, 1) := by decide +kernel
theorem dX3_deliver_33 : decode cX3_deliver 33 = .ok (.if_icmp .le 6, 3) := by decide +kernel
theorem dX3_deliver_36 : decode cX3_deliver 36 = .ok (.goto 30, 3) := by decide +kernel
theorem dX3_deliver_39 : decode cX3_deliver 39 = .ok (.aload_n 1, 1) := by decide +kernel
theorem dX3_deliver_40 : decode cX3_deliver 40 = .ok (.aload_n 1, 1) := by decide +kernel
theorem dX3_deliver_41 : decode cX3_deliver 41 = .ok (.iload 5, 2) := by decide +kernel
theorem dX3_deliver_43 : decode cX3_deliver 43 = .ok (.iconst 5, 1) := by decide +kernel
theorem dX3_deliver_44 : decode cX3_deliver 44 = .ok (.invokevirtual 25, 3) := by decide +kernel
theorem dX3_deliver_47 : decode cX3_deliver 47 = .ok (.putfield 29, 3) := by decide +kernel
theorem dX3_deliver_50 : decode cX3_deliver 50 = .ok (.aload_n 0, 1) := by decide +kernel
theorem dX3_deliver_51 : decode cX3_deliver 51 = .ok (.aload_n 1, 1) := by decide +kernel
theorem dX3_deliver_52 : decode cX3_deliver 52 = .ok (.iload 5, 2) := by decide +kernel
theorem dX3_deliver_54 : decode cX3_deliver 54 = .ok (.invokevirtual 33, 3) := by decide +kernel
theorem dX3_deliver_57 : decode cX3_deliver 57 = .ok (.iinc 3 1, 3) := by decide +kernel
theorem dX3_deliver_60 : decode cX3_deliver 60 = .ok (.iinc 4 1, 3) := by decide +kernel
theorem dX3_deliver_63 : decode cX3_deliver 63 = .ok (.goto (-58), 3) := by decide +kernel
theorem dX3_deliver_66 : decode cX3_deliver 66 = .ok (.aload_n 1, 1) := by decide +kernel
theorem dX3_deliver_67 : decode cX3_deliver 67 = .ok (.iload_n 2, 1) := by decide +kernel
theorem dX3_deliver_68 : decode cX3_deliver 68 = .ok (.putfield 29, 3) := by decide +kernel
theorem dX3_deliver_71 : decode cX3_deliver 71 = .ok (.iload_n 3, 1) := by decide +kernel
theorem dX3_deliver_72 : decode cX3_deliver 72 = .ok (.ireturn, 1) := by decide +kernel
theorem dX3_bring_0 : decode cX3_bring 0 = .ok (.aload_n 1, 1) := by decide +kernel
theorem dX3_bring_1 : decode cX3_bring 1 = .ok (.iload_n 2, 1) := by decide +kernel
theorem dX3_bring_2 : decode cX3_bring 2 = .ok (.invokevirtual 37, 3) := by decide +kernel
theorem dX3_bring_5 : decode cX3_bring 5 = .ok (.istore_n 3, 1) := by decide +kernel
theorem dX3_bring_6 : decode cX3_bring 6 = .ok (.iconst 0, 1) := by decide +kernel
theorem dX3_bring_7 : decode cX3_bring 7 = .ok (.istore 4, 2) := by decide +kernel
theorem dX3_bring_9 : decode cX3_bring 9 = .ok (.aload_n 0, 1) := by decide +kernel
theorem dX3_bring_10 : decode cX3_bring 10 = .ok (.aload_n 1, 1) := by decide +kernel
theorem dX3_bring_11 : decode cX3_bring 11 = .ok (.iload_n 3, 1) := by decide +kernel
theorem dX3_bring_12 : decode cX3_bring 12 = .ok (.iload_n 2, 1) := by decide +kernel
theorem dX3_bring_13 : decode cX3_bring 13 = .ok (.invokevirtual 41, 3) := by decide +kernel
theorem dX3_bring_16 : decode cX3_bring 16 = .ok (.ifCond .eq 17, 3) := by decide +kernel
theorem dX3_bring_19 : decode cX3_bring 19 = .ok (.aload_n 1, 1) := by decide +kernel
theorem dX3_bring_20 : decode cX3_bring 20 = .ok (.aload_n 0, 1) := by decide +kernel
theorem dX3_bring_21 : decode cX3_bring 21 = .ok (.aload_n 1, 1) := by decide +kernel
theorem dX3_bring_22 : decode cX3_bring 22 = .ok (.iload_n 2, 1) := by decide +kernel
theorem dX3_bring_23 : decode cX3_bring 23 = .ok (.invokevirtual 45, 3) := by decide +kernel
theorem dX3_bring_26 : decode cX3_bring 26 = .ok (.iconst 3, 1) := by decide +kernel
theorem dX3_bring_27 : decode cX3_bring 27 = .ok (.invokevirtual 49, 3) := by decide +kernel
theorem dX3_bring_30 : decode cX3_bring 30 = .ok (.goto 44, 3) := by decide +kernel
theorem dX3_bring_33 : decode cX3_bring 33 = .ok (.aload_n 0, 1) := by decide +kernel
theorem dX3_bring_34 : decode cX3_bring 34 = .ok (.aload_n 1, 1) := by decide +kernel
theorem dX3_bring_35 : decode cX3_bring 35 = .ok (.iload_n 3, 1) := by decide +kernel
theorem dX3_bring_36 : decode cX3_bring 36 = .ok (.iload_n 2, 1) := by decide +kernel
theorem dX3_bring_37 : decode cX3_bring 37 = .ok (.invokevirtual 53, 3) := by decide +kernel
theorem dX3_bring_40 : decode cX3_bring 40 = .ok (.ifCond .eq 15, 3) := by decide +kernel
theorem dX3_bring_43 : decode cX3_bring 43 = .ok (.aload_n 1, 1) := by decide +kernel
theorem dX3_bring_44 : decode cX3_bring 44 = .ok (.iload_n 3, 1) := by decide +kernel
theorem dX3_bring_45 : decode cX3_bring 45 = .ok (.invokevirtual 56, 3) := by decide +kernel
theorem dX3_bring_48 : decode cX3_bring 48 = .ok (.bipush 6, 2) := by decide +kernel
theorem dX3_bring_50 : decode cX3_bring 50 = .ok (.istore 4, 2) := by decide +kernel
theorem dX3_bring_52 : decode cX3_bring 52 = .ok (.goto 22, 3) := by decide +kernel
theorem dX3_bring_55 : decode cX3_bring 55 = .ok (.aload_n 0, 1) := by decide +kernel
theorem dX3_bring_56 : decode cX3_bring 56 = .ok (.aload_n 1, 1) := by decide +kernel
theorem dX3_bring_57 : decode cX3_bring 57 = .ok (.iload_n 2, 1) := by decide +kernel
theorem dX3_bring_58 : decode cX3_bring 58 = .ok (.invokevirtual 60, 3) := by decide +kernel
theorem dX3_bring_61 : decode cX3_bring 61 = .ok (.istore 4, 2) := by decide +kernel
theorem dX3_bring_63 : decode cX3_bring 63 = .ok (.iload 4, 2) := by decide +kernel
theorem dX3_bring_65 : decode cX3_bring 65 = .ok (.ifCond .ne 9, 3) := by decide +kernel
theorem dX3_bring_68 : decode cX3_bring 68 = .ok (.aload_n 0, 1) := by decide +kernel
theorem dX3_bring_69 : decode cX3_bring 69 = .ok (.aload_n 1, 1) := by decide +kernel
theorem dX3_bring_70 : decode cX3_bring 70 = .ok (.iload_n 2, 1) := by decide +kernel
theorem dX3_bring_71 : decode cX3_bring 71 = .ok (.invokevirtual 63, 3) := by decide +kernel
theorem dX3_bring_74 : decode cX3_bring 74 = .ok (.aload_n 1, 1) := by decide +kernel
theorem dX3_bring_75 : decode cX3_bring 75 = .ok (.iload_n 2, 1) := by decide +kernel
theorem dX3_bring_76 : decode cX3_bring 76 = .ok (.bipush 7, 2) := by decide +kernel
theorem dX3_bring_78 : decode cX3_bring 78 = .ok (.iload 4, 2) := by decide +kernel
theorem dX3_bring_80 : decode cX3_bring 80 = .ok (.invokevirtual 66, 3) := by decide +kernel
theorem dX3_bring_83 : decode cX3_bring 83 = .ok (.aload_n 1, 1) := by decide +kernel
theorem dX3_bring_84 : decode cX3_bring 84 = .ok (.iload_n 2, 1) := by decide +kernel
theorem dX3_bring_85 : decode cX3_bring 85 = .ok (.bipush 6, 2) := by decide +kernel
theorem dX3_bring_87 : decode cX3_bring 87 = .ok (.iload 4, 2) := by decide +kernel
theorem dX3_bring_89 : decode cX3_bring 89 = .ok (.ifCond .ne 7, 3) := by decide +kernel
theorem dX3_bring_92 : decode cX3_bring 92 = .ok (.iconst 1, 1) := by decide +kernel
theorem dX3_bring_93 : decode cX3_bring 93 = .ok (.goto 4, 3) := by decide +kernel
theorem dX3_bring_96 : decode cX3_bring 96 = .ok (.iconst 2, 1) := by decide +kernel
theorem dX3_bring_97 : decode cX3_bring 97 = .ok (.invokevirtual 66, 3) := by decide +kernel
theorem dX3_bring_100 : decode cX3_bring 100 = .ok (.return_, 1) := by decide +kernel
theorem dX3_growsHedge_0 : decode cX3_growsHedge 0 = .ok (.aload_n 1, 1) := by decide +kernel
theorem dX3_growsHedge_1 : decode cX3_growsHedge 1 = .ok (.iload_n 2, 1) := by decide +kernel
theorem dX3_growsHedge_2 : decode cX3_growsHedge 2 = .ok (.iconst 0, 1) := by decide +kernel
theorem dX3_growsHedge_3 : decode cX3_growsHedge 3 = .ok (.invokevirtual 70, 3) := by decide +kernel
theorem dX3_growsHedge_6 : decode cX3_growsHedge 6 = .ok (.ifCond .eq 12, 3) := by decide +kernel
theorem dX3_growsHedge_9 : decode cX3_growsHedge 9 = .ok (.aload_n 1, 1) := by decide +kernel
theorem dX3_growsHedge_10 : decode cX3_growsHedge 10 = .ok (.iload_n 3, 1) := by decide +kernel
theorem dX3_growsHedge_11 : decode cX3_growsHedge 11 = .ok (.iconst 1, 1) := by decide +kernel
theorem dX3_growsHedge_12 : decode cX3_growsHedge 12 = .ok (.invokevirtual 25, 3) := by decide +kernel
theorem dX3_growsHedge_15 : decode cX3_growsHedge 15 = .ok (.ifCond .eq 5, 3) := by decide +kernel
theorem dX3_growsHedge_18 : decode cX3_growsHedge 18 = .ok (.iconst 0, 1) := by decide +kernel
theorem dX3_growsHedge_19 : decode cX3_growsHedge 19 = .ok (.ireturn, 1) := by decide +kernel
theorem dX3_growsHedge_20 : decode cX3_growsHedge 20 = .ok (.aload_n 0, 1) := by decide +kernel
theorem dX3_growsHedge_21 : decode cX3_growsHedge 21 = .ok (.aload_n 1, 1) := by decide +kernel
theorem dX3_growsHedge_22 : decode cX3_growsHedge 22 = .ok (.iload_n 2, 1) := by decide +kernel
theorem dX3_growsHedge_23 : decode cX3_growsHedge 23 = .ok (.invokevirtual 45, 3) := by decide +kernel
theorem dX3_growsHedge_26 : decode cX3_growsHedge 26 = .ok (.istore 4, 2) := by decide +kernel
theorem dX3_growsHedge_28 : decode cX3_growsHedge 28 = .ok (.iload 4, 2) := by decide +kernel
theorem dX3_growsHedge_30 : decode cX3_growsHedge 30 = .ok (.aload_n 0, 1) := by decide +kernel
theorem dX3_growsHedge_31 : decode cX3_growsHedge 31 = .ok (.aload_n 1, 1) := by decide +kernel
theorem dX3_growsHedge_32 : decode cX3_growsHedge 32 = .ok (.iload_n 3, 1) := by decide +kernel
theorem dX3_growsHedge_33 : decode cX3_growsHedge 33 = .ok (.invokevirtual 45, 3) := by decide +kernel
theorem dX3_growsHedge_36 : decode cX3_growsHedge 36 = .ok (.if_icmp .ne 25, 3) := by decide +kernel
theorem dX3_growsHedge_39 : decode cX3_growsHedge 39 = .ok (.aload_n 1, 1) := by decide +kernel
theorem dX3_growsHedge_40 : decode cX3_growsHedge 40 = .ok (.iload 4, 2) := by decide +kernel
theorem dX3_growsHedge_42 : decode cX3_growsHedge 42 = .ok (.invokevirtual 74, 3) := by decide +kernel
theorem dX3_growsHedge_45 : decode cX3_growsHedge 45 = .ok (.aload_n 1, 1) := by decide +kernel
theorem dX3_growsHedge_46 : decode cX3_growsHedge 46 = .ok (.iload_n 2, 1) := by decide +kernel
theorem dX3_growsHedge_47 : decode cX3_growsHedge 47 = .ok (.iconst 0, 1) := by decide +kernel
theorem dX3_growsHedge_48 : decode cX3_growsHedge 48 = .ok (.invokevirtual 25, 3) := by decide +kernel
theorem dX3_growsHedge_51 : decode cX3_growsHedge 51 = .ok (.invokestatic 77, 3) := by decide +kernel
theorem dX3_growsHedge_54 : decode cX3_growsHedge 54 = .ok (.if_icmp .ne 7, 3) := by decide +kernel
theorem dX3_growsHedge_57 : decode cX3_growsHedge 57 = .ok (.iconst 1, 1) := by decide +kernel
theorem dX3_growsHedge_58 : decode cX3_growsHedge 58 = .ok (.goto 4, 3) := by decide +kernel
theorem dX3_growsHedge_61 : decode cX3_growsHedge 61 = .ok (.iconst 0, 1) := by decide +kernel
theorem dX3_growsHedge_62 : decode cX3_growsHedge 62 = .ok (.ireturn, 1) := by decide +kernel
theorem dX3_makesVoid_0 : decode cX3_makesVoid 0 = .ok (.aload_n 1, 1) := by decide +kernel
theorem dX3_makesVoid_1 : decode cX3_makesVoid 1 = .ok (.iload_n 2, 1) := by decide +kernel
theorem dX3_makesVoid_2 : decode cX3_makesVoid 2 = .ok (.iconst 2, 1) := by decide +kernel
theorem dX3_makesVoid_3 : decode cX3_makesVoid 3 = .ok (.invokevirtual 70, 3) := by decide +kernel
theorem dX3_makesVoid_6 : decode cX3_makesVoid 6 = .ok (.ifCond .eq 31, 3) := by decide +kernel
theorem dX3_makesVoid_9 : decode cX3_makesVoid 9 = .ok (.aload_n 1, 1) := by decide +kernel
theorem dX3_makesVoid_10 : decode cX3_makesVoid 10 = .ok (.iload_n 3, 1) := by decide +kernel
theorem dX3_makesVoid_11 : decode cX3_makesVoid 11 = .ok (.iconst 1, 1) := by decide +kernel
theorem dX3_makesVoid_12 : decode cX3_makesVoid 12 = .ok (.invokevirtual 25, 3) := by decide +kernel
theorem dX3_makesVoid_15 : decode cX3_makesVoid 15 = .ok (.iconst 2, 1) := by decide +kernel
theorem dX3_makesVoid_16 : decode cX3_makesVoid 16 = .ok (.if_icmp .ne 21, 3) := by decide +kernel
theorem dX3_makesVoid_19 : decode cX3_makesVoid 19 = .ok (.aload_n 1, 1) := by decide +kernel
theorem dX3_makesVoid_20 : decode cX3_makesVoid 20 = .ok (.aload_n 1, 1) := by decide +kernel
theorem dX3_makesVoid_21 : decode cX3_makesVoid 21 = .ok (.iload_n 3, 1) := by decide +kernel
theorem dX3_makesVoid_22 : decode cX3_makesVoid 22 = .ok (.iconst 2, 1) := by decide +kernel
theorem dX3_makesVoid_23 : decode cX3_makesVoid 23 = .ok (.invokevirtual 25, 3) := by decide +kernel
theorem dX3_makesVoid_26 : decode cX3_makesVoid 26 = .ok (.invokevirtual 80, 3) := by decide +kernel
theorem dX3_makesVoid_29 : decode cX3_makesVoid 29 = .ok (.iload_n 2, 1) := by decide +kernel
theorem dX3_makesVoid_30 : decode cX3_makesVoid 30 = .ok (.if_icmp .ne 7, 3) := by decide +kernel
theorem dX3_makesVoid_33 : decode cX3_makesVoid 33 = .ok (.iconst 1, 1) := by decide +kernel
theorem dX3_makesVoid_34 : decode cX3_makesVoid 34 = .ok (.goto 4, 3) := by decide +kernel
theorem dX3_makesVoid_37 : decode cX3_makesVoid 37 = .ok (.iconst 0, 1) := by decide +kernel
theorem dX3_makesVoid_38 : decode cX3_makesVoid 38 = .ok (.ireturn, 1) := by decide +kernel
theorem dX3_reasonAgainst_0 : decode cX3_reasonAgainst 0 = .ok (.aload_n 1, 1) := by decide +kernel
theorem dX3_reasonAgainst_1 : decode cX3_reasonAgainst 1 = .ok (.iload_n 2, 1) := by decide +kernel
theorem dX3_reasonAgainst_2 : decode cX3_reasonAgainst 2 = .ok (.iconst 1, 1) := by decide +kernel
theorem dX3_reasonAgainst_3 : decode cX3_reasonAgainst 3 = .ok (.invokevirtual 25, 3) := by decide +kernel
theorem dX3_reasonAgainst_6 : decode cX3_reasonAgainst 6 = .ok (.tableswitch 71 0 2 #[26, 38, 50], 26) := by decide +kernel
theorem dX3_reasonAgainst_32 : decode cX3_reasonAgainst 32 = .ok (.aload_n 0, 1) := by decide +kernel
theorem dX3_reasonAgainst_33 : decode cX3_reasonAgainst 33 = .ok (.aload_n 1, 1) := by decide +kernel
theorem dX3_reasonAgainst_34 : decode cX3_reasonAgainst 34 = .ok (.aload_n 0, 1) := by decide +kernel
theorem dX3_reasonAgainst_35 : decode cX3_reasonAgainst 35 = .ok (.aload_n 1, 1) := by decide +kernel
theorem dX3_reasonAgainst_36 : decode cX3_reasonAgainst 36 = .ok (.iload_n 2, 1) := by decide +kernel
theorem dX3_reasonAgainst_37 : decode cX3_reasonAgainst 37 = .ok (.invokevirtual 45, 3) := by decide +kernel
theorem dX3_reasonAgainst_40 : decode cX3_reasonAgainst 40 = .ok (.invokevirtual 83, 3) := by decide +kernel
theorem dX3_reasonAgainst_43 : decode cX3_reasonAgainst 43 = .ok (.ireturn, 1) := by decide +kernel
theorem dX3_reasonAgainst_44 : decode cX3_reasonAgainst 44 = .ok (.aload_n 0, 1) := by decide +kernel
theorem dX3_reasonAgainst_45 : decode cX3_reasonAgainst 45 = .ok (.aload_n 1, 1) := by decide +kernel
theorem dX3_reasonAgainst_46 : decode cX3_reasonAgainst 46 = .ok (.aload_n 0, 1) := by decide +kernel
theorem dX3_reasonAgainst_47 : decode cX3_reasonAgainst 47 = .ok (.aload_n 1, 1) := by decide +kernel
theorem dX3_reasonAgainst_48 : decode cX3_reasonAgainst 48 = .ok (.iload_n 2, 1) := by decide +kernel
theorem dX3_reasonAgainst_49 : decode cX3_reasonAgainst 49 = .ok (.invokevirtual 45, 3) := by decide +kernel
theorem dX3_reasonAgainst_52 : decode cX3_reasonAgainst 52 = .ok (.invokevirtual 86, 3) := by decide +kernel
theorem dX3_reasonAgainst_55 : decode cX3_reasonAgainst 55 = .ok (.ireturn, 1) := by decide +kernel
theorem dX3_reasonAgainst_56 : decode cX3_reasonAgainst 56 = .ok (.aload_n 0, 1) := by decide +kernel
theorem dX3_reasonAgainst_57 : decode cX3_reasonAgainst 57 = .ok (.getfield 15, 3) := by decide +kernel
theorem dX3_reasonAgainst_60 : decode cX3_reasonAgainst 60 = .ok (.aload_n 1, 1) := by decide +kernel
theorem dX3_reasonAgainst_61 : decode cX3_reasonAgainst 61 = .ok (.invokevirtual 89, 3) := by decide +kernel
theorem dX3_reasonAgainst_64 : decode cX3_reasonAgainst 64 = .ok (.pop, 1) := by decide +kernel
theorem dX3_reasonAgainst_65 : decode cX3_reasonAgainst 65 = .ok (.aload_n 0, 1) := by decide +kernel
theorem dX3_reasonAgainst_66 : decode cX3_reasonAgainst 66 = .ok (.aload_n 1, 1) := by decide +kernel
theorem dX3_reasonAgainst_67 : decode cX3_reasonAgainst 67 = .ok (.aload_n 1, 1) := by decide +kernel
theorem dX3_reasonAgainst_68 : decode cX3_reasonAgainst 68 = .ok (.iload_n 2, 1) := by decide +kernel
theorem dX3_reasonAgainst_69 : decode cX3_reasonAgainst 69 = .ok (.iconst 2, 1) := by decide +kernel
theorem dX3_reasonAgainst_70 : decode cX3_reasonAgainst 70 = .ok (.invokevirtual 25, 3) := by decide +kernel
theorem dX3_reasonAgainst_73 : decode cX3_reasonAgainst 73 = .ok (.invokevirtual 95, 3) := by decide +kernel
theorem dX3_reasonAgainst_76 : decode cX3_reasonAgainst 76 = .ok (.ireturn, 1) := by decide +kernel
theorem dX3_reasonAgainst_77 : decode cX3_reasonAgainst 77 = .ok (.iconst 0, 1) := by decide +kernel
theorem dX3_reasonAgainst_78 : decode cX3_reasonAgainst 78 = .ok (.ireturn, 1) := by decide +kernel
theorem dX3_reasonAgainstFence_0 : decode cX3_reasonAgainstFence 0 = .ok (.aload_n 1, 1) := by decide +kernel
theorem dX3_reasonAgainstFence_1 : decode cX3_reasonAgainstFence 1 = .ok (.iload_n 2, 1) := by decide +kernel
theorem dX3_reasonAgainstFence_2 : decode cX3_reasonAgainstFence 2 = .ok (.invokevirtual 74, 3) := by decide +kernel
theorem dX3_reasonAgainstFence_5 : decode cX3_reasonAgainstFence 5 = .ok (.ifCond .ne 7, 3) := by decide +kernel
theorem dX3_reasonAgainstFence_8 : decode cX3_reasonAgainstFence 8 = .ok (.iconst 0, 1) := by decide +kernel
theorem dX3_reasonAgainstFence_9 : decode cX3_reasonAgainstFence 9 = .ok (.goto 4, 3) := by decide +kernel
theorem dX3_reasonAgainstFence_12 : decode cX3_reasonAgainstFence 12 = .ok (.iconst 1, 1) := by decide +kernel
theorem dX3_reasonAgainstFence_13 : decode cX3_reasonAgainstFence 13 = .ok (.ireturn, 1) := by decide +kernel
theorem dX3_reasonAgainstGap_0 : decode cX3_reasonAgainstGap 0 = .ok (.aload_n 1, 1) := by decide +kernel
theorem dX3_reasonAgainstGap_1 : decode cX3_reasonAgainstGap 1 = .ok (.iload_n 2, 1) := by decide +kernel
theorem dX3_reasonAgainstGap_2 : decode cX3_reasonAgainstGap 2 = .ok (.invokevirtual 74, 3) := by decide +kernel
theorem dX3_reasonAgainstGap_5 : decode cX3_reasonAgainstGap 5 = .ok (.istore_n 3, 1) := by decide +kernel
theorem dX3_reasonAgainstGap_6 : decode cX3_reasonAgainstGap 6 = .ok (.iload_n 3, 1) := by decide +kernel
theorem dX3_reasonAgainstGap_7 : decode cX3_reasonAgainstGap 7 = .ok (.ifCond .eq 8, 3) := by decide +kernel
theorem dX3_reasonAgainstGap_10 : decode cX3_reasonAgainstGap 10 = .ok (.iload_n 3, 1) := by decide +kernel
theorem dX3_reasonAgainstGap_11 : decode cX3_reasonAgainstGap 11 = .ok (.iconst 3, 1) := by decide +kernel
theorem dX3_reasonAgainstGap_12 : decode cX3_reasonAgainstGap 12 = .ok (.if_icmp .ne 5, 3) := by decide +kernel
theorem dX3_reasonAgainstGap_15 : decode cX3_reasonAgainstGap 15 = .ok (.iconst 2, 1) := by decide +kernel
theorem dX3_reasonAgainstGap_16 : decode cX3_reasonAgainstGap 16 = .ok (.ireturn, 1) := by decide +kernel
theorem dX3_reasonAgainstGap_17 : decode cX3_reasonAgainstGap 17 = .ok (.aload_n 1, 1) := by decide +kernel
theorem dX3_reasonAgainstGap_18 : decode cX3_reasonAgainstGap 18 = .ok (.invokevirtual 98, 3) := by decide +kernel
theorem dX3_reasonAgainstGap_21 : decode cX3_reasonAgainstGap 21 = .ok (.ifCond .eq 7, 3) := by decide +kernel
theorem dX3_reasonAgainstGap_24 : decode cX3_reasonAgainstGap 24 = .ok (.iconst 3, 1) := by decide +kernel
theorem dX3_reasonAgainstGap_25 : decode cX3_reasonAgainstGap 25 = .ok (.goto 4, 3) := by decide +kernel
theorem dX3_reasonAgainstGap_28 : decode cX3_reasonAgainstGap 28 = .ok (.iconst 0, 1) := by decide +kernel
theorem dX3_reasonAgainstGap_29 : decode cX3_reasonAgainstGap 29 = .ok (.ireturn, 1) := by decide +kernel
theorem dX3_reasonAgainstClaim_0 : decode cX3_reasonAgainstClaim 0 = .ok (.aload_n 1, 1) := by decide +kernel
theorem dX3_reasonAgainstClaim_1 : decode cX3_reasonAgainstClaim 1 = .ok (.iload_n 2, 1) := by decide +kernel
theorem dX3_reasonAgainstClaim_2 : decode cX3_reasonAgainstClaim 2 = .ok (.invokevirtual 80, 3) := by decide +kernel
theorem dX3_reasonAgainstClaim_5 : decode cX3_reasonAgainstClaim 5 = .ok (.bipush (-5), 2) := by decide +kernel
theorem dX3_reasonAgainstClaim_7 : decode cX3_reasonAgainstClaim 7 = .ok (.if_icmp .eq 5, 3) := by decide +kernel
theorem dX3_reasonAgainstClaim_10 : decode cX3_reasonAgainstClaim 10 = .ok (.iconst 4, 1) := by decide +kernel
theorem dX3_reasonAgainstClaim_11 : decode cX3_reasonAgainstClaim 11 = .ok (.ireturn, 1) := by decide +kernel
theorem dX3_reasonAgainstClaim_12 : decode cX3_reasonAgainstClaim 12 = .ok (.aload_n 0, 1) := by decide +kernel
theorem dX3_reasonAgainstClaim_13 : decode cX3_reasonAgainstClaim 13 = .ok (.getfield 15, 3) := by decide +kernel
theorem dX3_reasonAgainstClaim_16 : decode cX3_reasonAgainstClaim 16 = .ok (.iload_n 2, 1) := by decide +kernel
theorem dX3_reasonAgainstClaim_17 : decode cX3_reasonAgainstClaim 17 = .ok (.invokevirtual 102, 3) := by decide +kernel
theorem dX3_reasonAgainstClaim_20 : decode cX3_reasonAgainstClaim 20 = .ok (.aload_n 1, 1) := by decide +kernel
theorem dX3_reasonAgainstClaim_21 : decode cX3_reasonAgainstClaim 21 = .ok (.getfield 105, 3) := by decide +kernel
theorem dX3_reasonAgainstClaim_24 : decode cX3_reasonAgainstClaim 24 = .ok (.iconst 1, 1) := by decide +kernel
theorem dX3_reasonAgainstClaim_25 : decode cX3_reasonAgainstClaim 25 = .ok (.iaload, 1) := by decide +kernel
theorem dX3_reasonAgainstClaim_26 : decode cX3_reasonAgainstClaim 26 = .ok (.if_icmp .le 7, 3) := by decide +kernel
theorem dX3_reasonAgainstClaim_29 : decode cX3_reasonAgainstClaim 29 = .ok (.iconst 5, 1) := by decide +kernel
theorem dX3_reasonAgainstClaim_30 : decode cX3_reasonAgainstClaim 30 = .ok (.goto 4, 3) := by decide +kernel
theorem dX3_reasonAgainstClaim_33 : decode cX3_reasonAgainstClaim 33 = .ok (.iconst 0, 1) := by decide +kernel
theorem dX3_reasonAgainstClaim_34 : decode cX3_reasonAgainstClaim 34 = .ok (.ireturn, 1) := by decide +kernel
theorem dX3_carryOut_0 : decode cX3_carryOut 0 = .ok (.aload_n 1, 1) := by decide +kernel
theorem dX3_carryOut_1 : decode cX3_carryOut 1 = .ok (.iload_n 2, 1) := by decide +kernel
theorem dX3_carryOut_2 : decode cX3_carryOut 2 = .ok (.iconst 0, 1) := by decide +kernel
theorem dX3_carryOut_3 : decode cX3_carryOut 3 = .ok (.invokevirtual 25, 3) := by decide +kernel
theorem dX3_carryOut_6 : decode cX3_carryOut 6 = .ok (.istore_n 3, 1) := by decide +kernel
theorem dX3_carryOut_7 : decode cX3_carryOut 7 = .ok (.aload_n 1, 1) := by decide +kernel
theorem dX3_carryOut_8 : decode cX3_carryOut 8 = .ok (.iload_n 2, 1) := by decide +kernel
theorem dX3_carryOut_9 : decode cX3_carryOut 9 = .ok (.iconst 1, 1) := by decide +kernel
theorem dX3_carryOut_10 : decode cX3_carryOut 10 = .ok (.invokevirtual 25, 3) := by decide +kernel
theorem dX3_carryOut_13 : decode cX3_carryOut 13 = .ok (.tableswitch 67 0 2 #[27, 44, 58], 27) := by decide +kernel
theorem dX3_carryOut_40 : decode cX3_carryOut 40 = .ok (.aload_n 1, 1) := by decide +kernel
theorem dX3_carryOut_41 : decode cX3_carryOut 41 = .ok (.aload_n 0, 1) := by decide +kernel
theorem dX3_carryOut_42 : decode cX3_carryOut 42 = .ok (.aload_n 1, 1) := by decide +kernel
theorem dX3_carryOut_43 : decode cX3_carryOut 43 = .ok (.iload_n 2, 1) := by decide +kernel
theorem dX3_carryOut_44 : decode cX3_carryOut 44 = .ok (.invokevirtual 45, 3) := by decide +kernel
theorem dX3_carryOut_47 : decode cX3_carryOut 47 = .ok (.iload_n 3, 1) := by decide +kernel
theorem dX3_carryOut_48 : decode cX3_carryOut 48 = .ok (.invokestatic 77, 3) := by decide +kernel
theorem dX3_carryOut_51 : decode cX3_carryOut 51 = .ok (.invokevirtual 49, 3) := by decide +kernel
theorem dX3_carryOut_54 : decode cX3_carryOut 54 = .ok (.goto 50, 3) := by decide +kernel
theorem dX3_carryOut_57 : decode cX3_carryOut 57 = .ok (.aload_n 1, 1) := by decide +kernel
theorem dX3_carryOut_58 : decode cX3_carryOut 58 = .ok (.aload_n 0, 1) := by decide +kernel
theorem dX3_carryOut_59 : decode cX3_carryOut 59 = .ok (.aload_n 1, 1) := by decide +kernel
theorem dX3_carryOut_60 : decode cX3_carryOut 60 = .ok (.iload_n 2, 1) := by decide +kernel
theorem dX3_carryOut_61 : decode cX3_carryOut 61 = .ok (.invokevirtual 45, 3) := by decide +kernel
theorem dX3_carryOut_64 : decode cX3_carryOut 64 = .ok (.iconst 0, 1) := by decide +kernel
theorem dX3_carryOut_65 : decode cX3_carryOut 65 = .ok (.invokevirtual 49, 3) := by decide +kernel
theorem dX3_carryOut_68 : decode cX3_carryOut 68 = .ok (.goto 36, 3) := by decide +kernel
theorem dX3_carryOut_71 : decode cX3_carryOut 71 = .ok (.aload_n 0, 1) := by decide +kernel
theorem dX3_carryOut_72 : decode cX3_carryOut 72 = .ok (.aload_n 1, 1) := by decide +kernel
theorem dX3_carryOut_73 : decode cX3_carryOut 73 = .ok (.iload_n 2, 1) := by decide +kernel
theorem dX3_carryOut_74 : decode cX3_carryOut 74 = .ok (.invokevirtual 109, 3) := by decide +kernel
theorem dX3_carryOut_77 : decode cX3_carryOut 77 = .ok (.goto 27, 3) := by decide +kernel
theorem dX3_carryOut_80 : decode cX3_carryOut 80 = .ok (.iload_n 3, 1) := by decide +kernel
theorem dX3_carryOut_81 : decode cX3_carryOut 81 = .ok (.invokestatic 112, 3) := by decide +kernel
theorem dX3_carryOut_84 : decode cX3_carryOut 84 = .ok (.ifCond .eq 20, 3) := by decide +kernel
theorem dX3_carryOut_87 : decode cX3_carryOut 87 = .ok (.aload_n 1, 1) := by decide +kernel
theorem dX3_carryOut_88 : decode cX3_carryOut 88 = .ok (.getfield 116, 3) := by decide +kernel
theorem dX3_carryOut_91 : decode cX3_carryOut 91 = .ok (.iload_n 3, 1) := by decide +kernel
theorem dX3_carryOut_92 : decode cX3_carryOut 92 = .ok (.aload_n 1, 1) := by decide +kernel
theorem dX3_carryOut_93 : decode cX3_carryOut 93 = .ok (.getfield 29, 3) := by decide +kernel
theorem dX3_carryOut_96 : decode cX3_carryOut 96 = .ok (.aload_n 1, 1) := by decide +kernel
theorem dX3_carryOut_97 : decode cX3_carryOut 97 = .ok (.iload_n 2, 1) := by decide +kernel
theorem dX3_carryOut_98 : decode cX3_carryOut 98 = .ok (.iconst 3, 1) := by decide +kernel
theorem dX3_carryOut_99 : decode cX3_carryOut 99 = .ok (.invokevirtual 25, 3) := by decide +kernel
theorem dX3_carryOut_102 : decode cX3_carryOut 102 = .ok (.iadd, 1) := by decide +kernel
theorem dX3_carryOut_103 : decode cX3_carryOut 103 = .ok (.iastore, 1) := by decide +kernel
theorem dX3_carryOut_104 : decode cX3_carryOut 104 = .ok (.return_, 1) := by decide +kernel
theorem dX3_takeRegion_0 : decode cX3_takeRegion 0 = .ok (.aload_n 0, 1) := by decide +kernel
theorem dX3_takeRegion_1 : decode cX3_takeRegion 1 = .ok (.getfield 15, 3) := by decide +kernel
theorem dX3_takeRegion_4 : decode cX3_takeRegion 4 = .ok (.aload_n 1, 1) := by decide +kernel
theorem dX3_takeRegion_5 : decode cX3_takeRegion 5 = .ok (.iload_n 2, 1) := by decide +kernel
theorem dX3_takeRegion_6 : decode cX3_takeRegion 6 = .ok (.iconst 2, 1) := by decide +kernel
theorem dX3_takeRegion_7 : decode cX3_takeRegion 7 = .ok (.invokevirtual 25, 3) := by decide +kernel
theorem dX3_takeRegion_10 : decode cX3_takeRegion 10 = .ok (.invokevirtual 119, 3) := by decide +kernel
theorem dX3_takeRegion_13 : decode cX3_takeRegion 13 = .ok (.istore_n 3, 1) := by decide +kernel
theorem dX3_takeRegion_14 : decode cX3_takeRegion 14 = .ok (.iconst 0, 1) := by decide +kernel
theorem dX3_takeRegion_15 : decode cX3_takeRegion 15 = .ok (.istore 4, 2) := by decide +kernel
theorem dX3_takeRegion_17 : decode cX3_takeRegion 17 = .ok (.iload 4, 2) := by decide +kernel
theorem dX3_takeRegion_19 : decode cX3_takeRegion 19 = .ok (.bipush 48, 2) := by decide +kernel
theorem dX3_takeRegion_21 : decode cX3_takeRegion 21 = .ok (.if_icmp .ge 42, 3) := by decide +kernel
theorem dX3_takeRegion_24 : decode cX3_takeRegion 24 = .ok (.aload_n 0, 1) := by decide +kernel
theorem dX3_takeRegion_25 : decode cX3_takeRegion 25 = .ok (.getfield 15, 3) := by decide +kernel
theorem dX3_takeRegion_28 : decode cX3_takeRegion 28 = .ok (.iload 4, 2) := by decide +kernel
theorem dX3_takeRegion_30 : decode cX3_takeRegion 30 = .ok (.invokevirtual 119, 3) := by decide +kernel
theorem dX3_takeRegion_33 : decode cX3_takeRegion 33 = .ok (.iload_n 3, 1) := by decide +kernel
theorem dX3_takeRegion_34 : decode cX3_takeRegion 34 = .ok (.if_icmp .ne 23, 3) := by decide +kernel
theorem dX3_takeRegion_37 : decode cX3_takeRegion 37 = .ok (.aload_n 1, 1) := by decide +kernel
theorem dX3_takeRegion_38 : decode cX3_takeRegion 38 = .ok (.getfield 122, 3) := by decide +kernel
theorem dX3_takeRegion_41 : decode cX3_takeRegion 41 = .ok (.iload 4, 2) := by decide +kernel
theorem dX3_takeRegion_43 : decode cX3_takeRegion 43 = .ok (.iaload, 1) := by decide +kernel
theorem dX3_takeRegion_44 : decode cX3_takeRegion 44 = .ok (.bipush (-5), 2) := by decide +kernel
theorem dX3_takeRegion_46 : decode cX3_takeRegion 46 = .ok (.if_icmp .ne 11, 3) := by decide +kernel
theorem dX3_takeRegion_49 : decode cX3_takeRegion 49 = .ok (.aload_n 1, 1) := by decide +kernel
theorem dX3_takeRegion_50 : decode cX3_takeRegion 50 = .ok (.getfield 122, 3) := by decide +kernel
theorem dX3_takeRegion_53 : decode cX3_takeRegion 53 = .ok (.iload 4, 2) := by decide +kernel
theorem dX3_takeRegion_55 : decode cX3_takeRegion 55 = .ok (.iload_n 2, 1) := by decide +kernel
theorem dX3_takeRegion_56 : decode cX3_takeRegion 56 = .ok (.iastore, 1) := by decide +kernel
theorem dX3_takeRegion_57 : decode cX3_takeRegion 57 = .ok (.iinc 4 1, 3) := by decide +kernel
theorem dX3_takeRegion_60 : decode cX3_takeRegion 60 = .ok (.goto (-43), 3) := by decide +kernel
theorem dX3_takeRegion_63 : decode cX3_takeRegion 63 = .ok (.return_, 1) := by decide +kernel
theorem dX3_edgeOf_0 : decode cX3_edgeOf 0 = .ok (.aload_n 0, 1) := by decide +kernel
theorem dX3_edgeOf_1 : decode cX3_edgeOf 1 = .ok (.getfield 9, 3) := by decide +kernel
theorem dX3_edgeOf_4 : decode cX3_edgeOf 4 = .ok (.aload_n 1, 1) := by decide +kernel
theorem dX3_edgeOf_5 : decode cX3_edgeOf 5 = .ok (.iload_n 2, 1) := by decide +kernel
theorem dX3_edgeOf_6 : decode cX3_edgeOf 6 = .ok (.iconst 2, 1) := by decide +kernel
theorem dX3_edgeOf_7 : decode cX3_edgeOf 7 = .ok (.invokevirtual 25, 3) := by decide +kernel
theorem dX3_edgeOf_10 : decode cX3_edgeOf 10 = .ok (.aload_n 1, 1) := by decide +kernel
theorem dX3_edgeOf_11 : decode cX3_edgeOf 11 = .ok (.iload_n 2, 1) := by decide +kernel
theorem dX3_edgeOf_12 : decode cX3_edgeOf 12 = .ok (.iconst 3, 1) := by decide +kernel
theorem dX3_edgeOf_13 : decode cX3_edgeOf 13 = .ok (.invokevirtual 25, 3) := by decide +kernel
theorem dX3_edgeOf_16 : decode cX3_edgeOf 16 = .ok (.invokevirtual 125, 3) := by decide +kernel
theorem dX3_edgeOf_19 : decode cX3_edgeOf 19 = .ok (.ireturn, 1) := by decide +kernel
theorem dX4_init_0 : decode cX4_init 0 = .ok (.aload_n 0, 1) := by decide +kernel
theorem dX4_init_1 : decode cX4_init 1 = .ok (.invokespecial 3, 3) := by decide +kernel
theorem dX4_init_4 : decode cX4_init 4 = .ok (.aload_n 0, 1) := by decide +kernel
theorem dX4_init_5 : decode cX4_init 5 = .ok (.bipush 48, 2) := by decide +kernel
theorem dX4_init_7 : decode cX4_init 7 = .ok (.newarray .int, 2) := by decide +kernel
theorem dX4_init_9 : decode cX4_init 9 = .ok (.putfield 9, 3) := by decide +kernel
theorem dX4_init_12 : decode cX4_init 12 = .ok (.aload_n 0, 1) := by decide +kernel
theorem dX4_init_13 : decode cX4_init 13 = .ok (.bipush 48, 2) := by decide +kernel
theorem dX4_init_15 : decode cX4_init 15 = .ok (.newarray .int, 2) := by decide +kernel
theorem dX4_init_17 : decode cX4_init 17 = .ok (.putfield 15, 3) := by decide +kernel
theorem dX4_init_20 : decode cX4_init 20 = .ok (.aload_n 0, 1) := by decide +kernel
theorem dX4_init_21 : decode cX4_init 21 = .ok (.bipush 48, 2) := by decide +kernel
theorem dX4_init_23 : decode cX4_init 23 = .ok (.newarray .int, 2) := by decide +kernel
theorem dX4_init_25 : decode cX4_init 25 = .ok (.putfield 18, 3) := by decide +kernel
theorem dX4_init_28 : decode cX4_init 28 = .ok (.aload_n 0, 1) := by decide +kernel
theorem dX4_init_29 : decode cX4_init 29 = .ok (.bipush 48, 2) := by decide +kernel
theorem dX4_init_31 : decode cX4_init 31 = .ok (.newarray .int, 2) := by decide +kernel
theorem dX4_init_33 : decode cX4_init 33 = .ok (.putfield 21, 3) := by decide +kernel
theorem dX4_init_36 : decode cX4_init 36 = .ok (.aload_n 0, 1) := by decide +kernel
theorem dX4_init_37 : decode cX4_init 37 = .ok (.bipush 48, 2) := by decide +kernel
theorem dX4_init_39 : decode cX4_init 39 = .ok (.newarray .int, 2) := by decide +kernel
theorem dX4_init_41 : decode cX4_init 41 = .ok (.putfield 24, 3) := by decide +kernel
theorem dX4_init_44 : decode cX4_init 44 = .ok (.aload_n 0, 1) := by decide +kernel
theorem dX4_init_45 : decode cX4_init 45 = .ok (.aload_n 1, 1) := by decide +kernel
theorem dX4_init_46 : decode cX4_init 46 = .ok (.putfield 27, 3) := by decide +kernel
theorem dX4_init_49 : decode cX4_init 49 = .ok (.return_, 1) := by decide +kernel
theorem dX4_survey_0 : decode cX4_survey 0 = .ok (.aload_n 0, 1) := by decide +kernel
theorem dX4_survey_1 : decode cX4_survey 1 = .ok (.getfield 9, 3) := by decide +kernel
theorem dX4_survey_4 : decode cX4_survey 4 = .ok (.bipush (-5), 2) := by decide +kernel
theorem dX4_survey_6 : decode cX4_survey 6 = .ok (.invokestatic 31, 3) := by decide +kernel
theorem dX4_survey_9 : decode cX4_survey 9 = .ok (.iconst 0, 1) := by decide +kernel
theorem dX4_survey_10 : decode cX4_survey 10 = .ok (.istore_n 2, 1) := by decide +kernel
theorem dX4_survey_11 : decode cX4_survey 11 = .ok (.iconst 0, 1) := by decide +kernel
theorem dX4_survey_12 : decode cX4_survey 12 = .ok (.istore_n 3, 1) := by decide +kernel
theorem dX4_survey_13 : decode cX4_survey 13 = .ok (.iload_n 3, 1) := by decide +kernel
theorem dX4_survey_14 : decode cX4_survey 14 = .ok (.bipush 48, 2) := by decide +kernel
theorem dX4_survey_16 : decode cX4_survey 16 = .ok (.if_icmp .ge 29, 3) := by decide +kernel
theorem dX4_survey_19 : decode cX4_survey 19 = .ok (.aload_n 0, 1) := by decide +kernel
theorem dX4_survey_20 : decode cX4_survey 20 = .ok (.getfield 9, 3) := by decide +kernel
theorem dX4_survey_23 : decode cX4_survey 23 = .ok (.iload_n 3, 1) := by decide +kernel
theorem dX4_survey_24 : decode cX4_survey 24 = .ok (.iaload, 1) := by decide +kernel
theorem dX4_survey_25 : decode cX4_survey 25 = .ok (.bipush (-5), 2) := by decide +kernel
theorem dX4_survey_27 : decode cX4_survey 27 = .ok (.if_icmp .ne 12, 3) := by decide +kernel
theorem dX4_survey_30 : decode cX4_survey 30 = .ok (.aload_n 0, 1) := by decide +kernel
theorem dX4_survey_31 : decode cX4_survey 31 = .ok (.aload_n 1, 1) := by decide +kernel
theorem dX4_survey_32 : decode cX4_survey 32 = .ok (.iload_n 3, 1) := by decide +kernel
theorem dX4_survey_33 : decode cX4_survey 33 = .ok (.invokevirtual 37, 3) := by decide +kernel
theorem dX4_survey_36 : decode cX4_survey 36 = .ok (.iinc 2 1, 3) := by decide +kernel
theorem dX4_survey_39 : decode cX4_survey 39 = .ok (.iinc 3 1, 3) := by decide +kernel
theorem dX4_survey_42 : decode cX4_survey 42 = .ok (.goto (-29), 3) := by decide +kernel
theorem dX4_survey_45 : decode cX4_survey 45 = .ok (.iload_n 2, 1) := by decide +kernel
theorem dX4_survey_46 : decode cX4_survey 46 = .ok (.ireturn, 1) := by decide +kernel
theorem dX4_spreadFrom_0 : decode cX4_spreadFrom 0 = .ok (.iload_n 2, 1) := by decide +kernel
theorem dX4_spreadFrom_1 : decode cX4_spreadFrom 1 = .ok (.invokestatic 41, 3) := by decide +kernel
theorem dX4_spreadFrom_4 : decode cX4_spreadFrom 4 = .ok (.ifCond .ne 4, 3) := by decide +kernel
theorem dX4_spreadFrom_7 : decode cX4_spreadFrom 7 = .ok (.return_, 1) := by decide +kernel
theorem dX4_spreadFrom_8 : decode cX4_spreadFrom 8 = .ok (.aload_n 0, 1) := by decide +kernel
theorem dX4_spreadFrom_9 : decode cX4_spreadFrom 9 = .ok (.getfield 9, 3) := by decide +kernel
theorem dX4_spreadFrom_12 : decode cX4_spreadFrom 12 = .ok (.iload_n 2, 1) := by decide +kernel
theorem dX4_spreadFrom_13 : decode cX4_spreadFrom 13 = .ok (.iload_n 2, 1) := by decide +kernel
theorem dX4_spreadFrom_14 : decode cX4_spreadFrom 14 = .ok (.iastore, 1) := by decide +kernel
theorem dX4_spreadFrom_15 : decode cX4_spreadFrom 15 = .ok (.aload_n 0, 1) := by decide +kernel
theorem dX4_spreadFrom_16 : decode cX4_spreadFrom 16 = .ok (.getfield 21, 3) := by decide +kernel
theorem dX4_spreadFrom_19 : decode cX4_spreadFrom 19 = .ok (.iconst 0, 1) := by decide +kernel
theorem dX4_spreadFrom_20 : decode cX4_spreadFrom 20 = .ok (.iload_n 2, 1) := by decide +kernel
theorem dX4_spreadFrom_21 : decode cX4_spreadFrom 21 = .ok (.iastore, 1) := by decide +kernel
theorem dX4_spreadFrom_22 : decode cX4_spreadFrom 22 = .ok (.iconst 1, 1) := by decide +kernel
theorem dX4_spreadFrom_23 : decode cX4_spreadFrom 23 = .ok (.istore_n 3, 1) := by decide +kernel
theorem dX4_spreadFrom_24 : decode cX4_spreadFrom 24 = .ok (.iconst 0, 1) := by decide +kernel
theorem dX4_spreadFrom_25 : decode cX4_spreadFrom 25 = .ok (.istore 4, 2) := by decide +kernel
theorem dX4_spreadFrom_27 : decode cX4_spreadFrom 27 = .ok (.iconst 0, 1) := by decide +kernel
theorem dX4_spreadFrom_28 : decode cX4_spreadFrom 28 = .ok (.istore 5, 2) := by decide +kernel
theorem dX4_spreadFrom_30 : decode cX4_spreadFrom 30 = .ok (.iload 5, 2) := by decide +kernel
theorem dX4_spreadFrom_32 : decode cX4_spreadFrom 32 = .ok (.iload_n 3, 1) := by decide +kernel
theorem dX4_spreadFrom_33 : decode cX4_spreadFrom 33 = .ok (.if_icmp .ge 175, 3) := by decide +kernel
theorem dX4_spreadFrom_36 : decode cX4_spreadFrom 36 = .ok (.iload 5, 2) := by decide +kernel
theorem dX4_spreadFrom_38 : decode cX4_spreadFrom 38 = .ok (.bipush 48, 2) := by decide +kernel
theorem dX4_spreadFrom_40 : decode cX4_spreadFrom 40 = .ok (.if_icmp .ge 168, 3) := by decide +kernel
theorem dX4_spreadFrom_43 : decode cX4_spreadFrom 43 = .ok (.aload_n 0, 1) := by decide +kernel
theorem dX4_spreadFrom_44 : decode cX4_spreadFrom 44 = .ok (.getfield 21, 3) := by decide +kernel
theorem dX4_spreadFrom_47 : decode cX4_spreadFrom 47 = .ok (.iload 5, 2) := by decide +kernel
theorem dX4_spreadFrom_49 : decode cX4_spreadFrom 49 = .ok (.iaload, 1) := by decide +kernel
theorem dX4_spreadFrom_50 : decode cX4_spreadFrom 50 = .ok (.istore 6, 2) := by decide +kernel
theorem dX4_spreadFrom_52 : decode cX4_spreadFrom 52 = .ok (.iload 6, 2) := by decide +kernel
theorem dX4_spreadFrom_54 : decode cX4_spreadFrom 54 = .ok (.invokestatic 41, 3) := by decide +kernel
theorem dX4_spreadFrom_57 : decode cX4_spreadFrom 57 = .ok (.ifCond .ne 6, 3) := by decide +kernel
theorem dX4_spreadFrom_60 : decode cX4_spreadFrom 60 = .ok (.goto 142, 3) := by decide +kernel
theorem dX4_spreadFrom_63 : decode cX4_spreadFrom 63 = .ok (.aload_n 1, 1) := by decide +kernel
theorem dX4_spreadFrom_64 : decode cX4_spreadFrom 64 = .ok (.getfield 45, 3) := by decide +kernel
theorem dX4_spreadFrom_67 : decode cX4_spreadFrom 67 = .ok (.iload 6, 2) := by decide +kernel
theorem dX4_spreadFrom_69 : decode cX4_spreadFrom 69 = .ok (.iaload, 1) := by decide +kernel
theorem dX4_spreadFrom_70 : decode cX4_spreadFrom 70 = .ok (.bipush (-5), 2) := by decide +kernel
theorem dX4_spreadFrom_72 : decode cX4_spreadFrom 72 = .ok (.if_icmp .ne 6, 3) := by decide +kernel
theorem dX4_spreadFrom_75 : decode cX4_spreadFrom 75 = .ok (.iinc 4 1, 3) := by decide +kernel
theorem dX4_spreadFrom_78 : decode cX4_spreadFrom 78 = .ok (.iconst 0, 1) := by decide +kernel
theorem dX4_spreadFrom_79 : decode cX4_spreadFrom 79 = .ok (.istore 7, 2) := by decide +kernel
theorem dX4_spreadFrom_81 : decode cX4_spreadFrom 81 = .ok (.iload 7, 2) := by decide +kernel
theorem dX4_spreadFrom_83 : decode cX4_spreadFrom 83 = .ok (.iconst 4, 1) := by decide +kernel
theorem dX4_spreadFrom_84 : decode cX4_spreadFrom 84 = .ok (.if_icmp .ge 118, 3) := by decide +kernel
theorem dX4_spreadFrom_87 : decode cX4_spreadFrom 87 = .ok (.aload_n 0, 1) := by decide +kernel
theorem dX4_spreadFrom_88 : decode cX4_spreadFrom 88 = .ok (.getfield 27, 3) := by decide +kernel
theorem dX4_spreadFrom_91 : decode cX4_spreadFrom 91 = .ok (.getfield 50, 3) := by decide +kernel
theorem dX4_spreadFrom_94 : decode cX4_spreadFrom 94 = .ok (.iload 6, 2) := by decide +kernel
theorem dX4_spreadFrom_96 : decode cX4_spreadFrom 96 = .ok (.iconst 4, 1) := by decide +kernel
theorem dX4_spreadFrom_97 : decode cX4_spreadFrom 97 = .ok (.imul, 1) := by decide +kernel
theorem dX4_spreadFrom_98 : decode cX4_spreadFrom 98 = .ok (.iload 7, 2) := by decide +kernel
theorem dX4_spreadFrom_100 : decode cX4_spreadFrom 100 = .ok (.iadd, 1) := by decide +kernel
theorem dX4_spreadFrom_101 : decode cX4_spreadFrom 101 = .ok (.iaload, 1) := by decide +kernel
theorem dX4_spreadFrom_102 : decode cX4_spreadFrom 102 = .ok (.istore 8, 2) := by decide +kernel
theorem dX4_spreadFrom_104 : decode cX4_spreadFrom 104 = .ok (.aload_n 0, 1) := by decide +kernel
theorem dX4_spreadFrom_105 : decode cX4_spreadFrom 105 = .ok (.getfield 27, 3) := by decide +kernel
theorem dX4_spreadFrom_108 : decode cX4_spreadFrom 108 = .ok (.getfield 55, 3) := by decide +kernel
theorem dX4_spreadFrom_111 : decode cX4_spreadFrom 111 = .ok (.iload 6, 2) := by decide +kernel
theorem dX4_spreadFrom_113 : decode cX4_spreadFrom 113 = .ok (.iconst 4, 1) := by decide +kernel
theorem dX4_spreadFrom_114 : decode cX4_spreadFrom 114 = .ok (.imul, 1) := by decide +kernel
theorem dX4_spreadFrom_115 : decode cX4_spreadFrom 115 = .ok (.iload 7, 2) := by decide +kernel
theorem dX4_spreadFrom_117 : decode cX4_spreadFrom 117 = .ok (.iadd, 1) := by decide +kernel
theorem dX4_spreadFrom_118 : decode cX4_spreadFrom 118 = .ok (.iaload, 1) := by decide +kernel
theorem dX4_spreadFrom_119 : decode cX4_spreadFrom 119 = .ok (.istore 9, 2) := by decide +kernel
theorem dX4_spreadFrom_121 : decode cX4_spreadFrom 121 = .ok (.iload 8, 2) := by decide +kernel
theorem dX4_spreadFrom_123 : decode cX4_spreadFrom 123 = .ok (.invokestatic 58, 3) := by decide +kernel
theorem dX4_spreadFrom_126 : decode cX4_spreadFrom 126 = .ok (.ifCond .eq 25, 3) := by decide +kernel
theorem dX4_spreadFrom_129 : decode cX4_spreadFrom 129 = .ok (.iload 9, 2) := by decide +kernel
theorem dX4_spreadFrom_131 : decode cX4_spreadFrom 131 = .ok (.invokestatic 41, 3) := by decide +kernel
theorem dX4_spreadFrom_134 : decode cX4_spreadFrom 134 = .ok (.ifCond .eq 17, 3) := by decide +kernel
theorem dX4_spreadFrom_137 : decode cX4_spreadFrom 137 = .ok (.aload_n 1, 1) := by decide +kernel
theorem dX4_spreadFrom_138 : decode cX4_spreadFrom 138 = .ok (.getfield 61, 3) := by decide +kernel
theorem dX4_spreadFrom_141 : decode cX4_spreadFrom 141 = .ok (.iload 8, 2) := by decide +kernel
theorem dX4_spreadFrom_143 : decode cX4_spreadFrom 143 = .ok (.iaload, 1) := by decide +kernel
theorem dX4_spreadFrom_144 : decode cX4_spreadFrom 144 = .ok (.ifCond .ne 7, 3) := by decide +kernel
theorem dX4_spreadFrom_147 : decode cX4_spreadFrom 147 = .ok (.iconst 1, 1) := by decide +kernel
theorem dX4_spreadFrom_148 : decode cX4_spreadFrom 148 = .ok (.goto 4, 3) := by decide +kernel
theorem dX4_spreadFrom_151 : decode cX4_spreadFrom 151 = .ok (.iconst 0, 1) := by decide +kernel
theorem dX4_spreadFrom_152 : decode cX4_spreadFrom 152 = .ok (.istore 10, 2) := by decide +kernel
theorem dX4_spreadFrom_154 : decode cX4_spreadFrom 154 = .ok (.iload 10, 2) := by decide +kernel
theorem dX4_spreadFrom_156 : decode cX4_spreadFrom 156 = .ok (.ifCond .eq 40, 3) := by decide +kernel
theorem dX4_spreadFrom_159 : decode cX4_spreadFrom 159 = .ok (.aload_n 0, 1) := by decide +kernel
theorem dX4_spreadFrom_160 : decode cX4_spreadFrom 160 = .ok (.getfield 9, 3) := by decide +kernel
theorem dX4_spreadFrom_163 : decode cX4_spreadFrom 163 = .ok (.iload 9, 2) := by decide +kernel
theorem dX4_spreadFrom_165 : decode cX4_spreadFrom 165 = .ok (.iaload, 1) := by decide +kernel
theorem dX4_spreadFrom_166 : decode cX4_spreadFrom 166 = .ok (.bipush (-5), 2) := by decide +kernel
theorem dX4_spreadFrom_168 : decode cX4_spreadFrom 168 = .ok (.if_icmp .ne 28, 3) := by decide +kernel
theorem dX4_spreadFrom_171 : decode cX4_spreadFrom 171 = .ok (.iload_n 3, 1) := by decide +kernel
theorem dX4_spreadFrom_172 : decode cX4_spreadFrom 172 = .ok (.bipush 48, 2) := by decide +kernel
theorem dX4_spreadFrom_174 : decode cX4_spreadFrom 174 = .ok (.if_icmp .ge 22, 3) := by decide +kernel
theorem dX4_spreadFrom_177 : decode cX4_spreadFrom 177 = .ok (.aload_n 0, 1) := by decide +kernel
theorem dX4_spreadFrom_178 : decode cX4_spreadFrom 178 = .ok (.getfield 9, 3) := by decide +kernel
theorem dX4_spreadFrom_181 : decode cX4_spreadFrom 181 = .ok (.iload 9, 2) := by decide +kernel
theorem dX4_spreadFrom_183 : decode cX4_spreadFrom 183 = .ok (.iload_n 2, 1) := by decide +kernel
theorem dX4_spreadFrom_184 : decode cX4_spreadFrom 184 = .ok (.iastore, 1) := by decide +kernel
theorem dX4_spreadFrom_185 : decode cX4_spreadFrom 185 = .ok (.aload_n 0, 1) := by decide +kernel
theorem dX4_spreadFrom_186 : decode cX4_spreadFrom 186 = .ok (.getfield 21, 3) := by decide +kernel
theorem dX4_spreadFrom_189 : decode cX4_spreadFrom 189 = .ok (.iload_n 3, 1) := by decide +kernel
theorem dX4_spreadFrom_190 : decode cX4_spreadFrom 190 = .ok (.iload 9, 2) := by decide +kernel
theorem dX4_spreadFrom_192 : decode cX4_spreadFrom 192 = .ok (.iastore, 1) := by decide +kernel
theorem dX4_spreadFrom_193 : decode cX4_spreadFrom 193 = .ok (.iinc 3 1, 3) := by decide +kernel
theorem dX4_spreadFrom_196 : decode cX4_spreadFrom 196 = .ok (.iinc 7 1, 3) := by decide +kernel
theorem dX4_spreadFrom_199 : decode cX4_spreadFrom 199 = .ok (.goto (-118), 3) := by decide +kernel
theorem dX4_spreadFrom_202 : decode cX4_spreadFrom 202 = .ok (.iinc 5 1, 3) := by decide +kernel
theorem dX4_spreadFrom_205 : decode cX4_spreadFrom 205 = .ok (.goto (-175), 3) := by decide +kernel
theorem dX4_spreadFrom_208 : decode cX4_spreadFrom 208 = .ok (.iload_n 2, 1) := by decide +kernel
theorem dX4_spreadFrom_209 : decode cX4_spreadFrom 209 = .ok (.istore 5, 2) := by decide +kernel
theorem dX4_spreadFrom_211 : decode cX4_spreadFrom 211 = .ok (.iload 5, 2) := by decide +kernel
theorem dX4_spreadFrom_213 : decode cX4_spreadFrom 213 = .ok (.bipush 48, 2) := by decide +kernel
theorem dX4_spreadFrom_215 : decode cX4_spreadFrom 215 = .ok (.if_icmp .ge 37, 3) := by decide +kernel
theorem dX4_spreadFrom_218 : decode cX4_spreadFrom 218 = .ok (.aload_n 0, 1) := by decide +kernel
theorem dX4_spreadFrom_219 : decode cX4_spreadFrom 219 = .ok (.getfield 9, 3) := by decide +kernel
theorem dX4_spreadFrom_222 : decode cX4_spreadFrom 222 = .ok (.iload 5, 2) := by decide +kernel
theorem dX4_spreadFrom_224 : decode cX4_spreadFrom 224 = .ok (.iaload, 1) := by decide +kernel
theorem dX4_spreadFrom_225 : decode cX4_spreadFrom 225 = .ok (.iload_n 2, 1) := by decide +kernel
theorem dX4_spreadFrom_226 : decode cX4_spreadFrom 226 = .ok (.if_icmp .ne 20, 3) := by decide +kernel
theorem dX4_spreadFrom_229 : decode cX4_spreadFrom 229 = .ok (.aload_n 0, 1) := by decide +kernel
theorem dX4_spreadFrom_230 : decode cX4_spreadFrom 230 = .ok (.getfield 15, 3) := by decide +kernel
theorem dX4_spreadFrom_233 : decode cX4_spreadFrom 233 = .ok (.iload 5, 2) := by decide +kernel
theorem dX4_spreadFrom_235 : decode cX4_spreadFrom 235 = .ok (.iload_n 3, 1) := by decide +kernel
theorem dX4_spreadFrom_236 : decode cX4_spreadFrom 236 = .ok (.iastore, 1) := by decide +kernel
theorem dX4_spreadFrom_237 : decode cX4_spreadFrom 237 = .ok (.aload_n 0, 1) := by decide +kernel
theorem dX4_spreadFrom_238 : decode cX4_spreadFrom 238 = .ok (.getfield 18, 3) := by decide +kernel
theorem dX4_spreadFrom_241 : decode cX4_spreadFrom 241 = .ok (.iload 5, 2) := by decide +kernel
theorem dX4_spreadFrom_243 : decode cX4_spreadFrom 243 = .ok (.iload 4, 2) := by decide +kernel
theorem dX4_spreadFrom_245 : decode cX4_spreadFrom 245 = .ok (.iastore, 1) := by decide +kernel
theorem dX4_spreadFrom_246 : decode cX4_spreadFrom 246 = .ok (.iinc 5 1, 3) := by decide +kernel
theorem dX4_spreadFrom_249 : decode cX4_spreadFrom 249 = .ok (.goto (-38), 3) := by decide +kernel
theorem dX4_spreadFrom_252 : decode cX4_spreadFrom 252 = .ok (.return_, 1) := by decide +kernel
theorem dX4_lowestAround_0 : decode cX4_lowestAround 0 = .ok (.iload_n 1, 1) := by decide +kernel
theorem dX4_lowestAround_1 : decode cX4_lowestAround 1 = .ok (.invokestatic 41, 3) := by decide +kernel
theorem dX4_lowestAround_4 : decode cX4_lowestAround 4 = .ok (.ifCond .eq 12, 3) := by decide +kernel
theorem dX4_lowestAround_7 : decode cX4_lowestAround 7 = .ok (.aload_n 0, 1) := by decide +kernel
theorem dX4_lowestAround_8 : decode cX4_lowestAround 8 = .ok (.getfield 9, 3) := by decide +kernel
theorem dX4_lowestAround_11 : decode cX4_lowestAround 11 = .ok (.iload_n 1, 1) := by decide +kernel
theorem dX4_lowestAround_12 : decode cX4_lowestAround 12 = .ok (.iaload, 1) := by decide +kernel
theorem dX4_lowestAround_13 : decode cX4_lowestAround 13 = .ok (.goto 5, 3) := by decide +kernel
theorem dX4_lowestAround_16 : decode cX4_lowestAround 16 = .ok (.bipush (-5), 2) := by decide +kernel
theorem dX4_lowestAround_18 : decode cX4_lowestAround 18 = .ok (.ireturn, 1) := by decide +kernel
theorem dX4_sizeAround_0 : decode cX4_sizeAround 0 = .ok (.iload_n 1, 1) := by decide +kernel
theorem dX4_sizeAround_1 : decode cX4_sizeAround 1 = .ok (.invokestatic 41, 3) := by decide +kernel
theorem dX4_sizeAround_4 : decode cX4_sizeAround 4 = .ok (.ifCond .eq 12, 3) := by decide +kernel
theorem dX4_sizeAround_7 : decode cX4_sizeAround 7 = .ok (.aload_n 0, 1) := by decide +kernel
theorem dX4_sizeAround_8 : decode cX4_sizeAround 8 = .ok (.getfield 15, 3) := by decide +kernel
theorem dX4_sizeAround_11 : decode cX4_sizeAround 11 = .ok (.iload_n 1, 1) := by decide +kernel
theorem dX4_sizeAround_12 : decode cX4_sizeAround 12 = .ok (.iaload, 1) := by decide +kernel
theorem dX4_sizeAround_13 : decode cX4_sizeAround 13 = .ok (.goto 4, 3) := by decide +kernel
theorem dX4_sizeAround_16 : decode cX4_sizeAround 16 = .ok (.iconst 0, 1) := by decide +kernel
theorem dX4_sizeAround_17 : decode cX4_sizeAround 17 = .ok (.ireturn, 1) := by decide +kernel
theorem dX4_freeAround_0 : decode cX4_freeAround 0 = .ok (.iload_n 1, 1) := by decide +kernel
theorem dX4_freeAround_1 : decode cX4_freeAround 1 = .ok (.invokestatic 41, 3) := by decide +kernel
theorem dX4_freeAround_4 : decode cX4_freeAround 4 = .ok (.ifCond .eq 12, 3) := by decide +kernel
theorem dX4_freeAround_7 : decode cX4_freeAround 7 = .ok (.aload_n 0, 1) := by decide +kernel
theorem dX4_freeAround_8 : decode cX4_freeAround 8 = .ok (.getfield 18, 3) := by decide +kernel
theorem dX4_freeAround_11 : decode cX4_freeAround 11 = .ok (.iload_n 1, 1) := by decide +kernel
theorem dX4_freeAround_12 : decode cX4_freeAround 12 = .ok (.iaload, 1) := by decide +kernel
theorem dX4_freeAround_13 : decode cX4_freeAround 13 = .ok (.goto 4, 3) := by decide +kernel
theorem dX4_freeAround_16 : decode cX4_freeAround 16 = .ok (.iconst 0, 1) := by decide +kernel
theorem dX4_freeAround_17 : decode cX4_freeAround 17 = .ok (.ireturn, 1) := by decide +kernel
theorem dX4_sizeByJoining_0 : decode cX4_sizeByJoining 0 = .ok (.iconst 0, 1) := by decide +kernel
theorem dX4_sizeByJoining_1 : decode cX4_sizeByJoining 1 = .ok (.istore_n 3, 1) := by decide +kernel
theorem dX4_sizeByJoining_2 : decode cX4_sizeByJoining 2 = .ok (.iload_n 3, 1) := by decide +kernel
theorem dX4_sizeByJoining_3 : decode cX4_sizeByJoining 3 = .ok (.bipush 48, 2) := by decide +kernel
theorem dX4_sizeByJoining_5 : decode cX4_sizeByJoining 5 = .ok (.if_icmp .ge 16, 3) := by decide +kernel
theorem dX4_sizeByJoining_8 : decode cX4_sizeByJoining 8 = .ok (.aload_n 0, 1) := by decide +kernel
theorem dX4_sizeByJoining_9 : decode cX4_sizeByJoining 9 = .ok (.getfield 24, 3) := by decide +kernel
theorem dX4_sizeByJoining_12 : decode cX4_sizeByJoining 12 = .ok (.iload_n 3, 1) := by decide +kernel
theorem dX4_sizeByJoining_13 : decode cX4_sizeByJoining 13 = .ok (.iload_n 3, 1) := by decide +kernel
theorem dX4_sizeByJoining_14 : decode cX4_sizeByJoining 14 = .ok (.iastore, 1) := by decide +kernel
theorem dX4_sizeByJoining_15 : decode cX4_sizeByJoining 15 = .ok (.iinc 3 1, 3) := by decide +kernel
theorem dX4_sizeByJoining_18 : decode cX4_sizeByJoining 18 = .ok (.goto (-16), 3) := by decide +kernel
theorem dX4_sizeByJoining_21 : decode cX4_sizeByJoining 21 = .ok (.iconst 0, 1) := by decide +kernel
theorem dX4_sizeByJoining_22 : decode cX4_sizeByJoining 22 = .ok (.istore_n 3, 1) := by decide +kernel
theorem dX4_sizeByJoining_23 : decode cX4_sizeByJoining 23 = .ok (.iload_n 3, 1) := by decide +kernel
theorem dX4_sizeByJoining_24 : decode cX4_sizeByJoining 24 = .ok (.bipush 82, 2) := by decide +kernel
theorem dX4_sizeByJoining_26 : decode cX4_sizeByJoining 26 = .ok (.if_icmp .ge 74, 3) := by decide +kernel
theorem dX4_sizeByJoining_29 : decode cX4_sizeByJoining 29 = .ok (.aload_n 0, 1) := by decide +kernel
theorem dX4_sizeByJoining_30 : decode cX4_sizeByJoining 30 = .ok (.getfield 27, 3) := by decide +kernel
theorem dX4_sizeByJoining_33 : decode cX4_sizeByJoining 33 = .ok (.getfield 64, 3) := by decide +kernel
theorem dX4_sizeByJoining_36 : decode cX4_sizeByJoining 36 = .ok (.iload_n 3, 1) := by decide +kernel
theorem dX4_sizeByJoining_37 : decode cX4_sizeByJoining 37 = .ok (.iaload, 1) := by decide +kernel
theorem dX4_sizeByJoining_38 : decode cX4_sizeByJoining 38 = .ok (.istore 4, 2) := by decide +kernel
theorem dX4_sizeByJoining_40 : decode cX4_sizeByJoining 40 = .ok (.aload_n 0, 1) := by decide +kernel
theorem dX4_sizeByJoining_41 : decode cX4_sizeByJoining 41 = .ok (.getfield 27, 3) := by decide +kernel
theorem dX4_sizeByJoining_44 : decode cX4_sizeByJoining 44 = .ok (.getfield 67, 3) := by decide +kernel
theorem dX4_sizeByJoining_47 : decode cX4_sizeByJoining 47 = .ok (.iload_n 3, 1) := by decide +kernel
theorem dX4_sizeByJoining_48 : decode cX4_sizeByJoining 48 = .ok (.iaload, 1) := by decide +kernel
theorem dX4_sizeByJoining_49 : decode cX4_sizeByJoining 49 = .ok (.istore 5, 2) := by decide +kernel
theorem dX4_sizeByJoining_51 : decode cX4_sizeByJoining 51 = .ok (.aload_n 1, 1) := by decide +kernel
theorem dX4_sizeByJoining_52 : decode cX4_sizeByJoining 52 = .ok (.getfield 61, 3) := by decide +kernel
theorem dX4_sizeByJoining_55 : decode cX4_sizeByJoining 55 = .ok (.iload_n 3, 1) := by decide +kernel
theorem dX4_sizeByJoining_56 : decode cX4_sizeByJoining 56 = .ok (.iaload, 1) := by decide +kernel
theorem dX4_sizeByJoining_57 : decode cX4_sizeByJoining 57 = .ok (.ifCond .ne 37, 3) := by decide +kernel
theorem dX4_sizeByJoining_60 : decode cX4_sizeByJoining 60 = .ok (.iload 4, 2) := by decide +kernel
theorem dX4_sizeByJoining_62 : decode cX4_sizeByJoining 62 = .ok (.invokestatic 41, 3) := by decide +kernel
theorem dX4_sizeByJoining_65 : decode cX4_sizeByJoining 65 = .ok (.ifCond .eq 29, 3) := by decide +kernel
theorem dX4_sizeByJoining_68 : decode cX4_sizeByJoining 68 = .ok (.iload 5, 2) := by decide +kernel
theorem dX4_sizeByJoining_70 : decode cX4_sizeByJoining 70 = .ok (.invokestatic 41, 3) := by decide +kernel
theorem dX4_sizeByJoining_73 : decode cX4_sizeByJoining 73 = .ok (.ifCond .eq 21, 3) := by decide +kernel
theorem dX4_sizeByJoining_76 : decode cX4_sizeByJoining 76 = .ok (.aload_n 0, 1) := by decide +kernel
theorem dX4_sizeByJoining_77 : decode cX4_sizeByJoining 77 = .ok (.aload_n 0, 1) := by decide +kernel
theorem dX4_sizeByJoining_78 : decode cX4_sizeByJoining 78 = .ok (.getfield 24, 3) := by decide +kernel
theorem dX4_sizeByJoining_81 : decode cX4_sizeByJoining 81 = .ok (.iload 4, 2) := by decide +kernel
theorem dX4_sizeByJoining_83 : decode cX4_sizeByJoining 83 = .ok (.iaload, 1) := by decide +kernel
theorem dX4_sizeByJoining_84 : decode cX4_sizeByJoining 84 = .ok (.aload_n 0, 1) := by decide +kernel
theorem dX4_sizeByJoining_85 : decode cX4_sizeByJoining 85 = .ok (.getfield 24, 3) := by decide +kernel
theorem dX4_sizeByJoining_88 : decode cX4_sizeByJoining 88 = .ok (.iload 5, 2) := by decide +kernel
theorem dX4_sizeByJoining_90 : decode cX4_sizeByJoining 90 = .ok (.iaload, 1) := by decide +kernel
theorem dX4_sizeByJoining_91 : decode cX4_sizeByJoining 91 = .ok (.invokevirtual 70, 3) := by decide +kernel
theorem dX4_sizeByJoining_94 : decode cX4_sizeByJoining 94 = .ok (.iinc 3 1, 3) := by decide +kernel
theorem dX4_sizeByJoining_97 : decode cX4_sizeByJoining 97 = .ok (.goto (-74), 3) := by decide +kernel
theorem dX4_sizeByJoining_100 : decode cX4_sizeByJoining 100 = .ok (.iload_n 2, 1) := by decide +kernel
theorem dX4_sizeByJoining_101 : decode cX4_sizeByJoining 101 = .ok (.invokestatic 41, 3) := by decide +kernel
theorem dX4_sizeByJoining_104 : decode cX4_sizeByJoining 104 = .ok (.ifCond .eq 16, 3) := by decide +kernel
theorem dX4_sizeByJoining_107 : decode cX4_sizeByJoining 107 = .ok (.aload_n 0, 1) := by decide +kernel
theorem dX4_sizeByJoining_108 : decode cX4_sizeByJoining 108 = .ok (.aload_n 0, 1) := by decide +kernel
theorem dX4_sizeByJoining_109 : decode cX4_sizeByJoining 109 = .ok (.getfield 24, 3) := by decide +kernel
theorem dX4_sizeByJoining_112 : decode cX4_sizeByJoining 112 = .ok (.iload_n 2, 1) := by decide +kernel
theorem dX4_sizeByJoining_113 : decode cX4_sizeByJoining 113 = .ok (.iaload, 1) := by decide +kernel
theorem dX4_sizeByJoining_114 : decode cX4_sizeByJoining 114 = .ok (.invokevirtual 74, 3) := by decide +kernel
theorem dX4_sizeByJoining_117 : decode cX4_sizeByJoining 117 = .ok (.goto 4, 3) := by decide +kernel
theorem dX4_sizeByJoining_120 : decode cX4_sizeByJoining 120 = .ok (.iconst 0, 1) := by decide +kernel
theorem dX4_sizeByJoining_121 : decode cX4_sizeByJoining 121 = .ok (.ireturn, 1) := by decide +kernel
theorem dX4_relabel_0 : decode cX4_relabel 0 = .ok (.iconst 0, 1) := by decide +kernel
theorem dX4_relabel_1 : decode cX4_relabel 1 = .ok (.istore_n 3, 1) := by decide +kernel
theorem dX4_relabel_2 : decode cX4_relabel 2 = .ok (.iload_n 3, 1) := by decide +kernel
theorem dX4_relabel_3 : decode cX4_relabel 3 = .ok (.bipush 48, 2) := by decide +kernel
theorem dX4_relabel_5 : decode cX4_relabel 5 = .ok (.if_icmp .ge 26, 3) := by decide +kernel
theorem dX4_relabel_8 : decode cX4_relabel 8 = .ok (.aload_n 0, 1) := by decide +kernel
theorem dX4_relabel_9 : decode cX4_relabel 9 = .ok (.getfield 24, 3) := by decide +kernel
theorem dX4_relabel_12 : decode cX4_relabel 12 = .ok (.iload_n 3, 1) := by decide +kernel
theorem dX4_relabel_13 : decode cX4_relabel 13 = .ok (.iaload, 1) := by decide +kernel
theorem dX4_relabel_14 : decode cX4_relabel 14 = .ok (.iload_n 1, 1) := by decide +kernel
theorem dX4_relabel_15 : decode cX4_relabel 15 = .ok (.if_icmp .ne 10, 3) := by decide +kernel
theorem dX4_relabel_18 : decode cX4_relabel 18 = .ok (.aload_n 0, 1) := by decide +kernel
theorem dX4_relabel_19 : decode cX4_relabel 19 = .ok (.getfield 24, 3) := by decide +kernel
theorem dX4_relabel_22 : decode cX4_relabel 22 = .ok (.iload_n 3, 1) := by decide +kernel
theorem dX4_relabel_23 : decode cX4_relabel 23 = .ok (.iload_n 2, 1) := by decide +kernel
theorem dX4_relabel_24 : decode cX4_relabel 24 = .ok (.iastore, 1) := by decide +kernel
theorem dX4_relabel_25 : decode cX4_relabel 25 = .ok (.iinc 3 1, 3) := by decide +kernel
theorem dX4_relabel_28 : decode cX4_relabel 28 = .ok (.goto (-26), 3) := by decide +kernel
theorem dX4_relabel_31 : decode cX4_relabel 31 = .ok (.return_, 1) := by decide +kernel
theorem dX4_countLabel_0 : decode cX4_countLabel 0 = .ok (.iconst 0, 1) := by decide +kernel
theorem dX4_countLabel_1 : decode cX4_countLabel 1 = .ok (.istore_n 2, 1) := by decide +kernel
theorem dX4_countLabel_2 : decode cX4_countLabel 2 = .ok (.iconst 0, 1) := by decide +kernel
theorem dX4_countLabel_3 : decode cX4_countLabel 3 = .ok (.istore_n 3, 1) := by decide +kernel
theorem dX4_countLabel_4 : decode cX4_countLabel 4 = .ok (.iload_n 3, 1) := by decide +kernel
theorem dX4_countLabel_5 : decode cX4_countLabel 5 = .ok (.bipush 48, 2) := by decide +kernel
theorem dX4_countLabel_7 : decode cX4_countLabel 7 = .ok (.if_icmp .ge 22, 3) := by decide +kernel
theorem dX4_countLabel_10 : decode cX4_countLabel 10 = .ok (.aload_n 0, 1) := by decide +kernel
theorem dX4_countLabel_11 : decode cX4_countLabel 11 = .ok (.getfield 24, 3) := by decide +kernel
theorem dX4_countLabel_14 : decode cX4_countLabel 14 = .ok (.iload_n 3, 1) := by decide +kernel
theorem dX4_countLabel_15 : decode cX4_countLabel 15 = .ok (.iaload, 1) := by decide +kernel
theorem dX4_countLabel_16 : decode cX4_countLabel 16 = .ok (.iload_n 1, 1) := by decide +kernel
theorem dX4_countLabel_17 : decode cX4_countLabel 17 = .ok (.if_icmp .ne 6, 3) := by decide +kernel
theorem dX4_countLabel_20 : decode cX4_countLabel 20 = .ok (.iinc 2 1, 3) := by decide +kernel
theorem dX4_countLabel_23 : decode cX4_countLabel 23 = .ok (.iinc 3 1, 3) := by decide +kernel
theorem dX4_countLabel_26 : decode cX4_countLabel 26 = .ok (.goto (-22), 3) := by decide +kernel
theorem dX4_countLabel_29 : decode cX4_countLabel 29 = .ok (.iload_n 2, 1) := by decide +kernel
theorem dX4_countLabel_30 : decode cX4_countLabel 30 = .ok (.ireturn, 1) := by decide +kernel
theorem dX5_init_0 : decode cX5_init 0 = .ok (.aload_n 0, 1) := by decide +kernel
theorem dX5_init_1 : decode cX5_init 1 = .ok (.invokespecial 3, 3) := by decide +kernel
theorem dX5_init_4 : decode cX5_init 4 = .ok (.aload_n 0, 1) := by decide +kernel
theorem dX5_init_5 : decode cX5_init 5 = .ok (.bipush (-5), 2) := by decide +kernel
theorem dX5_init_7 : decode cX5_init 7 = .ok (.putfield 9, 3) := by decide +kernel
theorem dX5_init_10 : decode cX5_init 10 = .ok (.aload_n 0, 1) := by decide +kernel
theorem dX5_init_11 : decode cX5_init 11 = .ok (.iconst 2, 1) := by decide +kernel
theorem dX5_init_12 : decode cX5_init 12 = .ok (.newarray .int, 2) := by decide +kernel
theorem dX5_init_14 : decode cX5_init 14 = .ok (.dup, 1) := by decide +kernel
theorem dX5_init_15 : decode cX5_init 15 = .ok (.iconst 0, 1) := by decide +kernel
theorem dX5_init_16 : decode cX5_init 16 = .ok (.iconst 3, 1) := by decide +kernel
theorem dX5_init_17 : decode cX5_init 17 = .ok (.iastore, 1) := by decide +kernel
theorem dX5_init_18 : decode cX5_init 18 = .ok (.dup, 1) := by decide +kernel
theorem dX5_init_19 : decode cX5_init 19 = .ok (.iconst 1, 1) := by decide +kernel
theorem dX5_init_20 : decode cX5_init 20 = .ok (.bipush 9, 2) := by decide +kernel
theorem dX5_init_22 : decode cX5_init 22 = .ok (.iastore, 1) := by decide +kernel
theorem dX5_init_23 : decode cX5_init 23 = .ok (.putfield 15, 3) := by decide +kernel
theorem dX5_init_26 : decode cX5_init 26 = .ok (.aload_n 0, 1) := by decide +kernel
theorem dX5_init_27 : decode cX5_init 27 = .ok (.iconst 2, 1) := by decide +kernel
theorem dX5_init_28 : decode cX5_init 28 = .ok (.newarray .int, 2) := by decide +kernel
theorem dX5_init_30 : decode cX5_init 30 = .ok (.putfield 19, 3) := by decide +kernel
theorem dX5_init_33 : decode cX5_init 33 = .ok (.aload_n 0, 1) := by decide +kernel
theorem dX5_init_34 : decode cX5_init 34 = .ok (.bipush 82, 2) := by decide +kernel
theorem dX5_init_36 : decode cX5_init 36 = .ok (.newarray .int, 2) := by decide +kernel
theorem dX5_init_38 : decode cX5_init 38 = .ok (.putfield 22, 3) := by decide +kernel
theorem dX5_init_41 : decode cX5_init 41 = .ok (.aload_n 0, 1) := by decide +kernel
theorem dX5_init_42 : decode cX5_init 42 = .ok (.bipush 48, 2) := by decide +kernel
theorem dX5_init_44 : decode cX5_init 44 = .ok (.newarray .int, 2) := by decide +kernel
theorem dX5_init_46 : decode cX5_init 46 = .ok (.putfield 25, 3) := by decide +kernel
theorem dX5_init_49 : decode cX5_init 49 = .ok (.aload_n 0, 1) := by decide +kernel
theorem dX5_init_50 : decode cX5_init 50 = .ok (.sipush 600, 3) := by decide +kernel
theorem dX5_init_53 : decode cX5_init 53 = .ok (.newarray .int, 2) := by decide +kernel
theorem dX5_init_55 : decode cX5_init 55 = .ok (.putfield 28, 3) := by decide +kernel
theorem dX5_init_58 : decode cX5_init 58 = .ok (.aload_n 0, 1) := by decide +kernel
theorem dX5_init_59 : decode cX5_init 59 = .ok (.getfield 25, 3) := by decide +kernel
theorem dX5_init_62 : decode cX5_init 62 = .ok (.bipush (-5), 2) := by decide +kernel
theorem dX5_init_64 : decode cX5_init 64 = .ok (.invokestatic 31, 3) := by decide +kernel
theorem dX5_init_67 : decode cX5_init 67 = .ok (.return_, 1) := by decide +kernel
theorem dX5_takeFrom_0 : decode cX5_takeFrom 0 = .ok (.aload_n 0, 1) := by decide +kernel
theorem dX5_takeFrom_1 : decode cX5_takeFrom 1 = .ok (.aload_n 1, 1) := by decide +kernel
theorem dX5_takeFrom_2 : decode cX5_takeFrom 2 = .ok (.getfield 37, 3) := by decide +kernel
theorem dX5_takeFrom_5 : decode cX5_takeFrom 5 = .ok (.putfield 37, 3) := by decide +kernel
theorem dX5_takeFrom_8 : decode cX5_takeFrom 8 = .ok (.aload_n 0, 1) := by decide +kernel
theorem dX5_takeFrom_9 : decode cX5_takeFrom 9 = .ok (.aload_n 1, 1) := by decide +kernel
theorem dX5_takeFrom_10 : decode cX5_takeFrom 10 = .ok (.getfield 40, 3) := by decide +kernel
theorem dX5_takeFrom_13 : decode cX5_takeFrom 13 = .ok (.putfield 40, 3) := by decide +kernel
theorem dX5_takeFrom_16 : decode cX5_takeFrom 16 = .ok (.aload_n 0, 1) := by decide +kernel
theorem dX5_takeFrom_17 : decode cX5_takeFrom 17 = .ok (.aload_n 1, 1) := by decide +kernel
theorem dX5_takeFrom_18 : decode cX5_takeFrom 18 = .ok (.getfield 43, 3) := by decide +kernel
theorem dX5_takeFrom_21 : decode cX5_takeFrom 21 = .ok (.putfield 43, 3) := by decide +kernel
theorem dX5_takeFrom_24 : decode cX5_takeFrom 24 = .ok (.aload_n 0, 1) := by decide +kernel
theorem dX5_takeFrom_25 : decode cX5_takeFrom 25 = .ok (.aload_n 1, 1) := by decide +kernel
theorem dX5_takeFrom_26 : decode cX5_takeFrom 26 = .ok (.getfield 9, 3) := by decide +kernel
theorem dX5_takeFrom_29 : decode cX5_takeFrom 29 = .ok (.putfield 9, 3) := by decide +kernel
theorem dX5_takeFrom_32 : decode cX5_takeFrom 32 = .ok (.aload_n 1, 1) := by decide +kernel
theorem dX5_takeFrom_33 : decode cX5_takeFrom 33 = .ok (.getfield 15, 3) := by decide +kernel
theorem dX5_takeFrom_36 : decode cX5_takeFrom 36 = .ok (.iconst 0, 1) := by decide +kernel
theorem dX5_takeFrom_37 : decode cX5_takeFrom 37 = .ok (.aload_n 0, 1) := by decide +kernel
theorem dX5_takeFrom_38 : decode cX5_takeFrom 38 = .ok (.getfield 15, 3) := by decide +kernel
theorem dX5_takeFrom_41 : decode cX5_takeFrom 41 = .ok (.iconst 0, 1) := by decide +kernel
theorem dX5_takeFrom_42 : decode cX5_takeFrom 42 = .ok (.iconst 2, 1) := by decide +kernel
theorem dX5_takeFrom_43 : decode cX5_takeFrom 43 = .ok (.invokestatic 46, 3) := by decide +kernel
theorem dX5_takeFrom_46 : decode cX5_takeFrom 46 = .ok (.aload_n 1, 1) := by decide +kernel
theorem dX5_takeFrom_47 : decode cX5_takeFrom 47 = .ok (.getfield 19, 3) := by decide +kernel
theorem dX5_takeFrom_50 : decode cX5_takeFrom 50 = .ok (.iconst 0, 1) := by decide +kernel
theorem dX5_takeFrom_51 : decode cX5_takeFrom 51 = .ok (.aload_n 0, 1) := by decide +kernel
theorem dX5_takeFrom_52 : decode cX5_takeFrom 52 = .ok (.getfield 19, 3) := by decide +kernel
theorem dX5_takeFrom_55 : decode cX5_takeFrom 55 = .ok (.iconst 0, 1) := by decide +kernel
theorem dX5_takeFrom_56 : decode cX5_takeFrom 56 = .ok (.iconst 2, 1) := by decide +kernel
theorem dX5_takeFrom_57 : decode cX5_takeFrom 57 = .ok (.invokestatic 46, 3) := by decide +kernel
theorem dX5_takeFrom_60 : decode cX5_takeFrom 60 = .ok (.aload_n 1, 1) := by decide +kernel
theorem dX5_takeFrom_61 : decode cX5_takeFrom 61 = .ok (.getfield 22, 3) := by decide +kernel
theorem dX5_takeFrom_64 : decode cX5_takeFrom 64 = .ok (.iconst 0, 1) := by decide +kernel
theorem dX5_takeFrom_65 : decode cX5_takeFrom 65 = .ok (.aload_n 0, 1) := by decide +kernel
theorem dX5_takeFrom_66 : decode cX5_takeFrom 66 = .ok (.getfield 22, 3) := by decide +kernel
theorem dX5_takeFrom_69 : decode cX5_takeFrom 69 = .ok (.iconst 0, 1) := by decide +kernel
theorem dX5_takeFrom_70 : decode cX5_takeFrom 70 = .ok (.bipush 82, 2) := by decide +kernel
theorem dX5_takeFrom_72 : decode cX5_takeFrom 72 = .ok (.invokestatic 46, 3) := by decide +kernel
theorem dX5_takeFrom_75 : decode cX5_takeFrom 75 = .ok (.aload_n 1, 1) := by decide +kernel
theorem dX5_takeFrom_76 : decode cX5_takeFrom 76 = .ok (.getfield 25, 3) := by decide +kernel
theorem dX5_takeFrom_79 : decode cX5_takeFrom 79 = .ok (.iconst 0, 1) := by decide +kernel
theorem dX5_takeFrom_80 : decode cX5_takeFrom 80 = .ok (.aload_n 0, 1) := by decide +kernel
theorem dX5_takeFrom_81 : decode cX5_takeFrom 81 = .ok (.getfield 25, 3) := by decide +kernel
theorem dX5_takeFrom_84 : decode cX5_takeFrom 84 = .ok (.iconst 0, 1) := by decide +kernel
theorem dX5_takeFrom_85 : decode cX5_takeFrom 85 = .ok (.bipush 48, 2) := by decide +kernel
theorem dX5_takeFrom_87 : decode cX5_takeFrom 87 = .ok (.invokestatic 46, 3) := by decide +kernel
theorem dX5_takeFrom_90 : decode cX5_takeFrom 90 = .ok (.aload_n 1, 1) := by decide +kernel
theorem dX5_takeFrom_91 : decode cX5_takeFrom 91 = .ok (.getfield 28, 3) := by decide +kernel
theorem dX5_takeFrom_94 : decode cX5_takeFrom 94 = .ok (.iconst 0, 1) := by decide +kernel
theorem dX5_takeFrom_95 : decode cX5_takeFrom 95 = .ok (.aload_n 0, 1) := by decide +kernel
theorem dX5_takeFrom_96 : decode cX5_takeFrom 96 = .ok (.getfield 28, 3) := by decide +kernel
theorem dX5_takeFrom_99 : decode cX5_takeFrom 99 = .ok (.iconst 0, 1) := by decide +kernel
theorem dX5_takeFrom_100 : decode cX5_takeFrom 100 = .ok (.sipush 600, 3) := by decide +kernel
theorem dX5_takeFrom_103 : decode cX5_takeFrom 103 = .ok (.invokestatic 46, 3) := by decide +kernel
theorem dX5_takeFrom_106 : decode cX5_takeFrom 106 = .ok (.return_, 1) := by decide +kernel
theorem dX5_hasLetter_0 : decode cX5_hasLetter 0 = .ok (.iload_n 1, 1) := by decide +kernel
theorem dX5_hasLetter_1 : decode cX5_hasLetter 1 = .ok (.ifCond .lt 21, 3) := by decide +kernel
theorem dX5_hasLetter_4 : decode cX5_hasLetter 4 = .ok (.iload_n 1, 1) := by decide +kernel
theorem dX5_hasLetter_5 : decode cX5_hasLetter 5 = .ok (.aload_n 0, 1) := by decide +kernel
theorem dX5_hasLetter_6 : decode cX5_hasLetter 6 = .ok (.getfield 40, 3) := by decide +kernel
theorem dX5_hasLetter_9 : decode cX5_hasLetter 9 = .ok (.if_icmp .ge 13, 3) := by decide +kernel
theorem dX5_hasLetter_12 : decode cX5_hasLetter 12 = .ok (.iload_n 1, 1) := by decide +kernel
theorem dX5_hasLetter_13 : decode cX5_hasLetter 13 = .ok (.bipush 60, 2) := by decide +kernel
theorem dX5_hasLetter_15 : decode cX5_hasLetter 15 = .ok (.if_icmp .ge 7, 3) := by decide +kernel
theorem dX5_hasLetter_18 : decode cX5_hasLetter 18 = .ok (.iconst 1, 1) := by decide +kernel
theorem dX5_hasLetter_19 : decode cX5_hasLetter 19 = .ok (.goto 4, 3) := by decide +kernel
theorem dX5_hasLetter_22 : decode cX5_hasLetter 22 = .ok (.iconst 0, 1) := by decide +kernel
theorem dX5_hasLetter_23 : decode cX5_hasLetter 23 = .ok (.ireturn, 1) := by decide +kernel
theorem dX5_told_0 : decode cX5_told 0 = .ok (.aload_n 0, 1) := by decide +kernel
theorem dX5_told_1 : decode cX5_told 1 = .ok (.iload_n 1, 1) := by decide +kernel
theorem dX5_told_2 : decode cX5_told 2 = .ok (.invokevirtual 52, 3) := by decide +kernel
theorem dX5_told_5 : decode cX5_told 5 = .ok (.ifCond .eq 13, 3) := by decide +kernel
theorem dX5_told_8 : decode cX5_told 8 = .ok (.iload_n 2, 1) := by decide +kernel
theorem dX5_told_9 : decode cX5_told 9 = .ok (.ifCond .lt 9, 3) := by decide +kernel
theorem dX5_told_12 : decode cX5_told 12 = .ok (.iload_n 2, 1) := by decide +kernel
theorem dX5_told_13 : decode cX5_told 13 = .ok (.bipush 10, 2) := by decide +kernel
theorem dX5_told_15 : decode cX5_told 15 = .ok (.if_icmp .lt 6, 3) := by decide +kernel
theorem dX5_told_18 : decode cX5_told 18 = .ok (.bipush (-5), 2) := by decide +kernel
theorem dX5_told_20 : decode cX5_told 20 = .ok (.ireturn, 1) := by decide +kernel
theorem dX5_told_21 : decode cX5_told 21 = .ok (.aload_n 0, 1) := by decide +kernel
theorem dX5_told_22 : decode cX5_told 22 = .ok (.getfield 28, 3) := by decide +kernel
theorem dX5_told_25 : decode cX5_told 25 = .ok (.iload_n 1, 1) := by decide +kernel
theorem dX5_told_26 : decode cX5_told 26 = .ok (.bipush 10, 2) := by decide +kernel
theorem dX5_told_28 : decode cX5_told 28 = .ok (.imul, 1) := by decide +kernel
theorem dX5_told_29 : decode cX5_told 29 = .ok (.iload_n 2, 1) := by decide +kernel
theorem dX5_told_30 : decode cX5_told 30 = .ok (.iadd, 1) := by decide +kernel
theorem dX5_told_31 : decode cX5_told 31 = .ok (.iaload, 1) := by decide +kernel
theorem dX5_told_32 : decode cX5_told 32 = .ok (.ireturn, 1) := by decide +kernel
theorem dX5_mark_0 : decode cX5_mark 0 = .ok (.aload_n 0, 1) := by decide +kernel
theorem dX5_mark_1 : decode cX5_mark 1 = .ok (.iload_n 1, 1) := by decide +kernel
theorem dX5_mark_2 : decode cX5_mark 2 = .ok (.invokevirtual 52, 3) := by decide +kernel
theorem dX5_mark_5 : decode cX5_mark 5 = .ok (.ifCond .eq 25, 3) := by decide +kernel
theorem dX5_mark_8 : decode cX5_mark 8 = .ok (.iload_n 2, 1) := by decide +kernel
theorem dX5_mark_9 : decode cX5_mark 9 = .ok (.ifCond .lt 21, 3) := by decide +kernel
theorem dX5_mark_12 : decode cX5_mark 12 = .ok (.iload_n 2, 1) := by decide +kernel
theorem dX5_mark_13 : decode cX5_mark 13 = .ok (.bipush 10, 2) := by decide +kernel
