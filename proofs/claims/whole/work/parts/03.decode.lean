theorem dX0_read_0 : decode cX0_read 0 = .ok (.aload_n 0, 1) := by decide +kernel
theorem dX0_read_1 : decode cX0_read 1 = .ok (.getfield 12, 3) := by decide +kernel
theorem dX0_read_4 : decode cX0_read 4 = .ok (.invokevirtual 31, 3) := by decide +kernel
theorem dX0_read_7 : decode cX0_read 7 = .ok (.aload_n 0, 1) := by decide +kernel
theorem dX0_read_8 : decode cX0_read 8 = .ok (.aload_n 1, 1) := by decide +kernel
theorem dX0_read_9 : decode cX0_read 9 = .ok (.putfield 23, 3) := by decide +kernel
theorem dX0_read_12 : decode cX0_read 12 = .ok (.aload_n 0, 1) := by decide +kernel
theorem dX0_read_13 : decode cX0_read 13 = .ok (.iconst 0, 1) := by decide +kernel
theorem dX0_read_14 : decode cX0_read 14 = .ok (.putfield 27, 3) := by decide +kernel
theorem dX0_read_17 : decode cX0_read 17 = .ok (.iconst 0, 1) := by decide +kernel
theorem dX0_read_18 : decode cX0_read 18 = .ok (.istore_n 2, 1) := by decide +kernel
theorem dX0_read_19 : decode cX0_read 19 = .ok (.iload_n 2, 1) := by decide +kernel
theorem dX0_read_20 : decode cX0_read 20 = .ok (.bipush 60, 2) := by decide +kernel
theorem dX0_read_22 : decode cX0_read 22 = .ok (.if_icmp .gt 61, 3) := by decide +kernel
theorem dX0_read_25 : decode cX0_read 25 = .ok (.aload_n 0, 1) := by decide +kernel
theorem dX0_read_26 : decode cX0_read 26 = .ok (.getfield 27, 3) := by decide +kernel
theorem dX0_read_29 : decode cX0_read 29 = .ok (.aload_n 0, 1) := by decide +kernel
theorem dX0_read_30 : decode cX0_read 30 = .ok (.getfield 23, 3) := by decide +kernel
theorem dX0_read_33 : decode cX0_read 33 = .ok (.getfield 34, 3) := by decide +kernel
theorem dX0_read_36 : decode cX0_read 36 = .ok (.if_icmp .ge 47, 3) := by decide +kernel
theorem dX0_read_39 : decode cX0_read 39 = .ok (.aload_n 0, 1) := by decide +kernel
theorem dX0_read_40 : decode cX0_read 40 = .ok (.invokevirtual 37, 3) := by decide +kernel
theorem dX0_read_43 : decode cX0_read 43 = .ok (.bipush 32, 2) := by decide +kernel
theorem dX0_read_45 : decode cX0_read 45 = .ok (.if_icmp .ne 16, 3) := by decide +kernel
theorem dX0_read_48 : decode cX0_read 48 = .ok (.aload_n 0, 1) := by decide +kernel
theorem dX0_read_49 : decode cX0_read 49 = .ok (.dup, 1) := by decide +kernel
theorem dX0_read_50 : decode cX0_read 50 = .ok (.getfield 27, 3) := by decide +kernel
theorem dX0_read_53 : decode cX0_read 53 = .ok (.iconst 1, 1) := by decide +kernel
theorem dX0_read_54 : decode cX0_read 54 = .ok (.iadd, 1) := by decide +kernel
theorem dX0_read_55 : decode cX0_read 55 = .ok (.putfield 27, 3) := by decide +kernel
theorem dX0_read_58 : decode cX0_read 58 = .ok (.goto 19, 3) := by decide +kernel
theorem dX0_read_61 : decode cX0_read 61 = .ok (.aload_n 0, 1) := by decide +kernel
theorem dX0_read_62 : decode cX0_read 62 = .ok (.aload_n 0, 1) := by decide +kernel
theorem dX0_read_63 : decode cX0_read 63 = .ok (.invokevirtual 37, 3) := by decide +kernel
theorem dX0_read_66 : decode cX0_read 66 = .ok (.invokevirtual 41, 3) := by decide +kernel
theorem dX0_read_69 : decode cX0_read 69 = .ok (.ifCond .ne 8, 3) := by decide +kernel
theorem dX0_read_72 : decode cX0_read 72 = .ok (.aload_n 0, 1) := by decide +kernel
theorem dX0_read_73 : decode cX0_read 73 = .ok (.getfield 27, 3) := by decide +kernel
theorem dX0_read_76 : decode cX0_read 76 = .ok (.ireturn, 1) := by decide +kernel
theorem dX0_read_77 : decode cX0_read 77 = .ok (.iinc 2 1, 3) := by decide +kernel
theorem dX0_read_80 : decode cX0_read 80 = .ok (.goto (-61), 3) := by decide +kernel
theorem dX0_read_83 : decode cX0_read 83 = .ok (.aload_n 0, 1) := by decide +kernel
theorem dX0_read_84 : decode cX0_read 84 = .ok (.getfield 12, 3) := by decide +kernel
theorem dX0_read_87 : decode cX0_read 87 = .ok (.invokevirtual 45, 3) := by decide +kernel
theorem dX0_read_90 : decode cX0_read 90 = .ok (.ifCond .eq 13, 3) := by decide +kernel
theorem dX0_read_93 : decode cX0_read 93 = .ok (.aload_n 0, 1) := by decide +kernel
theorem dX0_read_94 : decode cX0_read 94 = .ok (.getfield 23, 3) := by decide +kernel
theorem dX0_read_97 : decode cX0_read 97 = .ok (.getfield 34, 3) := by decide +kernel
theorem dX0_read_100 : decode cX0_read 100 = .ok (.goto 5, 3) := by decide +kernel
theorem dX0_read_103 : decode cX0_read 103 = .ok (.bipush (-9), 2) := by decide +kernel
theorem dX0_read_105 : decode cX0_read 105 = .ok (.ireturn, 1) := by decide +kernel
theorem dX0_here_0 : decode cX0_here 0 = .ok (.aload_n 0, 1) := by decide +kernel
theorem dX0_here_1 : decode cX0_here 1 = .ok (.getfield 23, 3) := by decide +kernel
theorem dX0_here_4 : decode cX0_here 4 = .ok (.aload_n 0, 1) := by decide +kernel
theorem dX0_here_5 : decode cX0_here 5 = .ok (.getfield 27, 3) := by decide +kernel
theorem dX0_here_8 : decode cX0_here 8 = .ok (.invokevirtual 49, 3) := by decide +kernel
theorem dX0_here_11 : decode cX0_here 11 = .ok (.ifCond .eq 18, 3) := by decide +kernel
theorem dX0_here_14 : decode cX0_here 14 = .ok (.aload_n 0, 1) := by decide +kernel
theorem dX0_here_15 : decode cX0_here 15 = .ok (.getfield 23, 3) := by decide +kernel
theorem dX0_here_18 : decode cX0_here 18 = .ok (.getfield 52, 3) := by decide +kernel
theorem dX0_here_21 : decode cX0_here 21 = .ok (.aload_n 0, 1) := by decide +kernel
theorem dX0_here_22 : decode cX0_here 22 = .ok (.getfield 27, 3) := by decide +kernel
theorem dX0_here_25 : decode cX0_here 25 = .ok (.iaload, 1) := by decide +kernel
theorem dX0_here_26 : decode cX0_here 26 = .ok (.goto 4, 3) := by decide +kernel
theorem dX0_here_29 : decode cX0_here 29 = .ok (.iconst 0, 1) := by decide +kernel
theorem dX0_here_30 : decode cX0_here 30 = .ok (.ireturn, 1) := by decide +kernel
theorem dX0_readItem_0 : decode cX0_readItem 0 = .ok (.iload_n 1, 1) := by decide +kernel
theorem dX0_readItem_1 : decode cX0_readItem 1 = .ok (.lookupswitch 67 #[(67, 56), (71, 61), (80, 51), (84, 61), (87, 61)], 51) := by decide +kernel
theorem dX0_readItem_52 : decode cX0_readItem 52 = .ok (.aload_n 0, 1) := by decide +kernel
theorem dX0_readItem_53 : decode cX0_readItem 53 = .ok (.invokevirtual 56, 3) := by decide +kernel
theorem dX0_readItem_56 : decode cX0_readItem 56 = .ok (.ireturn, 1) := by decide +kernel
theorem dX0_readItem_57 : decode cX0_readItem 57 = .ok (.aload_n 0, 1) := by decide +kernel
theorem dX0_readItem_58 : decode cX0_readItem 58 = .ok (.invokevirtual 59, 3) := by decide +kernel
theorem dX0_readItem_61 : decode cX0_readItem 61 = .ok (.ireturn, 1) := by decide +kernel
theorem dX0_readItem_62 : decode cX0_readItem 62 = .ok (.aload_n 0, 1) := by decide +kernel
theorem dX0_readItem_63 : decode cX0_readItem 63 = .ok (.iload_n 1, 1) := by decide +kernel
theorem dX0_readItem_64 : decode cX0_readItem 64 = .ok (.invokevirtual 62, 3) := by decide +kernel
theorem dX0_readItem_67 : decode cX0_readItem 67 = .ok (.ireturn, 1) := by decide +kernel
theorem dX0_readItem_68 : decode cX0_readItem 68 = .ok (.iconst 0, 1) := by decide +kernel
theorem dX0_readItem_69 : decode cX0_readItem 69 = .ok (.ireturn, 1) := by decide +kernel
theorem dX0_readPair_0 : decode cX0_readPair 0 = .ok (.aload_n 0, 1) := by decide +kernel
theorem dX0_readPair_1 : decode cX0_readPair 1 = .ok (.getfield 12, 3) := by decide +kernel
theorem dX0_readPair_4 : decode cX0_readPair 4 = .ok (.invokevirtual 65, 3) := by decide +kernel
theorem dX0_readPair_7 : decode cX0_readPair 7 = .ok (.ifCond .eq 5, 3) := by decide +kernel
theorem dX0_readPair_10 : decode cX0_readPair 10 = .ok (.iconst 0, 1) := by decide +kernel
theorem dX0_readPair_11 : decode cX0_readPair 11 = .ok (.ireturn, 1) := by decide +kernel
theorem dX0_readPair_12 : decode cX0_readPair 12 = .ok (.aload_n 0, 1) := by decide +kernel
theorem dX0_readPair_13 : decode cX0_readPair 13 = .ok (.dup, 1) := by decide +kernel
theorem dX0_readPair_14 : decode cX0_readPair 14 = .ok (.getfield 27, 3) := by decide +kernel
theorem dX0_readPair_17 : decode cX0_readPair 17 = .ok (.iconst 1, 1) := by decide +kernel
theorem dX0_readPair_18 : decode cX0_readPair 18 = .ok (.iadd, 1) := by decide +kernel
theorem dX0_readPair_19 : decode cX0_readPair 19 = .ok (.putfield 27, 3) := by decide +kernel
theorem dX0_readPair_22 : decode cX0_readPair 22 = .ok (.aload_n 0, 1) := by decide +kernel
theorem dX0_readPair_23 : decode cX0_readPair 23 = .ok (.iconst 2, 1) := by decide +kernel
theorem dX0_readPair_24 : decode cX0_readPair 24 = .ok (.invokevirtual 68, 3) := by decide +kernel
theorem dX0_readPair_27 : decode cX0_readPair 27 = .ok (.istore_n 1, 1) := by decide +kernel
theorem dX0_readPair_28 : decode cX0_readPair 28 = .ok (.iload_n 1, 1) := by decide +kernel
theorem dX0_readPair_29 : decode cX0_readPair 29 = .ok (.bipush 20, 2) := by decide +kernel
theorem dX0_readPair_31 : decode cX0_readPair 31 = .ok (.if_icmp .gt 22, 3) := by decide +kernel
theorem dX0_readPair_34 : decode cX0_readPair 34 = .ok (.iload_n 1, 1) := by decide +kernel
theorem dX0_readPair_35 : decode cX0_readPair 35 = .ok (.aload_n 0, 1) := by decide +kernel
theorem dX0_readPair_36 : decode cX0_readPair 36 = .ok (.getfield 12, 3) := by decide +kernel
theorem dX0_readPair_39 : decode cX0_readPair 39 = .ok (.getfield 72, 3) := by decide +kernel
theorem dX0_readPair_42 : decode cX0_readPair 42 = .ok (.aload_n 0, 1) := by decide +kernel
theorem dX0_readPair_43 : decode cX0_readPair 43 = .ok (.getfield 12, 3) := by decide +kernel
theorem dX0_readPair_46 : decode cX0_readPair 46 = .ok (.getfield 75, 3) := by decide +kernel
theorem dX0_readPair_49 : decode cX0_readPair 49 = .ok (.iaload, 1) := by decide +kernel
theorem dX0_readPair_50 : decode cX0_readPair 50 = .ok (.if_icmp .gt 5, 3) := by decide +kernel
theorem dX0_readPair_53 : decode cX0_readPair 53 = .ok (.iconst 0, 1) := by decide +kernel
theorem dX0_readPair_54 : decode cX0_readPair 54 = .ok (.ireturn, 1) := by decide +kernel
theorem dX0_readPair_55 : decode cX0_readPair 55 = .ok (.aload_n 0, 1) := by decide +kernel
theorem dX0_readPair_56 : decode cX0_readPair 56 = .ok (.invokevirtual 37, 3) := by decide +kernel
theorem dX0_readPair_59 : decode cX0_readPair 59 = .ok (.bipush 58, 2) := by decide +kernel
theorem dX0_readPair_61 : decode cX0_readPair 61 = .ok (.if_icmp .eq 5, 3) := by decide +kernel
theorem dX0_readPair_64 : decode cX0_readPair 64 = .ok (.iconst 0, 1) := by decide +kernel
theorem dX0_readPair_65 : decode cX0_readPair 65 = .ok (.ireturn, 1) := by decide +kernel
theorem dX0_readPair_66 : decode cX0_readPair 66 = .ok (.aload_n 0, 1) := by decide +kernel
theorem dX0_readPair_67 : decode cX0_readPair 67 = .ok (.dup, 1) := by decide +kernel
theorem dX0_readPair_68 : decode cX0_readPair 68 = .ok (.getfield 27, 3) := by decide +kernel
theorem dX0_readPair_71 : decode cX0_readPair 71 = .ok (.iconst 1, 1) := by decide +kernel
theorem dX0_readPair_72 : decode cX0_readPair 72 = .ok (.iadd, 1) := by decide +kernel
theorem dX0_readPair_73 : decode cX0_readPair 73 = .ok (.putfield 27, 3) := by decide +kernel
theorem dX0_readPair_76 : decode cX0_readPair 76 = .ok (.aload_n 0, 1) := by decide +kernel
theorem dX0_readPair_77 : decode cX0_readPair 77 = .ok (.iconst 3, 1) := by decide +kernel
theorem dX0_readPair_78 : decode cX0_readPair 78 = .ok (.invokevirtual 68, 3) := by decide +kernel
theorem dX0_readPair_81 : decode cX0_readPair 81 = .ok (.istore_n 2, 1) := by decide +kernel
theorem dX0_readPair_82 : decode cX0_readPair 82 = .ok (.iload_n 2, 1) := by decide +kernel
theorem dX0_readPair_83 : decode cX0_readPair 83 = .ok (.aload_n 0, 1) := by decide +kernel
theorem dX0_readPair_84 : decode cX0_readPair 84 = .ok (.getfield 12, 3) := by decide +kernel
theorem dX0_readPair_87 : decode cX0_readPair 87 = .ok (.getfield 78, 3) := by decide +kernel
theorem dX0_readPair_90 : decode cX0_readPair 90 = .ok (.aload_n 0, 1) := by decide +kernel
theorem dX0_readPair_91 : decode cX0_readPair 91 = .ok (.getfield 12, 3) := by decide +kernel
theorem dX0_readPair_94 : decode cX0_readPair 94 = .ok (.getfield 75, 3) := by decide +kernel
theorem dX0_readPair_97 : decode cX0_readPair 97 = .ok (.iaload, 1) := by decide +kernel
theorem dX0_readPair_98 : decode cX0_readPair 98 = .ok (.if_icmp .gt 5, 3) := by decide +kernel
theorem dX0_readPair_101 : decode cX0_readPair 101 = .ok (.iconst 0, 1) := by decide +kernel
theorem dX0_readPair_102 : decode cX0_readPair 102 = .ok (.ireturn, 1) := by decide +kernel
theorem dX0_readPair_103 : decode cX0_readPair 103 = .ok (.aload_n 0, 1) := by decide +kernel
theorem dX0_readPair_104 : decode cX0_readPair 104 = .ok (.getfield 12, 3) := by decide +kernel
theorem dX0_readPair_107 : decode cX0_readPair 107 = .ok (.iload_n 1, 1) := by decide +kernel
theorem dX0_readPair_108 : decode cX0_readPair 108 = .ok (.iload_n 2, 1) := by decide +kernel
theorem dX0_readPair_109 : decode cX0_readPair 109 = .ok (.invokevirtual 81, 3) := by decide +kernel
theorem dX0_readPair_112 : decode cX0_readPair 112 = .ok (.iconst 1, 1) := by decide +kernel
theorem dX0_readPair_113 : decode cX0_readPair 113 = .ok (.ireturn, 1) := by decide +kernel
theorem dX0_readCold_0 : decode cX0_readCold 0 = .ok (.aload_n 0, 1) := by decide +kernel
theorem dX0_readCold_1 : decode cX0_readCold 1 = .ok (.dup, 1) := by decide +kernel
theorem dX0_readCold_2 : decode cX0_readCold 2 = .ok (.getfield 27, 3) := by decide +kernel
theorem dX0_readCold_5 : decode cX0_readCold 5 = .ok (.iconst 1, 1) := by decide +kernel
theorem dX0_readCold_6 : decode cX0_readCold 6 = .ok (.iadd, 1) := by decide +kernel
theorem dX0_readCold_7 : decode cX0_readCold 7 = .ok (.putfield 27, 3) := by decide +kernel
theorem dX0_readCold_10 : decode cX0_readCold 10 = .ok (.aload_n 0, 1) := by decide +kernel
theorem dX0_readCold_11 : decode cX0_readCold 11 = .ok (.invokevirtual 37, 3) := by decide +kernel
theorem dX0_readCold_14 : decode cX0_readCold 14 = .ok (.bipush 45, 2) := by decide +kernel
theorem dX0_readCold_16 : decode cX0_readCold 16 = .ok (.if_icmp .ne 7, 3) := by decide +kernel
theorem dX0_readCold_19 : decode cX0_readCold 19 = .ok (.iconst 1, 1) := by decide +kernel
theorem dX0_readCold_20 : decode cX0_readCold 20 = .ok (.goto 4, 3) := by decide +kernel
theorem dX0_readCold_23 : decode cX0_readCold 23 = .ok (.iconst 0, 1) := by decide +kernel
theorem dX0_readCold_24 : decode cX0_readCold 24 = .ok (.istore_n 1, 1) := by decide +kernel
theorem dX0_readCold_25 : decode cX0_readCold 25 = .ok (.iload_n 1, 1) := by decide +kernel
theorem dX0_readCold_26 : decode cX0_readCold 26 = .ok (.ifCond .eq 13, 3) := by decide +kernel
theorem dX0_readCold_29 : decode cX0_readCold 29 = .ok (.aload_n 0, 1) := by decide +kernel
theorem dX0_readCold_30 : decode cX0_readCold 30 = .ok (.dup, 1) := by decide +kernel
theorem dX0_readCold_31 : decode cX0_readCold 31 = .ok (.getfield 27, 3) := by decide +kernel
theorem dX0_readCold_34 : decode cX0_readCold 34 = .ok (.iconst 1, 1) := by decide +kernel
theorem dX0_readCold_35 : decode cX0_readCold 35 = .ok (.iadd, 1) := by decide +kernel
theorem dX0_readCold_36 : decode cX0_readCold 36 = .ok (.putfield 27, 3) := by decide +kernel
theorem dX0_readCold_39 : decode cX0_readCold 39 = .ok (.aload_n 0, 1) := by decide +kernel
theorem dX0_readCold_40 : decode cX0_readCold 40 = .ok (.iconst 2, 1) := by decide +kernel
theorem dX0_readCold_41 : decode cX0_readCold 41 = .ok (.invokevirtual 68, 3) := by decide +kernel
theorem dX0_readCold_44 : decode cX0_readCold 44 = .ok (.istore_n 2, 1) := by decide +kernel
theorem dX0_readCold_45 : decode cX0_readCold 45 = .ok (.iload_n 2, 1) := by decide +kernel
theorem dX0_readCold_46 : decode cX0_readCold 46 = .ok (.ifCond .ge 5, 3) := by decide +kernel
theorem dX0_readCold_49 : decode cX0_readCold 49 = .ok (.iconst 0, 1) := by decide +kernel
theorem dX0_readCold_50 : decode cX0_readCold 50 = .ok (.ireturn, 1) := by decide +kernel
theorem dX0_readCold_51 : decode cX0_readCold 51 = .ok (.aload_n 0, 1) := by decide +kernel
theorem dX0_readCold_52 : decode cX0_readCold 52 = .ok (.getfield 12, 3) := by decide +kernel
theorem dX0_readCold_55 : decode cX0_readCold 55 = .ok (.iload_n 1, 1) := by decide +kernel
theorem dX0_readCold_56 : decode cX0_readCold 56 = .ok (.ifCond .eq 8, 3) := by decide +kernel
theorem dX0_readCold_59 : decode cX0_readCold 59 = .ok (.iload_n 2, 1) := by decide +kernel
theorem dX0_readCold_60 : decode cX0_readCold 60 = .ok (.ineg, 1) := by decide +kernel
theorem dX0_readCold_61 : decode cX0_readCold 61 = .ok (.goto 4, 3) := by decide +kernel
theorem dX0_readCold_64 : decode cX0_readCold 64 = .ok (.iload_n 2, 1) := by decide +kernel
theorem dX0_readCold_65 : decode cX0_readCold 65 = .ok (.putfield 85, 3) := by decide +kernel
theorem dX0_readCold_68 : decode cX0_readCold 68 = .ok (.iconst 1, 1) := by decide +kernel
theorem dX0_readCold_69 : decode cX0_readCold 69 = .ok (.ireturn, 1) := by decide +kernel
theorem dX0_readPlain_0 : decode cX0_readPlain 0 = .ok (.aload_n 0, 1) := by decide +kernel
theorem dX0_readPlain_1 : decode cX0_readPlain 1 = .ok (.dup, 1) := by decide +kernel
theorem dX0_readPlain_2 : decode cX0_readPlain 2 = .ok (.getfield 27, 3) := by decide +kernel
theorem dX0_readPlain_5 : decode cX0_readPlain 5 = .ok (.iconst 1, 1) := by decide +kernel
theorem dX0_readPlain_6 : decode cX0_readPlain 6 = .ok (.iadd, 1) := by decide +kernel
theorem dX0_readPlain_7 : decode cX0_readPlain 7 = .ok (.putfield 27, 3) := by decide +kernel
theorem dX0_readPlain_10 : decode cX0_readPlain 10 = .ok (.aload_n 0, 1) := by decide +kernel
theorem dX0_readPlain_11 : decode cX0_readPlain 11 = .ok (.iconst 2, 1) := by decide +kernel
theorem dX0_readPlain_12 : decode cX0_readPlain 12 = .ok (.invokevirtual 68, 3) := by decide +kernel
theorem dX0_readPlain_15 : decode cX0_readPlain 15 = .ok (.istore_n 2, 1) := by decide +kernel
theorem dX0_readPlain_16 : decode cX0_readPlain 16 = .ok (.iload_n 2, 1) := by decide +kernel
theorem dX0_readPlain_17 : decode cX0_readPlain 17 = .ok (.ifCond .ge 5, 3) := by decide +kernel
theorem dX0_readPlain_20 : decode cX0_readPlain 20 = .ok (.iconst 0, 1) := by decide +kernel
theorem dX0_readPlain_21 : decode cX0_readPlain 21 = .ok (.ireturn, 1) := by decide +kernel
theorem dX0_readPlain_22 : decode cX0_readPlain 22 = .ok (.iload_n 1, 1) := by decide +kernel
theorem dX0_readPlain_23 : decode cX0_readPlain 23 = .ok (.bipush 84, 2) := by decide +kernel
theorem dX0_readPlain_25 : decode cX0_readPlain 25 = .ok (.if_icmp .ne 14, 3) := by decide +kernel
theorem dX0_readPlain_28 : decode cX0_readPlain 28 = .ok (.aload_n 0, 1) := by decide +kernel
theorem dX0_readPlain_29 : decode cX0_readPlain 29 = .ok (.getfield 12, 3) := by decide +kernel
theorem dX0_readPlain_32 : decode cX0_readPlain 32 = .ok (.iload_n 2, 1) := by decide +kernel
theorem dX0_readPlain_33 : decode cX0_readPlain 33 = .ok (.putfield 88, 3) := by decide +kernel
theorem dX0_readPlain_36 : decode cX0_readPlain 36 = .ok (.goto 28, 3) := by decide +kernel
theorem dX0_readPlain_39 : decode cX0_readPlain 39 = .ok (.iload_n 1, 1) := by decide +kernel
theorem dX0_readPlain_40 : decode cX0_readPlain 40 = .ok (.bipush 87, 2) := by decide +kernel
theorem dX0_readPlain_42 : decode cX0_readPlain 42 = .ok (.if_icmp .ne 14, 3) := by decide +kernel
theorem dX0_readPlain_45 : decode cX0_readPlain 45 = .ok (.aload_n 0, 1) := by decide +kernel
theorem dX0_readPlain_46 : decode cX0_readPlain 46 = .ok (.getfield 12, 3) := by decide +kernel
theorem dX0_readPlain_49 : decode cX0_readPlain 49 = .ok (.iload_n 2, 1) := by decide +kernel
theorem dX0_readPlain_50 : decode cX0_readPlain 50 = .ok (.putfield 91, 3) := by decide +kernel
theorem dX0_readPlain_53 : decode cX0_readPlain 53 = .ok (.goto 11, 3) := by decide +kernel
theorem dX0_readPlain_56 : decode cX0_readPlain 56 = .ok (.aload_n 0, 1) := by decide +kernel
theorem dX0_readPlain_57 : decode cX0_readPlain 57 = .ok (.getfield 12, 3) := by decide +kernel
theorem dX0_readPlain_60 : decode cX0_readPlain 60 = .ok (.iload_n 2, 1) := by decide +kernel
theorem dX0_readPlain_61 : decode cX0_readPlain 61 = .ok (.putfield 94, 3) := by decide +kernel
theorem dX0_readPlain_64 : decode cX0_readPlain 64 = .ok (.iconst 1, 1) := by decide +kernel
theorem dX0_readPlain_65 : decode cX0_readPlain 65 = .ok (.ireturn, 1) := by decide +kernel
theorem dX0_number_0 : decode cX0_number 0 = .ok (.iconst (-1), 1) := by decide +kernel
theorem dX0_number_1 : decode cX0_number 1 = .ok (.istore_n 2, 1) := by decide +kernel
theorem dX0_number_2 : decode cX0_number 2 = .ok (.iconst 0, 1) := by decide +kernel
theorem dX0_number_3 : decode cX0_number 3 = .ok (.istore_n 3, 1) := by decide +kernel
theorem dX0_number_4 : decode cX0_number 4 = .ok (.iload_n 3, 1) := by decide +kernel
theorem dX0_number_5 : decode cX0_number 5 = .ok (.iload_n 1, 1) := by decide +kernel
theorem dX0_number_6 : decode cX0_number 6 = .ok (.if_icmp .ge 54, 3) := by decide +kernel
theorem dX0_number_9 : decode cX0_number 9 = .ok (.aload_n 0, 1) := by decide +kernel
theorem dX0_number_10 : decode cX0_number 10 = .ok (.invokevirtual 37, 3) := by decide +kernel
theorem dX0_number_13 : decode cX0_number 13 = .ok (.bipush 48, 2) := by decide +kernel
theorem dX0_number_15 : decode cX0_number 15 = .ok (.if_icmp .lt 45, 3) := by decide +kernel
theorem dX0_number_18 : decode cX0_number 18 = .ok (.aload_n 0, 1) := by decide +kernel
theorem dX0_number_19 : decode cX0_number 19 = .ok (.invokevirtual 37, 3) := by decide +kernel
theorem dX0_number_22 : decode cX0_number 22 = .ok (.bipush 57, 2) := by decide +kernel
theorem dX0_number_24 : decode cX0_number 24 = .ok (.if_icmp .gt 36, 3) := by decide +kernel
theorem dX0_number_27 : decode cX0_number 27 = .ok (.iload_n 2, 1) := by decide +kernel
theorem dX0_number_28 : decode cX0_number 28 = .ok (.iconst 0, 1) := by decide +kernel
theorem dX0_number_29 : decode cX0_number 29 = .ok (.invokestatic 97, 3) := by decide +kernel
theorem dX0_number_32 : decode cX0_number 32 = .ok (.bipush 10, 2) := by decide +kernel
theorem dX0_number_34 : decode cX0_number 34 = .ok (.imul, 1) := by decide +kernel
theorem dX0_number_35 : decode cX0_number 35 = .ok (.aload_n 0, 1) := by decide +kernel
theorem dX0_number_36 : decode cX0_number 36 = .ok (.invokevirtual 37, 3) := by decide +kernel
theorem dX0_number_39 : decode cX0_number 39 = .ok (.iadd, 1) := by decide +kernel
theorem dX0_number_40 : decode cX0_number 40 = .ok (.bipush 48, 2) := by decide +kernel
theorem dX0_number_42 : decode cX0_number 42 = .ok (.isub, 1) := by decide +kernel
theorem dX0_number_43 : decode cX0_number 43 = .ok (.istore_n 2, 1) := by decide +kernel
theorem dX0_number_44 : decode cX0_number 44 = .ok (.aload_n 0, 1) := by decide +kernel
theorem dX0_number_45 : decode cX0_number 45 = .ok (.dup, 1) := by decide +kernel
theorem dX0_number_46 : decode cX0_number 46 = .ok (.getfield 27, 3) := by decide +kernel
theorem dX0_number_49 : decode cX0_number 49 = .ok (.iconst 1, 1) := by decide +kernel
theorem dX0_number_50 : decode cX0_number 50 = .ok (.iadd, 1) := by decide +kernel
theorem dX0_number_51 : decode cX0_number 51 = .ok (.putfield 27, 3) := by decide +kernel
theorem dX0_number_54 : decode cX0_number 54 = .ok (.iinc 3 1, 3) := by decide +kernel
theorem dX0_number_57 : decode cX0_number 57 = .ok (.goto (-53), 3) := by decide +kernel
theorem dX0_number_60 : decode cX0_number 60 = .ok (.iload_n 2, 1) := by decide +kernel
theorem dX0_number_61 : decode cX0_number 61 = .ok (.ireturn, 1) := by decide +kernel
theorem dX1_isMissing_0 : decode cX1_isMissing 0 = .ok (.aload_n 0, 1) := by decide +kernel
theorem dX1_isMissing_1 : decode cX1_isMissing 1 = .ok (.getfield 7, 3) := by decide +kernel
theorem dX1_isMissing_4 : decode cX1_isMissing 4 = .ok (.ifCond .ge 7, 3) := by decide +kernel
theorem dX1_isMissing_7 : decode cX1_isMissing 7 = .ok (.iconst 1, 1) := by decide +kernel
theorem dX1_isMissing_8 : decode cX1_isMissing 8 = .ok (.goto 4, 3) := by decide +kernel
theorem dX1_isMissing_11 : decode cX1_isMissing 11 = .ok (.iconst 0, 1) := by decide +kernel
theorem dX1_isMissing_12 : decode cX1_isMissing 12 = .ok (.ireturn, 1) := by decide +kernel
theorem dX1_has_0 : decode cX1_has 0 = .ok (.iload_n 1, 1) := by decide +kernel
theorem dX1_has_1 : decode cX1_has 1 = .ok (.ifCond .lt 15, 3) := by decide +kernel
theorem dX1_has_4 : decode cX1_has 4 = .ok (.iload_n 1, 1) := by decide +kernel
theorem dX1_has_5 : decode cX1_has 5 = .ok (.aload_n 0, 1) := by decide +kernel
theorem dX1_has_6 : decode cX1_has 6 = .ok (.getfield 7, 3) := by decide +kernel
theorem dX1_has_9 : decode cX1_has 9 = .ok (.if_icmp .ge 7, 3) := by decide +kernel
theorem dX1_has_12 : decode cX1_has 12 = .ok (.iconst 1, 1) := by decide +kernel
theorem dX1_has_13 : decode cX1_has 13 = .ok (.goto 4, 3) := by decide +kernel
theorem dX1_has_16 : decode cX1_has 16 = .ok (.iconst 0, 1) := by decide +kernel
theorem dX1_has_17 : decode cX1_has 17 = .ok (.ireturn, 1) := by decide +kernel
theorem dX1_hasRun_0 : decode cX1_hasRun 0 = .ok (.iload_n 1, 1) := by decide +kernel
theorem dX1_hasRun_1 : decode cX1_hasRun 1 = .ok (.ifCond .lt 25, 3) := by decide +kernel
theorem dX1_hasRun_4 : decode cX1_hasRun 4 = .ok (.iload_n 2, 1) := by decide +kernel
theorem dX1_hasRun_5 : decode cX1_hasRun 5 = .ok (.ifCond .lt 21, 3) := by decide +kernel
theorem dX1_hasRun_8 : decode cX1_hasRun 8 = .ok (.iload_n 1, 1) := by decide +kernel
theorem dX1_hasRun_9 : decode cX1_hasRun 9 = .ok (.i2l, 1) := by decide +kernel
theorem dX1_hasRun_10 : decode cX1_hasRun 10 = .ok (.iload_n 2, 1) := by decide +kernel
theorem dX1_hasRun_11 : decode cX1_hasRun 11 = .ok (.i2l, 1) := by decide +kernel
theorem dX1_hasRun_12 : decode cX1_hasRun 12 = .ok (.ladd, 1) := by decide +kernel
theorem dX1_hasRun_13 : decode cX1_hasRun 13 = .ok (.aload_n 0, 1) := by decide +kernel
theorem dX1_hasRun_14 : decode cX1_hasRun 14 = .ok (.getfield 7, 3) := by decide +kernel
theorem dX1_hasRun_17 : decode cX1_hasRun 17 = .ok (.i2l, 1) := by decide +kernel
theorem dX1_hasRun_18 : decode cX1_hasRun 18 = .ok (.lcmp, 1) := by decide +kernel
theorem dX1_hasRun_19 : decode cX1_hasRun 19 = .ok (.ifCond .gt 7, 3) := by decide +kernel
theorem dX1_hasRun_22 : decode cX1_hasRun 22 = .ok (.iconst 1, 1) := by decide +kernel
theorem dX1_hasRun_23 : decode cX1_hasRun 23 = .ok (.goto 4, 3) := by decide +kernel
theorem dX1_hasRun_26 : decode cX1_hasRun 26 = .ok (.iconst 0, 1) := by decide +kernel
theorem dX1_hasRun_27 : decode cX1_hasRun 27 = .ok (.ireturn, 1) := by decide +kernel
theorem dX1_make_0 : decode cX1_make 0 = .ok (.aload_n 0, 1) := by decide +kernel
theorem dX1_make_1 : decode cX1_make 1 = .ok (.iload_n 1, 1) := by decide +kernel
theorem dX1_make_2 : decode cX1_make 2 = .ok (.aload_n 0, 1) := by decide +kernel
theorem dX1_make_3 : decode cX1_make 3 = .ok (.getfield 19, 3) := by decide +kernel
theorem dX1_make_6 : decode cX1_make 6 = .ok (.arraylength, 1) := by decide +kernel
theorem dX1_make_7 : decode cX1_make 7 = .ok (.invokestatic 23, 3) := by decide +kernel
theorem dX1_make_10 : decode cX1_make 10 = .ok (.putfield 7, 3) := by decide +kernel
theorem dX1_make_13 : decode cX1_make 13 = .ok (.iconst 0, 1) := by decide +kernel
theorem dX1_make_14 : decode cX1_make 14 = .ok (.istore_n 3, 1) := by decide +kernel
theorem dX1_make_15 : decode cX1_make 15 = .ok (.iload_n 3, 1) := by decide +kernel
theorem dX1_make_16 : decode cX1_make 16 = .ok (.aload_n 0, 1) := by decide +kernel
theorem dX1_make_17 : decode cX1_make 17 = .ok (.getfield 7, 3) := by decide +kernel
theorem dX1_make_20 : decode cX1_make 20 = .ok (.if_icmp .ge 16, 3) := by decide +kernel
theorem dX1_make_23 : decode cX1_make 23 = .ok (.aload_n 0, 1) := by decide +kernel
theorem dX1_make_24 : decode cX1_make 24 = .ok (.getfield 19, 3) := by decide +kernel
theorem dX1_make_27 : decode cX1_make 27 = .ok (.iload_n 3, 1) := by decide +kernel
theorem dX1_make_28 : decode cX1_make 28 = .ok (.iload_n 2, 1) := by decide +kernel
theorem dX1_make_29 : decode cX1_make 29 = .ok (.iastore, 1) := by decide +kernel
theorem dX1_make_30 : decode cX1_make 30 = .ok (.iinc 3 1, 3) := by decide +kernel
theorem dX1_make_33 : decode cX1_make 33 = .ok (.goto (-18), 3) := by decide +kernel
theorem dX1_make_36 : decode cX1_make 36 = .ok (.return_, 1) := by decide +kernel
theorem dX1_mixInto_0 : decode cX1_mixInto 0 = .ok (.lload_n 1, 1) := by decide +kernel
theorem dX1_mixInto_1 : decode cX1_mixInto 1 = .ok (.aload_n 0, 1) := by decide +kernel
theorem dX1_mixInto_2 : decode cX1_mixInto 2 = .ok (.getfield 7, 3) := by decide +kernel
theorem dX1_mixInto_5 : decode cX1_mixInto 5 = .ok (.i2l, 1) := by decide +kernel
theorem dX1_mixInto_6 : decode cX1_mixInto 6 = .ok (.invokestatic 26, 3) := by decide +kernel
theorem dX1_mixInto_9 : decode cX1_mixInto 9 = .ok (.lstore_n 3, 1) := by decide +kernel
theorem dX1_mixInto_10 : decode cX1_mixInto 10 = .ok (.iconst 0, 1) := by decide +kernel
theorem dX1_mixInto_11 : decode cX1_mixInto 11 = .ok (.istore 5, 2) := by decide +kernel
theorem dX1_mixInto_13 : decode cX1_mixInto 13 = .ok (.iload 5, 2) := by decide +kernel
theorem dX1_mixInto_15 : decode cX1_mixInto 15 = .ok (.aload_n 0, 1) := by decide +kernel
theorem dX1_mixInto_16 : decode cX1_mixInto 16 = .ok (.getfield 7, 3) := by decide +kernel
theorem dX1_mixInto_19 : decode cX1_mixInto 19 = .ok (.if_icmp .ge 22, 3) := by decide +kernel
theorem dX1_mixInto_22 : decode cX1_mixInto 22 = .ok (.lload_n 3, 1) := by decide +kernel
theorem dX1_mixInto_23 : decode cX1_mixInto 23 = .ok (.aload_n 0, 1) := by decide +kernel
theorem dX1_mixInto_24 : decode cX1_mixInto 24 = .ok (.getfield 19, 3) := by decide +kernel
theorem dX1_mixInto_27 : decode cX1_mixInto 27 = .ok (.iload 5, 2) := by decide +kernel
theorem dX1_mixInto_29 : decode cX1_mixInto 29 = .ok (.iaload, 1) := by decide +kernel
theorem dX1_mixInto_30 : decode cX1_mixInto 30 = .ok (.i2l, 1) := by decide +kernel
theorem dX1_mixInto_31 : decode cX1_mixInto 31 = .ok (.invokestatic 26, 3) := by decide +kernel
theorem dX1_mixInto_34 : decode cX1_mixInto 34 = .ok (.lstore_n 3, 1) := by decide +kernel
theorem dX1_mixInto_35 : decode cX1_mixInto 35 = .ok (.iinc 5 1, 3) := by decide +kernel
theorem dX1_mixInto_38 : decode cX1_mixInto 38 = .ok (.goto (-25), 3) := by decide +kernel
theorem dX1_mixInto_41 : decode cX1_mixInto 41 = .ok (.lload_n 3, 1) := by decide +kernel
theorem dX1_mixInto_42 : decode cX1_mixInto 42 = .ok (.lreturn, 1) := by decide +kernel
theorem dX2_isMissing_0 : decode cX2_isMissing 0 = .ok (.aload_n 0, 1) := by decide +kernel
theorem dX2_isMissing_1 : decode cX2_isMissing 1 = .ok (.getfield 9, 3) := by decide +kernel
theorem dX2_isMissing_4 : decode cX2_isMissing 4 = .ok (.ifCond .ge 7, 3) := by decide +kernel
theorem dX2_isMissing_7 : decode cX2_isMissing 7 = .ok (.iconst 1, 1) := by decide +kernel
theorem dX2_isMissing_8 : decode cX2_isMissing 8 = .ok (.goto 4, 3) := by decide +kernel
theorem dX2_isMissing_11 : decode cX2_isMissing 11 = .ok (.iconst 0, 1) := by decide +kernel
theorem dX2_isMissing_12 : decode cX2_isMissing 12 = .ok (.ireturn, 1) := by decide +kernel
theorem dX2_is_0 : decode cX2_is 0 = .ok (.iload_n 1, 1) := by decide +kernel
theorem dX2_is_1 : decode cX2_is 1 = .ok (.iconst 3, 1) := by decide +kernel
theorem dX2_is_2 : decode cX2_is 2 = .ok (.if_icmp .eq 8, 3) := by decide +kernel
theorem dX2_is_5 : decode cX2_is 5 = .ok (.iload_n 1, 1) := by decide +kernel
theorem dX2_is_6 : decode cX2_is 6 = .ok (.iconst 4, 1) := by decide +kernel
theorem dX2_is_7 : decode cX2_is 7 = .ok (.if_icmp .ne 17, 3) := by decide +kernel
theorem dX2_is_10 : decode cX2_is 10 = .ok (.aload_n 0, 1) := by decide +kernel
theorem dX2_is_11 : decode cX2_is 11 = .ok (.getfield 9, 3) := by decide +kernel
theorem dX2_is_14 : decode cX2_is 14 = .ok (.iload_n 1, 1) := by decide +kernel
theorem dX2_is_15 : decode cX2_is 15 = .ok (.if_icmp .ne 7, 3) := by decide +kernel
theorem dX2_is_18 : decode cX2_is 18 = .ok (.iconst 1, 1) := by decide +kernel
theorem dX2_is_19 : decode cX2_is 19 = .ok (.goto 4, 3) := by decide +kernel
theorem dX2_is_22 : decode cX2_is 22 = .ok (.iconst 0, 1) := by decide +kernel
theorem dX2_is_23 : decode cX2_is 23 = .ok (.ireturn, 1) := by decide +kernel
theorem dX2_is_24 : decode cX2_is 24 = .ok (.aload_n 0, 1) := by decide +kernel
theorem dX2_is_25 : decode cX2_is 25 = .ok (.getfield 9, 3) := by decide +kernel
theorem dX2_is_28 : decode cX2_is 28 = .ok (.iload_n 1, 1) := by decide +kernel
theorem dX2_is_29 : decode cX2_is 29 = .ok (.if_icmp .lt 7, 3) := by decide +kernel
theorem dX2_is_32 : decode cX2_is 32 = .ok (.iconst 1, 1) := by decide +kernel
theorem dX2_is_33 : decode cX2_is 33 = .ok (.goto 4, 3) := by decide +kernel
theorem dX2_is_36 : decode cX2_is 36 = .ok (.iconst 0, 1) := by decide +kernel
theorem dX2_is_37 : decode cX2_is 37 = .ok (.ireturn, 1) := by decide +kernel
theorem dX2_become_0 : decode cX2_become 0 = .ok (.aload_n 0, 1) := by decide +kernel
theorem dX2_become_1 : decode cX2_become 1 = .ok (.iload_n 1, 1) := by decide +kernel
theorem dX2_become_2 : decode cX2_become 2 = .ok (.putfield 9, 3) := by decide +kernel
theorem dX2_become_5 : decode cX2_become 5 = .ok (.aload_n 0, 1) := by decide +kernel
theorem dX2_become_6 : decode cX2_become 6 = .ok (.iload_n 2, 1) := by decide +kernel
theorem dX2_become_7 : decode cX2_become 7 = .ok (.putfield 15, 3) := by decide +kernel
theorem dX2_become_10 : decode cX2_become 10 = .ok (.aload_n 0, 1) := by decide +kernel
theorem dX2_become_11 : decode cX2_become 11 = .ok (.iload_n 3, 1) := by decide +kernel
theorem dX2_become_12 : decode cX2_become 12 = .ok (.putfield 18, 3) := by decide +kernel
theorem dX2_become_15 : decode cX2_become 15 = .ok (.aload_n 0, 1) := by decide +kernel
theorem dX2_become_16 : decode cX2_become 16 = .ok (.iload_n 3, 1) := by decide +kernel
theorem dX2_become_17 : decode cX2_become 17 = .ok (.putfield 21, 3) := by decide +kernel
theorem dX2_become_20 : decode cX2_become 20 = .ok (.aload_n 0, 1) := by decide +kernel
theorem dX2_become_21 : decode cX2_become 21 = .ok (.iload 4, 2) := by decide +kernel
theorem dX2_become_23 : decode cX2_become 23 = .ok (.putfield 24, 3) := by decide +kernel
theorem dX2_become_26 : decode cX2_become 26 = .ok (.aload_n 0, 1) := by decide +kernel
theorem dX2_become_27 : decode cX2_become 27 = .ok (.iconst 0, 1) := by decide +kernel
theorem dX2_become_28 : decode cX2_become 28 = .ok (.putfield 27, 3) := by decide +kernel
theorem dX2_become_31 : decode cX2_become 31 = .ok (.aload_n 0, 1) := by decide +kernel
theorem dX2_become_32 : decode cX2_become 32 = .ok (.iconst 0, 1) := by decide +kernel
theorem dX2_become_33 : decode cX2_become 33 = .ok (.putfield 30, 3) := by decide +kernel
theorem dX2_become_36 : decode cX2_become 36 = .ok (.return_, 1) := by decide +kernel
theorem dX2_stretchedHeight_0 : decode cX2_stretchedHeight 0 = .ok (.aload_n 0, 1) := by decide +kernel
theorem dX2_stretchedHeight_1 : decode cX2_stretchedHeight 1 = .ok (.getfield 18, 3) := by decide +kernel
theorem dX2_stretchedHeight_4 : decode cX2_stretchedHeight 4 = .ok (.sipush 200, 3) := by decide +kernel
theorem dX2_stretchedHeight_7 : decode cX2_stretchedHeight 7 = .ok (.aload_n 0, 1) := by decide +kernel
theorem dX2_stretchedHeight_8 : decode cX2_stretchedHeight 8 = .ok (.getfield 27, 3) := by decide +kernel
theorem dX2_stretchedHeight_11 : decode cX2_stretchedHeight 11 = .ok (.isub, 1) := by decide +kernel
theorem dX2_stretchedHeight_12 : decode cX2_stretchedHeight 12 = .ok (.imul, 1) := by decide +kernel
theorem dX2_stretchedHeight_13 : decode cX2_stretchedHeight 13 = .ok (.sipush 200, 3) := by decide +kernel
theorem dX2_stretchedHeight_16 : decode cX2_stretchedHeight 16 = .ok (.idiv, 1) := by decide +kernel
theorem dX2_stretchedHeight_17 : decode cX2_stretchedHeight 17 = .ok (.ireturn, 1) := by decide +kernel
theorem dX2_tells_0 : decode cX2_tells 0 = .ok (.iload_n 1, 1) := by decide +kernel
theorem dX2_tells_1 : decode cX2_tells 1 = .ok (.tableswitch 42 0 2 #[27, 32, 37], 27) := by decide +kernel
theorem dX2_tells_28 : decode cX2_tells 28 = .ok (.aload_n 0, 1) := by decide +kernel
theorem dX2_tells_29 : decode cX2_tells 29 = .ok (.getfield 9, 3) := by decide +kernel
theorem dX2_tells_32 : decode cX2_tells 32 = .ok (.ireturn, 1) := by decide +kernel
theorem dX2_tells_33 : decode cX2_tells 33 = .ok (.aload_n 0, 1) := by decide +kernel
theorem dX2_tells_34 : decode cX2_tells 34 = .ok (.getfield 21, 3) := by decide +kernel
theorem dX2_tells_37 : decode cX2_tells 37 = .ok (.ireturn, 1) := by decide +kernel
theorem dX2_tells_38 : decode cX2_tells 38 = .ok (.aload_n 0, 1) := by decide +kernel
theorem dX2_tells_39 : decode cX2_tells 39 = .ok (.getfield 18, 3) := by decide +kernel
theorem dX2_tells_42 : decode cX2_tells 42 = .ok (.ireturn, 1) := by decide +kernel
theorem dX2_tells_43 : decode cX2_tells 43 = .ok (.aload_n 0, 1) := by decide +kernel
theorem dX2_tells_44 : decode cX2_tells 44 = .ok (.getfield 24, 3) := by decide +kernel
theorem dX2_tells_47 : decode cX2_tells 47 = .ok (.ireturn, 1) := by decide +kernel
theorem dX2_tellsAs_0 : decode cX2_tellsAs 0 = .ok (.iload_n 1, 1) := by decide +kernel
theorem dX2_tellsAs_1 : decode cX2_tellsAs 1 = .ok (.iconst 1, 1) := by decide +kernel
theorem dX2_tellsAs_2 : decode cX2_tellsAs 2 = .ok (.if_icmp .ne 8, 3) := by decide +kernel
theorem dX2_tellsAs_5 : decode cX2_tellsAs 5 = .ok (.aload_n 0, 1) := by decide +kernel
theorem dX2_tellsAs_6 : decode cX2_tellsAs 6 = .ok (.getfield 15, 3) := by decide +kernel
theorem dX2_tellsAs_9 : decode cX2_tellsAs 9 = .ok (.ireturn, 1) := by decide +kernel
theorem dX2_tellsAs_10 : decode cX2_tellsAs 10 = .ok (.iload_n 1, 1) := by decide +kernel
theorem dX2_tellsAs_11 : decode cX2_tellsAs 11 = .ok (.iconst 2, 1) := by decide +kernel
theorem dX2_tellsAs_12 : decode cX2_tellsAs 12 = .ok (.if_icmp .ne 10, 3) := by decide +kernel
theorem dX2_tellsAs_15 : decode cX2_tellsAs 15 = .ok (.aload_n 0, 1) := by decide +kernel
theorem dX2_tellsAs_16 : decode cX2_tellsAs 16 = .ok (.getfield 27, 3) := by decide +kernel
theorem dX2_tellsAs_19 : decode cX2_tellsAs 19 = .ok (.goto 7, 3) := by decide +kernel
theorem dX2_tellsAs_22 : decode cX2_tellsAs 22 = .ok (.aload_n 0, 1) := by decide +kernel
theorem dX2_tellsAs_23 : decode cX2_tellsAs 23 = .ok (.getfield 30, 3) := by decide +kernel
theorem dX2_tellsAs_26 : decode cX2_tellsAs 26 = .ok (.ireturn, 1) := by decide +kernel
theorem dX2_mixInto_0 : decode cX2_mixInto 0 = .ok (.aload_n 0, 1) := by decide +kernel
theorem dX2_mixInto_1 : decode cX2_mixInto 1 = .ok (.invokevirtual 33, 3) := by decide +kernel
theorem dX2_mixInto_4 : decode cX2_mixInto 4 = .ok (.ifCond .eq 11, 3) := by decide +kernel
theorem dX2_mixInto_7 : decode cX2_mixInto 7 = .ok (.lload_n 1, 1) := by decide +kernel
theorem dX2_mixInto_8 : decode cX2_mixInto 8 = .ok (.ldc2_w 37, 3) := by decide +kernel
theorem dX2_mixInto_11 : decode cX2_mixInto 11 = .ok (.invokestatic 39, 3) := by decide +kernel
theorem dX2_mixInto_14 : decode cX2_mixInto 14 = .ok (.lreturn, 1) := by decide +kernel
theorem dX2_mixInto_15 : decode cX2_mixInto 15 = .ok (.lload_n 1, 1) := by decide +kernel
theorem dX2_mixInto_16 : decode cX2_mixInto 16 = .ok (.lstore_n 3, 1) := by decide +kernel
theorem dX2_mixInto_17 : decode cX2_mixInto 17 = .ok (.iconst 0, 1) := by decide +kernel
theorem dX2_mixInto_18 : decode cX2_mixInto 18 = .ok (.istore 5, 2) := by decide +kernel
theorem dX2_mixInto_20 : decode cX2_mixInto 20 = .ok (.iload 5, 2) := by decide +kernel
theorem dX2_mixInto_22 : decode cX2_mixInto 22 = .ok (.iconst 3, 1) := by decide +kernel
theorem dX2_mixInto_23 : decode cX2_mixInto 23 = .ok (.if_icmp .gt 21, 3) := by decide +kernel
theorem dX2_mixInto_26 : decode cX2_mixInto 26 = .ok (.lload_n 3, 1) := by decide +kernel
theorem dX2_mixInto_27 : decode cX2_mixInto 27 = .ok (.aload_n 0, 1) := by decide +kernel
theorem dX2_mixInto_28 : decode cX2_mixInto 28 = .ok (.iload 5, 2) := by decide +kernel
theorem dX2_mixInto_30 : decode cX2_mixInto 30 = .ok (.invokevirtual 43, 3) := by decide +kernel
theorem dX2_mixInto_33 : decode cX2_mixInto 33 = .ok (.i2l, 1) := by decide +kernel
theorem dX2_mixInto_34 : decode cX2_mixInto 34 = .ok (.invokestatic 39, 3) := by decide +kernel
theorem dX2_mixInto_37 : decode cX2_mixInto 37 = .ok (.lstore_n 3, 1) := by decide +kernel
theorem dX2_mixInto_38 : decode cX2_mixInto 38 = .ok (.iinc 5 1, 3) := by decide +kernel
theorem dX2_mixInto_41 : decode cX2_mixInto 41 = .ok (.goto (-21), 3) := by decide +kernel
theorem dX2_mixInto_44 : decode cX2_mixInto 44 = .ok (.lload_n 3, 1) := by decide +kernel
theorem dX2_mixInto_45 : decode cX2_mixInto 45 = .ok (.aload_n 0, 1) := by decide +kernel
theorem dX2_mixInto_46 : decode cX2_mixInto 46 = .ok (.iconst 1, 1) := by decide +kernel
theorem dX2_mixInto_47 : decode cX2_mixInto 47 = .ok (.invokevirtual 47, 3) := by decide +kernel
theorem dX2_mixInto_50 : decode cX2_mixInto 50 = .ok (.ifCond .eq 11, 3) := by decide +kernel
theorem dX2_mixInto_53 : decode cX2_mixInto 53 = .ok (.aload_n 0, 1) := by decide +kernel
theorem dX2_mixInto_54 : decode cX2_mixInto 54 = .ok (.getfield 15, 3) := by decide +kernel
theorem dX2_mixInto_57 : decode cX2_mixInto 57 = .ok (.i2l, 1) := by decide +kernel
theorem dX2_mixInto_58 : decode cX2_mixInto 58 = .ok (.goto 6, 3) := by decide +kernel
theorem dX2_mixInto_61 : decode cX2_mixInto 61 = .ok (.ldc2_w 37, 3) := by decide +kernel
theorem dX2_mixInto_64 : decode cX2_mixInto 64 = .ok (.invokestatic 39, 3) := by decide +kernel
theorem dX2_mixInto_67 : decode cX2_mixInto 67 = .ok (.lstore_n 3, 1) := by decide +kernel
theorem dX2_mixInto_68 : decode cX2_mixInto 68 = .ok (.lload_n 3, 1) := by decide +kernel
theorem dX2_mixInto_69 : decode cX2_mixInto 69 = .ok (.aload_n 0, 1) := by decide +kernel
theorem dX2_mixInto_70 : decode cX2_mixInto 70 = .ok (.iconst 2, 1) := by decide +kernel
theorem dX2_mixInto_71 : decode cX2_mixInto 71 = .ok (.invokevirtual 47, 3) := by decide +kernel
theorem dX2_mixInto_74 : decode cX2_mixInto 74 = .ok (.ifCond .eq 11, 3) := by decide +kernel
theorem dX2_mixInto_77 : decode cX2_mixInto 77 = .ok (.aload_n 0, 1) := by decide +kernel
theorem dX2_mixInto_78 : decode cX2_mixInto 78 = .ok (.getfield 27, 3) := by decide +kernel
theorem dX2_mixInto_81 : decode cX2_mixInto 81 = .ok (.i2l, 1) := by decide +kernel
theorem dX2_mixInto_82 : decode cX2_mixInto 82 = .ok (.goto 6, 3) := by decide +kernel
theorem dX2_mixInto_85 : decode cX2_mixInto 85 = .ok (.ldc2_w 37, 3) := by decide +kernel
theorem dX2_mixInto_88 : decode cX2_mixInto 88 = .ok (.invokestatic 39, 3) := by decide +kernel
theorem dX2_mixInto_91 : decode cX2_mixInto 91 = .ok (.lreturn, 1) := by decide +kernel
theorem dX3_isMissing_0 : decode cX3_isMissing 0 = .ok (.aload_n 0, 1) := by decide +kernel
theorem dX3_isMissing_1 : decode cX3_isMissing 1 = .ok (.getfield 18, 3) := by decide +kernel
theorem dX3_isMissing_4 : decode cX3_isMissing 4 = .ok (.ifCond .ne 7, 3) := by decide +kernel
theorem dX3_isMissing_7 : decode cX3_isMissing 7 = .ok (.iconst 1, 1) := by decide +kernel
theorem dX3_isMissing_8 : decode cX3_isMissing 8 = .ok (.goto 4, 3) := by decide +kernel
theorem dX3_isMissing_11 : decode cX3_isMissing 11 = .ok (.iconst 0, 1) := by decide +kernel
theorem dX3_isMissing_12 : decode cX3_isMissing 12 = .ok (.ireturn, 1) := by decide +kernel
theorem dX3_clear_0 : decode cX3_clear 0 = .ok (.aload_n 0, 1) := by decide +kernel
theorem dX3_clear_1 : decode cX3_clear 1 = .ok (.iconst 0, 1) := by decide +kernel
theorem dX3_clear_2 : decode cX3_clear 2 = .ok (.putfield 18, 3) := by decide +kernel
theorem dX3_clear_5 : decode cX3_clear 5 = .ok (.aload_n 0, 1) := by decide +kernel
theorem dX3_clear_6 : decode cX3_clear 6 = .ok (.iconst 0, 1) := by decide +kernel
theorem dX3_clear_7 : decode cX3_clear 7 = .ok (.putfield 22, 3) := by decide +kernel
theorem dX3_clear_10 : decode cX3_clear 10 = .ok (.aload_n 0, 1) := by decide +kernel
theorem dX3_clear_11 : decode cX3_clear 11 = .ok (.bipush (-99), 2) := by decide +kernel
theorem dX3_clear_13 : decode cX3_clear 13 = .ok (.putfield 25, 3) := by decide +kernel
theorem dX3_clear_16 : decode cX3_clear 16 = .ok (.aload_n 0, 1) := by decide +kernel
theorem dX3_clear_17 : decode cX3_clear 17 = .ok (.iconst 0, 1) := by decide +kernel
theorem dX3_clear_18 : decode cX3_clear 18 = .ok (.putfield 28, 3) := by decide +kernel
theorem dX3_clear_21 : decode cX3_clear 21 = .ok (.aload_n 0, 1) := by decide +kernel
theorem dX3_clear_22 : decode cX3_clear 22 = .ok (.iconst 0, 1) := by decide +kernel
theorem dX3_clear_23 : decode cX3_clear 23 = .ok (.putfield 31, 3) := by decide +kernel
theorem dX3_clear_26 : decode cX3_clear 26 = .ok (.return_, 1) := by decide +kernel
theorem dX3_become_0 : decode cX3_become 0 = .ok (.iconst 0, 1) := by decide +kernel
theorem dX3_become_1 : decode cX3_become 1 = .ok (.istore_n 2, 1) := by decide +kernel
theorem dX3_become_2 : decode cX3_become 2 = .ok (.iload_n 2, 1) := by decide +kernel
theorem dX3_become_3 : decode cX3_become 3 = .ok (.iconst 4, 1) := by decide +kernel
theorem dX3_become_4 : decode cX3_become 4 = .ok (.if_icmp .gt 33, 3) := by decide +kernel
theorem dX3_become_7 : decode cX3_become 7 = .ok (.aload_n 0, 1) := by decide +kernel
theorem dX3_become_8 : decode cX3_become 8 = .ok (.getfield 9, 3) := by decide +kernel
theorem dX3_become_11 : decode cX3_become 11 = .ok (.iload_n 2, 1) := by decide +kernel
theorem dX3_become_12 : decode cX3_become 12 = .ok (.aload_n 1, 1) := by decide +kernel
theorem dX3_become_13 : decode cX3_become 13 = .ok (.getfield 9, 3) := by decide +kernel
theorem dX3_become_16 : decode cX3_become 16 = .ok (.iload_n 2, 1) := by decide +kernel
theorem dX3_become_17 : decode cX3_become 17 = .ok (.iaload, 1) := by decide +kernel
theorem dX3_become_18 : decode cX3_become 18 = .ok (.iastore, 1) := by decide +kernel
theorem dX3_become_19 : decode cX3_become 19 = .ok (.aload_n 0, 1) := by decide +kernel
theorem dX3_become_20 : decode cX3_become 20 = .ok (.getfield 15, 3) := by decide +kernel
theorem dX3_become_23 : decode cX3_become 23 = .ok (.iload_n 2, 1) := by decide +kernel
theorem dX3_become_24 : decode cX3_become 24 = .ok (.aload_n 1, 1) := by decide +kernel
theorem dX3_become_25 : decode cX3_become 25 = .ok (.getfield 15, 3) := by decide +kernel
theorem dX3_become_28 : decode cX3_become 28 = .ok (.iload_n 2, 1) := by decide +kernel
theorem dX3_become_29 : decode cX3_become 29 = .ok (.iaload, 1) := by decide +kernel
theorem dX3_become_30 : decode cX3_become 30 = .ok (.iastore, 1) := by decide +kernel
theorem dX3_become_31 : decode cX3_become 31 = .ok (.iinc 2 1, 3) := by decide +kernel
theorem dX3_become_34 : decode cX3_become 34 = .ok (.goto (-32), 3) := by decide +kernel
theorem dX3_become_37 : decode cX3_become 37 = .ok (.aload_n 0, 1) := by decide +kernel
theorem dX3_become_38 : decode cX3_become 38 = .ok (.aload_n 1, 1) := by decide +kernel
theorem dX3_become_39 : decode cX3_become 39 = .ok (.getfield 18, 3) := by decide +kernel
theorem dX3_become_42 : decode cX3_become 42 = .ok (.putfield 18, 3) := by decide +kernel
theorem dX3_become_45 : decode cX3_become 45 = .ok (.aload_n 0, 1) := by decide +kernel
theorem dX3_become_46 : decode cX3_become 46 = .ok (.aload_n 1, 1) := by decide +kernel
theorem dX3_become_47 : decode cX3_become 47 = .ok (.getfield 22, 3) := by decide +kernel
theorem dX3_become_50 : decode cX3_become 50 = .ok (.putfield 22, 3) := by decide +kernel
theorem dX3_become_53 : decode cX3_become 53 = .ok (.aload_n 0, 1) := by decide +kernel
theorem dX3_become_54 : decode cX3_become 54 = .ok (.aload_n 1, 1) := by decide +kernel
theorem dX3_become_55 : decode cX3_become 55 = .ok (.getfield 25, 3) := by decide +kernel
theorem dX3_become_58 : decode cX3_become 58 = .ok (.putfield 25, 3) := by decide +kernel
theorem dX3_become_61 : decode cX3_become 61 = .ok (.aload_n 0, 1) := by decide +kernel
theorem dX3_become_62 : decode cX3_become 62 = .ok (.aload_n 1, 1) := by decide +kernel
theorem dX3_become_63 : decode cX3_become 63 = .ok (.getfield 28, 3) := by decide +kernel
theorem dX3_become_66 : decode cX3_become 66 = .ok (.putfield 28, 3) := by decide +kernel
theorem dX3_become_69 : decode cX3_become 69 = .ok (.aload_n 0, 1) := by decide +kernel
theorem dX3_become_70 : decode cX3_become 70 = .ok (.aload_n 1, 1) := by decide +kernel
theorem dX3_become_71 : decode cX3_become 71 = .ok (.getfield 31, 3) := by decide +kernel
theorem dX3_become_74 : decode cX3_become 74 = .ok (.putfield 31, 3) := by decide +kernel
theorem dX3_become_77 : decode cX3_become 77 = .ok (.return_, 1) := by decide +kernel
theorem dX3_isFull_0 : decode cX3_isFull 0 = .ok (.aload_n 0, 1) := by decide +kernel
theorem dX3_isFull_1 : decode cX3_isFull 1 = .ok (.getfield 18, 3) := by decide +kernel
theorem dX3_isFull_4 : decode cX3_isFull 4 = .ok (.iconst 4, 1) := by decide +kernel
theorem dX3_isFull_5 : decode cX3_isFull 5 = .ok (.if_icmp .lt 7, 3) := by decide +kernel
theorem dX3_isFull_8 : decode cX3_isFull 8 = .ok (.iconst 1, 1) := by decide +kernel
theorem dX3_isFull_9 : decode cX3_isFull 9 = .ok (.goto 4, 3) := by decide +kernel
theorem dX3_isFull_12 : decode cX3_isFull 12 = .ok (.iconst 0, 1) := by decide +kernel
theorem dX3_isFull_13 : decode cX3_isFull 13 = .ok (.ireturn, 1) := by decide +kernel
theorem dX3_add_0 : decode cX3_add 0 = .ok (.aload_n 0, 1) := by decide +kernel
theorem dX3_add_1 : decode cX3_add 1 = .ok (.invokevirtual 34, 3) := by decide +kernel
theorem dX3_add_4 : decode cX3_add 4 = .ok (.ifCond .eq 4, 3) := by decide +kernel
theorem dX3_add_7 : decode cX3_add 7 = .ok (.return_, 1) := by decide +kernel
theorem dX3_add_8 : decode cX3_add 8 = .ok (.aload_n 0, 1) := by decide +kernel
theorem dX3_add_9 : decode cX3_add 9 = .ok (.dup, 1) := by decide +kernel
theorem dX3_add_10 : decode cX3_add 10 = .ok (.getfield 18, 3) := by decide +kernel
theorem dX3_add_13 : decode cX3_add 13 = .ok (.iconst 1, 1) := by decide +kernel
theorem dX3_add_14 : decode cX3_add 14 = .ok (.iadd, 1) := by decide +kernel
theorem dX3_add_15 : decode cX3_add 15 = .ok (.putfield 18, 3) := by decide +kernel
theorem dX3_add_18 : decode cX3_add 18 = .ok (.aload_n 0, 1) := by decide +kernel
theorem dX3_add_19 : decode cX3_add 19 = .ok (.getfield 9, 3) := by decide +kernel
theorem dX3_add_22 : decode cX3_add 22 = .ok (.aload_n 0, 1) := by decide +kernel
theorem dX3_add_23 : decode cX3_add 23 = .ok (.getfield 18, 3) := by decide +kernel
theorem dX3_add_26 : decode cX3_add 26 = .ok (.iload_n 1, 1) := by decide +kernel
theorem dX3_add_27 : decode cX3_add 27 = .ok (.iastore, 1) := by decide +kernel
theorem dX3_add_28 : decode cX3_add 28 = .ok (.aload_n 0, 1) := by decide +kernel
theorem dX3_add_29 : decode cX3_add 29 = .ok (.getfield 15, 3) := by decide +kernel
theorem dX3_add_32 : decode cX3_add 32 = .ok (.aload_n 0, 1) := by decide +kernel
theorem dX3_add_33 : decode cX3_add 33 = .ok (.getfield 18, 3) := by decide +kernel
theorem dX3_add_36 : decode cX3_add 36 = .ok (.iload_n 2, 1) := by decide +kernel
theorem dX3_add_37 : decode cX3_add 37 = .ok (.iastore, 1) := by decide +kernel
theorem dX3_add_38 : decode cX3_add 38 = .ok (.return_, 1) := by decide +kernel
theorem dX3_tells_0 : decode cX3_tells 0 = .ok (.iload_n 1, 1) := by decide +kernel
theorem dX3_tells_1 : decode cX3_tells 1 = .ok (.tableswitch 51 0 3 #[31, 36, 41, 46], 31) := by decide +kernel
theorem dX3_tells_32 : decode cX3_tells 32 = .ok (.aload_n 0, 1) := by decide +kernel
theorem dX3_tells_33 : decode cX3_tells 33 = .ok (.getfield 18, 3) := by decide +kernel
theorem dX3_tells_36 : decode cX3_tells 36 = .ok (.ireturn, 1) := by decide +kernel
theorem dX3_tells_37 : decode cX3_tells 37 = .ok (.aload_n 0, 1) := by decide +kernel
theorem dX3_tells_38 : decode cX3_tells 38 = .ok (.getfield 22, 3) := by decide +kernel
theorem dX3_tells_41 : decode cX3_tells 41 = .ok (.ireturn, 1) := by decide +kernel
theorem dX3_tells_42 : decode cX3_tells 42 = .ok (.aload_n 0, 1) := by decide +kernel
theorem dX3_tells_43 : decode cX3_tells 43 = .ok (.getfield 25, 3) := by decide +kernel
theorem dX3_tells_46 : decode cX3_tells 46 = .ok (.ireturn, 1) := by decide +kernel
theorem dX3_tells_47 : decode cX3_tells 47 = .ok (.aload_n 0, 1) := by decide +kernel
theorem dX3_tells_48 : decode cX3_tells 48 = .ok (.getfield 28, 3) := by decide +kernel
theorem dX3_tells_51 : decode cX3_tells 51 = .ok (.ireturn, 1) := by decide +kernel
theorem dX3_tells_52 : decode cX3_tells 52 = .ok (.aload_n 0, 1) := by decide +kernel
theorem dX3_tells_53 : decode cX3_tells 53 = .ok (.getfield 31, 3) := by decide +kernel
theorem dX3_tells_56 : decode cX3_tells 56 = .ok (.ireturn, 1) := by decide +kernel
theorem dX3_pieceAt_0 : decode cX3_pieceAt 0 = .ok (.aload_n 0, 1) := by decide +kernel
theorem dX3_pieceAt_1 : decode cX3_pieceAt 1 = .ok (.getfield 18, 3) := by decide +kernel
theorem dX3_pieceAt_4 : decode cX3_pieceAt 4 = .ok (.iconst 1, 1) := by decide +kernel
theorem dX3_pieceAt_5 : decode cX3_pieceAt 5 = .ok (.isub, 1) := by decide +kernel
theorem dX3_pieceAt_6 : decode cX3_pieceAt 6 = .ok (.istore_n 3, 1) := by decide +kernel
theorem dX3_pieceAt_7 : decode cX3_pieceAt 7 = .ok (.iload_n 3, 1) := by decide +kernel
theorem dX3_pieceAt_8 : decode cX3_pieceAt 8 = .ok (.ifCond .le 23, 3) := by decide +kernel
theorem dX3_pieceAt_11 : decode cX3_pieceAt 11 = .ok (.aload_n 0, 1) := by decide +kernel
theorem dX3_pieceAt_12 : decode cX3_pieceAt 12 = .ok (.getfield 9, 3) := by decide +kernel
theorem dX3_pieceAt_15 : decode cX3_pieceAt 15 = .ok (.iload_n 3, 1) := by decide +kernel
theorem dX3_pieceAt_16 : decode cX3_pieceAt 16 = .ok (.iaload, 1) := by decide +kernel
theorem dX3_pieceAt_17 : decode cX3_pieceAt 17 = .ok (.i2l, 1) := by decide +kernel
theorem dX3_pieceAt_18 : decode cX3_pieceAt 18 = .ok (.lload_n 1, 1) := by decide +kernel
theorem dX3_pieceAt_19 : decode cX3_pieceAt 19 = .ok (.lcmp, 1) := by decide +kernel
theorem dX3_pieceAt_20 : decode cX3_pieceAt 20 = .ok (.ifCond .gt 5, 3) := by decide +kernel
theorem dX3_pieceAt_23 : decode cX3_pieceAt 23 = .ok (.iload_n 3, 1) := by decide +kernel
theorem dX3_pieceAt_24 : decode cX3_pieceAt 24 = .ok (.ireturn, 1) := by decide +kernel
theorem dX3_pieceAt_25 : decode cX3_pieceAt 25 = .ok (.iinc 3 (-1), 3) := by decide +kernel
theorem dX3_pieceAt_28 : decode cX3_pieceAt 28 = .ok (.goto (-21), 3) := by decide +kernel
theorem dX3_pieceAt_31 : decode cX3_pieceAt 31 = .ok (.iconst 0, 1) := by decide +kernel
theorem dX3_pieceAt_32 : decode cX3_pieceAt 32 = .ok (.ireturn, 1) := by decide +kernel
theorem dX3_width_0 : decode cX3_width 0 = .ok (.iload_n 1, 1) := by decide +kernel
theorem dX3_width_1 : decode cX3_width 1 = .ok (.ifCond .lt 8, 3) := by decide +kernel
theorem dX3_width_4 : decode cX3_width 4 = .ok (.iload_n 1, 1) := by decide +kernel
theorem dX3_width_5 : decode cX3_width 5 = .ok (.iconst 4, 1) := by decide +kernel
theorem dX3_width_6 : decode cX3_width 6 = .ok (.if_icmp .lt 7, 3) := by decide +kernel
theorem dX3_width_9 : decode cX3_width 9 = .ok (.iconst 1, 1) := by decide +kernel
theorem dX3_width_10 : decode cX3_width 10 = .ok (.goto 22, 3) := by decide +kernel
theorem dX3_width_13 : decode cX3_width 13 = .ok (.iconst 1, 1) := by decide +kernel
theorem dX3_width_14 : decode cX3_width 14 = .ok (.aload_n 0, 1) := by decide +kernel
theorem dX3_width_15 : decode cX3_width 15 = .ok (.getfield 9, 3) := by decide +kernel
theorem dX3_width_18 : decode cX3_width 18 = .ok (.iload_n 1, 1) := by decide +kernel
theorem dX3_width_19 : decode cX3_width 19 = .ok (.iconst 1, 1) := by decide +kernel
theorem dX3_width_20 : decode cX3_width 20 = .ok (.iadd, 1) := by decide +kernel
theorem dX3_width_21 : decode cX3_width 21 = .ok (.iaload, 1) := by decide +kernel
theorem dX3_width_22 : decode cX3_width 22 = .ok (.aload_n 0, 1) := by decide +kernel
theorem dX3_width_23 : decode cX3_width 23 = .ok (.getfield 9, 3) := by decide +kernel
theorem dX3_width_26 : decode cX3_width 26 = .ok (.iload_n 1, 1) := by decide +kernel
theorem dX3_width_27 : decode cX3_width 27 = .ok (.iaload, 1) := by decide +kernel
theorem dX3_width_28 : decode cX3_width 28 = .ok (.isub, 1) := by decide +kernel
theorem dX3_width_29 : decode cX3_width 29 = .ok (.invokestatic 38, 3) := by decide +kernel
theorem dX3_width_32 : decode cX3_width 32 = .ok (.ireturn, 1) := by decide +kernel
theorem dX3_rise_0 : decode cX3_rise 0 = .ok (.iload_n 1, 1) := by decide +kernel
theorem dX3_rise_1 : decode cX3_rise 1 = .ok (.ifCond .lt 8, 3) := by decide +kernel
theorem dX3_rise_4 : decode cX3_rise 4 = .ok (.iload_n 1, 1) := by decide +kernel
theorem dX3_rise_5 : decode cX3_rise 5 = .ok (.iconst 4, 1) := by decide +kernel
theorem dX3_rise_6 : decode cX3_rise 6 = .ok (.if_icmp .lt 7, 3) := by decide +kernel
theorem dX3_rise_9 : decode cX3_rise 9 = .ok (.iconst 0, 1) := by decide +kernel
theorem dX3_rise_10 : decode cX3_rise 10 = .ok (.goto 18, 3) := by decide +kernel
theorem dX3_rise_13 : decode cX3_rise 13 = .ok (.aload_n 0, 1) := by decide +kernel
theorem dX3_rise_14 : decode cX3_rise 14 = .ok (.getfield 15, 3) := by decide +kernel
theorem dX3_rise_17 : decode cX3_rise 17 = .ok (.iload_n 1, 1) := by decide +kernel
theorem dX3_rise_18 : decode cX3_rise 18 = .ok (.iconst 1, 1) := by decide +kernel
theorem dX3_rise_19 : decode cX3_rise 19 = .ok (.iadd, 1) := by decide +kernel
theorem dX3_rise_20 : decode cX3_rise 20 = .ok (.iaload, 1) := by decide +kernel
theorem dX3_rise_21 : decode cX3_rise 21 = .ok (.aload_n 0, 1) := by decide +kernel
theorem dX3_rise_22 : decode cX3_rise 22 = .ok (.getfield 15, 3) := by decide +kernel
theorem dX3_rise_25 : decode cX3_rise 25 = .ok (.iload_n 1, 1) := by decide +kernel
theorem dX3_rise_26 : decode cX3_rise 26 = .ok (.iaload, 1) := by decide +kernel
theorem dX3_rise_27 : decode cX3_rise 27 = .ok (.isub, 1) := by decide +kernel
theorem dX3_rise_28 : decode cX3_rise 28 = .ok (.ireturn, 1) := by decide +kernel
theorem dX3_scaledPush_0 : decode cX3_scaledPush 0 = .ok (.aload_n 0, 1) := by decide +kernel
theorem dX3_scaledPush_1 : decode cX3_scaledPush 1 = .ok (.iload_n 1, 1) := by decide +kernel
theorem dX3_scaledPush_2 : decode cX3_scaledPush 2 = .ok (.i2l, 1) := by decide +kernel
theorem dX3_scaledPush_3 : decode cX3_scaledPush 3 = .ok (.invokevirtual 44, 3) := by decide +kernel
theorem dX3_scaledPush_6 : decode cX3_scaledPush 6 = .ok (.istore_n 2, 1) := by decide +kernel
theorem dX3_scaledPush_7 : decode cX3_scaledPush 7 = .ok (.aload_n 0, 1) := by decide +kernel
theorem dX3_scaledPush_8 : decode cX3_scaledPush 8 = .ok (.getfield 15, 3) := by decide +kernel
theorem dX3_scaledPush_11 : decode cX3_scaledPush 11 = .ok (.iload_n 2, 1) := by decide +kernel
theorem dX3_scaledPush_12 : decode cX3_scaledPush 12 = .ok (.iaload, 1) := by decide +kernel
theorem dX3_scaledPush_13 : decode cX3_scaledPush 13 = .ok (.i2l, 1) := by decide +kernel
theorem dX3_scaledPush_14 : decode cX3_scaledPush 14 = .ok (.ldc2_w 48, 3) := by decide +kernel
theorem dX3_scaledPush_17 : decode cX3_scaledPush 17 = .ok (.lmul, 1) := by decide +kernel
theorem dX3_scaledPush_18 : decode cX3_scaledPush 18 = .ok (.iload_n 1, 1) := by decide +kernel
theorem dX3_scaledPush_19 : decode cX3_scaledPush 19 = .ok (.aload_n 0, 1) := by decide +kernel
theorem dX3_scaledPush_20 : decode cX3_scaledPush 20 = .ok (.getfield 9, 3) := by decide +kernel
theorem dX3_scaledPush_23 : decode cX3_scaledPush 23 = .ok (.iload_n 2, 1) := by decide +kernel
theorem dX3_scaledPush_24 : decode cX3_scaledPush 24 = .ok (.iaload, 1) := by decide +kernel
theorem dX3_scaledPush_25 : decode cX3_scaledPush 25 = .ok (.isub, 1) := by decide +kernel
theorem dX3_scaledPush_26 : decode cX3_scaledPush 26 = .ok (.i2l, 1) := by decide +kernel
theorem dX3_scaledPush_27 : decode cX3_scaledPush 27 = .ok (.aload_n 0, 1) := by decide +kernel
theorem dX3_scaledPush_28 : decode cX3_scaledPush 28 = .ok (.iload_n 2, 1) := by decide +kernel
theorem dX3_scaledPush_29 : decode cX3_scaledPush 29 = .ok (.invokevirtual 50, 3) := by decide +kernel
theorem dX3_scaledPush_32 : decode cX3_scaledPush 32 = .ok (.i2l, 1) := by decide +kernel
theorem dX3_scaledPush_33 : decode cX3_scaledPush 33 = .ok (.ldc2_w 48, 3) := by decide +kernel
theorem dX3_scaledPush_36 : decode cX3_scaledPush 36 = .ok (.aload_n 0, 1) := by decide +kernel
theorem dX3_scaledPush_37 : decode cX3_scaledPush 37 = .ok (.iload_n 2, 1) := by decide +kernel
theorem dX3_scaledPush_38 : decode cX3_scaledPush 38 = .ok (.invokevirtual 54, 3) := by decide +kernel
theorem dX3_scaledPush_41 : decode cX3_scaledPush 41 = .ok (.i2l, 1) := by decide +kernel
theorem dX3_scaledPush_42 : decode cX3_scaledPush 42 = .ok (.ldiv, 1) := by decide +kernel
theorem dX3_scaledPush_43 : decode cX3_scaledPush 43 = .ok (.lmul, 1) := by decide +kernel
theorem dX3_scaledPush_44 : decode cX3_scaledPush 44 = .ok (.lmul, 1) := by decide +kernel
theorem dX3_scaledPush_45 : decode cX3_scaledPush 45 = .ok (.ladd, 1) := by decide +kernel
theorem dX3_scaledPush_46 : decode cX3_scaledPush 46 = .ok (.lreturn, 1) := by decide +kernel
theorem dX3_fits_0 : decode cX3_fits 0 = .ok (.iconst 0, 1) := by decide +kernel
theorem dX3_fits_1 : decode cX3_fits 1 = .ok (.istore_n 3, 1) := by decide +kernel
theorem dX3_fits_2 : decode cX3_fits 2 = .ok (.iload_n 3, 1) := by decide +kernel
theorem dX3_fits_3 : decode cX3_fits 3 = .ok (.iconst 1, 1) := by decide +kernel
theorem dX3_fits_4 : decode cX3_fits 4 = .ok (.iadd, 1) := by decide +kernel
theorem dX3_fits_5 : decode cX3_fits 5 = .ok (.aload_n 1, 1) := by decide +kernel
theorem dX3_fits_6 : decode cX3_fits 6 = .ok (.getfield 57, 3) := by decide +kernel
theorem dX3_fits_9 : decode cX3_fits 9 = .ok (.if_icmp .ge 52, 3) := by decide +kernel
theorem dX3_fits_12 : decode cX3_fits 12 = .ok (.aload_n 0, 1) := by decide +kernel
theorem dX3_fits_13 : decode cX3_fits 13 = .ok (.aload_n 1, 1) := by decide +kernel
theorem dX3_fits_14 : decode cX3_fits 14 = .ok (.getfield 62, 3) := by decide +kernel
theorem dX3_fits_17 : decode cX3_fits 17 = .ok (.iload_n 3, 1) := by decide +kernel
theorem dX3_fits_18 : decode cX3_fits 18 = .ok (.iaload, 1) := by decide +kernel
theorem dX3_fits_19 : decode cX3_fits 19 = .ok (.invokevirtual 65, 3) := by decide +kernel
theorem dX3_fits_22 : decode cX3_fits 22 = .ok (.aload_n 1, 1) := by decide +kernel
theorem dX3_fits_23 : decode cX3_fits 23 = .ok (.getfield 62, 3) := by decide +kernel
theorem dX3_fits_26 : decode cX3_fits 26 = .ok (.iload_n 3, 1) := by decide +kernel
theorem dX3_fits_27 : decode cX3_fits 27 = .ok (.iconst 1, 1) := by decide +kernel
theorem dX3_fits_28 : decode cX3_fits 28 = .ok (.iadd, 1) := by decide +kernel
theorem dX3_fits_29 : decode cX3_fits 29 = .ok (.iaload, 1) := by decide +kernel
theorem dX3_fits_30 : decode cX3_fits 30 = .ok (.i2l, 1) := by decide +kernel
theorem dX3_fits_31 : decode cX3_fits 31 = .ok (.ldc2_w 48, 3) := by decide +kernel
theorem dX3_fits_34 : decode cX3_fits 34 = .ok (.lmul, 1) := by decide +kernel
theorem dX3_fits_35 : decode cX3_fits 35 = .ok (.lsub, 1) := by decide +kernel
theorem dX3_fits_36 : decode cX3_fits 36 = .ok (.lstore 4, 2) := by decide +kernel
theorem dX3_fits_38 : decode cX3_fits 38 = .ok (.lload 4, 2) := by decide +kernel
theorem dX3_fits_40 : decode cX3_fits 40 = .ok (.invokestatic 69, 3) := by decide +kernel
theorem dX3_fits_43 : decode cX3_fits 43 = .ok (.iload_n 2, 1) := by decide +kernel
theorem dX3_fits_44 : decode cX3_fits 44 = .ok (.i2l, 1) := by decide +kernel
theorem dX3_fits_45 : decode cX3_fits 45 = .ok (.ldc2_w 48, 3) := by decide +kernel
theorem dX3_fits_48 : decode cX3_fits 48 = .ok (.lmul, 1) := by decide +kernel
theorem dX3_fits_49 : decode cX3_fits 49 = .ok (.lcmp, 1) := by decide +kernel
theorem dX3_fits_50 : decode cX3_fits 50 = .ok (.ifCond .le 5, 3) := by decide +kernel
theorem dX3_fits_53 : decode cX3_fits 53 = .ok (.iconst 0, 1) := by decide +kernel
theorem dX3_fits_54 : decode cX3_fits 54 = .ok (.ireturn, 1) := by decide +kernel
theorem dX3_fits_55 : decode cX3_fits 55 = .ok (.iinc 3 2, 3) := by decide +kernel
theorem dX3_fits_58 : decode cX3_fits 58 = .ok (.goto (-56), 3) := by decide +kernel
theorem dX3_fits_61 : decode cX3_fits 61 = .ok (.iconst 1, 1) := by decide +kernel
theorem dX3_fits_62 : decode cX3_fits 62 = .ok (.ireturn, 1) := by decide +kernel
theorem dX3_mixInto_0 : decode cX3_mixInto 0 = .ok (.aload_n 0, 1) := by decide +kernel
theorem dX3_mixInto_1 : decode cX3_mixInto 1 = .ok (.invokevirtual 73, 3) := by decide +kernel
theorem dX3_mixInto_4 : decode cX3_mixInto 4 = .ok (.ifCond .eq 11, 3) := by decide +kernel
theorem dX3_mixInto_7 : decode cX3_mixInto 7 = .ok (.lload_n 1, 1) := by decide +kernel
theorem dX3_mixInto_8 : decode cX3_mixInto 8 = .ok (.ldc2_w 76, 3) := by decide +kernel
theorem dX3_mixInto_11 : decode cX3_mixInto 11 = .ok (.invokestatic 78, 3) := by decide +kernel
theorem dX3_mixInto_14 : decode cX3_mixInto 14 = .ok (.lreturn, 1) := by decide +kernel
theorem dX3_mixInto_15 : decode cX3_mixInto 15 = .ok (.lload_n 1, 1) := by decide +kernel
theorem dX3_mixInto_16 : decode cX3_mixInto 16 = .ok (.lstore_n 3, 1) := by decide +kernel
theorem dX3_mixInto_17 : decode cX3_mixInto 17 = .ok (.iconst 0, 1) := by decide +kernel
theorem dX3_mixInto_18 : decode cX3_mixInto 18 = .ok (.istore 5, 2) := by decide +kernel
theorem dX3_mixInto_20 : decode cX3_mixInto 20 = .ok (.iload 5, 2) := by decide +kernel
theorem dX3_mixInto_22 : decode cX3_mixInto 22 = .ok (.iconst 4, 1) := by decide +kernel
theorem dX3_mixInto_23 : decode cX3_mixInto 23 = .ok (.if_icmp .gt 21, 3) := by decide +kernel
theorem dX3_mixInto_26 : decode cX3_mixInto 26 = .ok (.lload_n 3, 1) := by decide +kernel
theorem dX3_mixInto_27 : decode cX3_mixInto 27 = .ok (.aload_n 0, 1) := by decide +kernel
theorem dX3_mixInto_28 : decode cX3_mixInto 28 = .ok (.iload 5, 2) := by decide +kernel
theorem dX3_mixInto_30 : decode cX3_mixInto 30 = .ok (.invokevirtual 82, 3) := by decide +kernel
theorem dX3_mixInto_33 : decode cX3_mixInto 33 = .ok (.i2l, 1) := by decide +kernel
theorem dX3_mixInto_34 : decode cX3_mixInto 34 = .ok (.invokestatic 78, 3) := by decide +kernel
theorem dX3_mixInto_37 : decode cX3_mixInto 37 = .ok (.lstore_n 3, 1) := by decide +kernel
theorem dX3_mixInto_38 : decode cX3_mixInto 38 = .ok (.iinc 5 1, 3) := by decide +kernel
theorem dX3_mixInto_41 : decode cX3_mixInto 41 = .ok (.goto (-21), 3) := by decide +kernel
theorem dX3_mixInto_44 : decode cX3_mixInto 44 = .ok (.iconst 1, 1) := by decide +kernel
theorem dX3_mixInto_45 : decode cX3_mixInto 45 = .ok (.istore 5, 2) := by decide +kernel
theorem dX3_mixInto_47 : decode cX3_mixInto 47 = .ok (.iload 5, 2) := by decide +kernel
theorem dX3_mixInto_49 : decode cX3_mixInto 49 = .ok (.aload_n 0, 1) := by decide +kernel
theorem dX3_mixInto_50 : decode cX3_mixInto 50 = .ok (.getfield 18, 3) := by decide +kernel
theorem dX3_mixInto_53 : decode cX3_mixInto 53 = .ok (.if_icmp .gt 33, 3) := by decide +kernel
theorem dX3_mixInto_56 : decode cX3_mixInto 56 = .ok (.lload_n 3, 1) := by decide +kernel
theorem dX3_mixInto_57 : decode cX3_mixInto 57 = .ok (.aload_n 0, 1) := by decide +kernel
theorem dX3_mixInto_58 : decode cX3_mixInto 58 = .ok (.getfield 9, 3) := by decide +kernel
theorem dX3_mixInto_61 : decode cX3_mixInto 61 = .ok (.iload 5, 2) := by decide +kernel
theorem dX3_mixInto_63 : decode cX3_mixInto 63 = .ok (.iaload, 1) := by decide +kernel
theorem dX3_mixInto_64 : decode cX3_mixInto 64 = .ok (.i2l, 1) := by decide +kernel
theorem dX3_mixInto_65 : decode cX3_mixInto 65 = .ok (.invokestatic 78, 3) := by decide +kernel
theorem dX3_mixInto_68 : decode cX3_mixInto 68 = .ok (.aload_n 0, 1) := by decide +kernel
theorem dX3_mixInto_69 : decode cX3_mixInto 69 = .ok (.getfield 15, 3) := by decide +kernel
theorem dX3_mixInto_72 : decode cX3_mixInto 72 = .ok (.iload 5, 2) := by decide +kernel
theorem dX3_mixInto_74 : decode cX3_mixInto 74 = .ok (.iaload, 1) := by decide +kernel
theorem dX3_mixInto_75 : decode cX3_mixInto 75 = .ok (.i2l, 1) := by decide +kernel
theorem dX3_mixInto_76 : decode cX3_mixInto 76 = .ok (.invokestatic 78, 3) := by decide +kernel
theorem dX3_mixInto_79 : decode cX3_mixInto 79 = .ok (.lstore_n 3, 1) := by decide +kernel
theorem dX3_mixInto_80 : decode cX3_mixInto 80 = .ok (.iinc 5 1, 3) := by decide +kernel
theorem dX3_mixInto_83 : decode cX3_mixInto 83 = .ok (.goto (-36), 3) := by decide +kernel
theorem dX3_mixInto_86 : decode cX3_mixInto 86 = .ok (.lload_n 3, 1) := by decide +kernel
theorem dX3_mixInto_87 : decode cX3_mixInto 87 = .ok (.lreturn, 1) := by decide +kernel
theorem dX4_layDown_0 : decode cX4_layDown 0 = .ok (.iload_n 1, 1) := by decide +kernel
theorem dX4_layDown_1 : decode cX4_layDown 1 = .ok (.invokestatic 55, 3) := by decide +kernel
theorem dX4_layDown_4 : decode cX4_layDown 4 = .ok (.ifCond .ne 4, 3) := by decide +kernel
theorem dX4_layDown_7 : decode cX4_layDown 7 = .ok (.return_, 1) := by decide +kernel
theorem dX4_layDown_8 : decode cX4_layDown 8 = .ok (.aload_n 0, 1) := by decide +kernel
theorem dX4_layDown_9 : decode cX4_layDown 9 = .ok (.getfield 15, 3) := by decide +kernel
theorem dX4_layDown_12 : decode cX4_layDown 12 = .ok (.iload_n 1, 1) := by decide +kernel
theorem dX4_layDown_13 : decode cX4_layDown 13 = .ok (.aload_n 2, 1) := by decide +kernel
theorem dX4_layDown_14 : decode cX4_layDown 14 = .ok (.iconst 1, 1) := by decide +kernel
theorem dX4_layDown_15 : decode cX4_layDown 15 = .ok (.invokevirtual 59, 3) := by decide +kernel
theorem dX4_layDown_18 : decode cX4_layDown 18 = .ok (.bastore, 1) := by decide +kernel
theorem dX4_layDown_19 : decode cX4_layDown 19 = .ok (.aload_n 0, 1) := by decide +kernel
theorem dX4_layDown_20 : decode cX4_layDown 20 = .ok (.getfield 9, 3) := by decide +kernel
theorem dX4_layDown_23 : decode cX4_layDown 23 = .ok (.iload_n 1, 1) := by decide +kernel
theorem dX4_layDown_24 : decode cX4_layDown 24 = .ok (.aload_n 2, 1) := by decide +kernel
theorem dX4_layDown_25 : decode cX4_layDown 25 = .ok (.invokevirtual 64, 3) := by decide +kernel
theorem dX4_layDown_28 : decode cX4_layDown 28 = .ok (.ifCond .ne 16, 3) := by decide +kernel
theorem dX4_layDown_31 : decode cX4_layDown 31 = .ok (.aload_n 0, 1) := by decide +kernel
theorem dX4_layDown_32 : decode cX4_layDown 32 = .ok (.getfield 15, 3) := by decide +kernel
theorem dX4_layDown_35 : decode cX4_layDown 35 = .ok (.iload_n 1, 1) := by decide +kernel
theorem dX4_layDown_36 : decode cX4_layDown 36 = .ok (.baload, 1) := by decide +kernel
theorem dX4_layDown_37 : decode cX4_layDown 37 = .ok (.ifCond .ne 7, 3) := by decide +kernel
theorem dX4_layDown_40 : decode cX4_layDown 40 = .ok (.iconst 1, 1) := by decide +kernel
theorem dX4_layDown_41 : decode cX4_layDown 41 = .ok (.goto 4, 3) := by decide +kernel
theorem dX4_layDown_44 : decode cX4_layDown 44 = .ok (.iconst 0, 1) := by decide +kernel
theorem dX4_layDown_45 : decode cX4_layDown 45 = .ok (.bastore, 1) := by decide +kernel
theorem dX4_layDown_46 : decode cX4_layDown 46 = .ok (.aload_n 0, 1) := by decide +kernel
theorem dX4_layDown_47 : decode cX4_layDown 47 = .ok (.getfield 18, 3) := by decide +kernel
theorem dX4_layDown_50 : decode cX4_layDown 50 = .ok (.iload_n 1, 1) := by decide +kernel
theorem dX4_layDown_51 : decode cX4_layDown 51 = .ok (.aload_n 2, 1) := by decide +kernel
theorem dX4_layDown_52 : decode cX4_layDown 52 = .ok (.getfield 68, 3) := by decide +kernel
theorem dX4_layDown_55 : decode cX4_layDown 55 = .ok (.iload_n 3, 1) := by decide +kernel
theorem dX4_layDown_56 : decode cX4_layDown 56 = .ok (.isub, 1) := by decide +kernel
theorem dX4_layDown_57 : decode cX4_layDown 57 = .ok (.iastore, 1) := by decide +kernel
theorem dX4_layDown_58 : decode cX4_layDown 58 = .ok (.aload_n 0, 1) := by decide +kernel
theorem dX4_layDown_59 : decode cX4_layDown 59 = .ok (.getfield 22, 3) := by decide +kernel
theorem dX4_layDown_62 : decode cX4_layDown 62 = .ok (.iload_n 1, 1) := by decide +kernel
theorem dX4_layDown_63 : decode cX4_layDown 63 = .ok (.aload_n 2, 1) := by decide +kernel
theorem dX4_layDown_64 : decode cX4_layDown 64 = .ok (.getfield 71, 3) := by decide +kernel
theorem dX4_layDown_67 : decode cX4_layDown 67 = .ok (.iastore, 1) := by decide +kernel
theorem dX4_layDown_68 : decode cX4_layDown 68 = .ok (.aload_n 0, 1) := by decide +kernel
theorem dX4_layDown_69 : decode cX4_layDown 69 = .ok (.getfield 27, 3) := by decide +kernel
theorem dX4_layDown_72 : decode cX4_layDown 72 = .ok (.iload_n 1, 1) := by decide +kernel
theorem dX4_layDown_73 : decode cX4_layDown 73 = .ok (.aload 4, 2) := by decide +kernel
theorem dX4_layDown_75 : decode cX4_layDown 75 = .ok (.aastore, 1) := by decide +kernel
theorem dX4_layDown_76 : decode cX4_layDown 76 = .ok (.return_, 1) := by decide +kernel
theorem dX4_settle_0 : decode cX4_settle 0 = .ok (.aload_n 0, 1) := by decide +kernel
theorem dX4_settle_1 : decode cX4_settle 1 = .ok (.invokevirtual 74, 3) := by decide +kernel
theorem dX4_settle_4 : decode cX4_settle 4 = .ok (.istore_n 1, 1) := by decide +kernel
theorem dX4_settle_5 : decode cX4_settle 5 = .ok (.aload_n 0, 1) := by decide +kernel
theorem dX4_settle_6 : decode cX4_settle 6 = .ok (.iload_n 1, 1) := by decide +kernel
theorem dX4_settle_7 : decode cX4_settle 7 = .ok (.invokevirtual 78, 3) := by decide +kernel
theorem dX4_settle_10 : decode cX4_settle 10 = .ok (.istore_n 2, 1) := by decide +kernel
theorem dX4_settle_11 : decode cX4_settle 11 = .ok (.aload_n 0, 1) := by decide +kernel
theorem dX4_settle_12 : decode cX4_settle 12 = .ok (.getfield 31, 3) := by decide +kernel
theorem dX4_settle_15 : decode cX4_settle 15 = .ok (.i2l, 1) := by decide +kernel
theorem dX4_settle_16 : decode cX4_settle 16 = .ok (.ldc2_w 82, 3) := by decide +kernel
theorem dX4_settle_19 : decode cX4_settle 19 = .ok (.lmul, 1) := by decide +kernel
theorem dX4_settle_20 : decode cX4_settle 20 = .ok (.lstore_n 3, 1) := by decide +kernel
theorem dX4_settle_21 : decode cX4_settle 21 = .ok (.aload_n 0, 1) := by decide +kernel
theorem dX4_settle_22 : decode cX4_settle 22 = .ok (.iload_n 1, 1) := by decide +kernel
theorem dX4_settle_23 : decode cX4_settle 23 = .ok (.i2l, 1) := by decide +kernel
theorem dX4_settle_24 : decode cX4_settle 24 = .ok (.putfield 41, 3) := by decide +kernel
theorem dX4_settle_27 : decode cX4_settle 27 = .ok (.aload_n 0, 1) := by decide +kernel
theorem dX4_settle_28 : decode cX4_settle 28 = .ok (.lconst 1, 1) := by decide +kernel
theorem dX4_settle_29 : decode cX4_settle 29 = .ok (.putfield 45, 3) := by decide +kernel
theorem dX4_settle_32 : decode cX4_settle 32 = .ok (.aload_n 0, 1) := by decide +kernel
theorem dX4_settle_33 : decode cX4_settle 33 = .ok (.iload_n 1, 1) := by decide +kernel
theorem dX4_settle_34 : decode cX4_settle 34 = .ok (.invokevirtual 84, 3) := by decide +kernel
theorem dX4_settle_37 : decode cX4_settle 37 = .ok (.lstore 5, 2) := by decide +kernel
theorem dX4_settle_39 : decode cX4_settle 39 = .ok (.lload 5, 2) := by decide +kernel
theorem dX4_settle_41 : decode cX4_settle 41 = .ok (.lload_n 3, 1) := by decide +kernel
theorem dX4_settle_42 : decode cX4_settle 42 = .ok (.lcmp, 1) := by decide +kernel
theorem dX4_settle_43 : decode cX4_settle 43 = .ok (.ifCond .le 74, 3) := by decide +kernel
theorem dX4_settle_46 : decode cX4_settle 46 = .ok (.iconst 0, 1) := by decide +kernel
theorem dX4_settle_47 : decode cX4_settle 47 = .ok (.istore 7, 2) := by decide +kernel
theorem dX4_settle_49 : decode cX4_settle 49 = .ok (.iload 7, 2) := by decide +kernel
theorem dX4_settle_51 : decode cX4_settle 51 = .ok (.bipush 20, 2) := by decide +kernel
theorem dX4_settle_53 : decode cX4_settle 53 = .ok (.if_icmp .ge 51, 3) := by decide +kernel
theorem dX4_settle_56 : decode cX4_settle 56 = .ok (.iload_n 2, 1) := by decide +kernel
theorem dX4_settle_57 : decode cX4_settle 57 = .ok (.iload_n 1, 1) := by decide +kernel
theorem dX4_settle_58 : decode cX4_settle 58 = .ok (.isub, 1) := by decide +kernel
theorem dX4_settle_59 : decode cX4_settle 59 = .ok (.iconst 1, 1) := by decide +kernel
theorem dX4_settle_60 : decode cX4_settle 60 = .ok (.if_icmp .le 44, 3) := by decide +kernel
theorem dX4_settle_63 : decode cX4_settle 63 = .ok (.iload_n 1, 1) := by decide +kernel
theorem dX4_settle_64 : decode cX4_settle 64 = .ok (.iload_n 2, 1) := by decide +kernel
theorem dX4_settle_65 : decode cX4_settle 65 = .ok (.iadd, 1) := by decide +kernel
theorem dX4_settle_66 : decode cX4_settle 66 = .ok (.iconst 2, 1) := by decide +kernel
theorem dX4_settle_67 : decode cX4_settle 67 = .ok (.idiv, 1) := by decide +kernel
theorem dX4_settle_68 : decode cX4_settle 68 = .ok (.istore 8, 2) := by decide +kernel
theorem dX4_settle_70 : decode cX4_settle 70 = .ok (.aload_n 0, 1) := by decide +kernel
theorem dX4_settle_71 : decode cX4_settle 71 = .ok (.iload 8, 2) := by decide +kernel
theorem dX4_settle_73 : decode cX4_settle 73 = .ok (.invokevirtual 84, 3) := by decide +kernel
theorem dX4_settle_76 : decode cX4_settle 76 = .ok (.lstore 9, 2) := by decide +kernel
theorem dX4_settle_78 : decode cX4_settle 78 = .ok (.lload 9, 2) := by decide +kernel
theorem dX4_settle_80 : decode cX4_settle 80 = .ok (.lload_n 3, 1) := by decide +kernel
theorem dX4_settle_81 : decode cX4_settle 81 = .ok (.lcmp, 1) := by decide +kernel
theorem dX4_settle_82 : decode cX4_settle 82 = .ok (.ifCond .le 13, 3) := by decide +kernel
theorem dX4_settle_85 : decode cX4_settle 85 = .ok (.iload 8, 2) := by decide +kernel
theorem dX4_settle_87 : decode cX4_settle 87 = .ok (.istore_n 1, 1) := by decide +kernel
theorem dX4_settle_88 : decode cX4_settle 88 = .ok (.lload 9, 2) := by decide +kernel
theorem dX4_settle_90 : decode cX4_settle 90 = .ok (.lstore 5, 2) := by decide +kernel
theorem dX4_settle_92 : decode cX4_settle 92 = .ok (.goto 6, 3) := by decide +kernel
theorem dX4_settle_95 : decode cX4_settle 95 = .ok (.iload 8, 2) := by decide +kernel
theorem dX4_settle_97 : decode cX4_settle 97 = .ok (.istore_n 2, 1) := by decide +kernel
theorem dX4_settle_98 : decode cX4_settle 98 = .ok (.iinc 7 1, 3) := by decide +kernel
theorem dX4_settle_101 : decode cX4_settle 101 = .ok (.goto (-52), 3) := by decide +kernel
theorem dX4_settle_104 : decode cX4_settle 104 = .ok (.aload_n 0, 1) := by decide +kernel
theorem dX4_settle_105 : decode cX4_settle 105 = .ok (.iload_n 2, 1) := by decide +kernel
theorem dX4_settle_106 : decode cX4_settle 106 = .ok (.lload 5, 2) := by decide +kernel
theorem dX4_settle_108 : decode cX4_settle 108 = .ok (.aload_n 0, 1) := by decide +kernel
theorem dX4_settle_109 : decode cX4_settle 109 = .ok (.iload_n 2, 1) := by decide +kernel
theorem dX4_settle_110 : decode cX4_settle 110 = .ok (.invokevirtual 84, 3) := by decide +kernel
theorem dX4_settle_113 : decode cX4_settle 113 = .ok (.lload_n 3, 1) := by decide +kernel
theorem dX4_settle_114 : decode cX4_settle 114 = .ok (.invokevirtual 88, 3) := by decide +kernel
theorem dX4_settle_117 : decode cX4_settle 117 = .ok (.iconst 0, 1) := by decide +kernel
theorem dX4_settle_118 : decode cX4_settle 118 = .ok (.istore 7, 2) := by decide +kernel
theorem dX4_settle_120 : decode cX4_settle 120 = .ok (.iload 7, 2) := by decide +kernel
theorem dX4_settle_122 : decode cX4_settle 122 = .ok (.iconst 4, 1) := by decide +kernel
theorem dX4_settle_123 : decode cX4_settle 123 = .ok (.if_icmp .ge 15, 3) := by decide +kernel
theorem dX4_settle_126 : decode cX4_settle 126 = .ok (.aload_n 0, 1) := by decide +kernel
theorem dX4_settle_127 : decode cX4_settle 127 = .ok (.iload 7, 2) := by decide +kernel
theorem dX4_settle_129 : decode cX4_settle 129 = .ok (.invokevirtual 92, 3) := by decide +kernel
theorem dX4_settle_132 : decode cX4_settle 132 = .ok (.iinc 7 1, 3) := by decide +kernel
theorem dX4_settle_135 : decode cX4_settle 135 = .ok (.goto (-15), 3) := by decide +kernel
theorem dX4_settle_138 : decode cX4_settle 138 = .ok (.return_, 1) := by decide +kernel
theorem dX4_restBetween_0 : decode cX4_restBetween 0 = .ok (.lload_n 2, 1) := by decide +kernel
theorem dX4_restBetween_1 : decode cX4_restBetween 1 = .ok (.lload 4, 2) := by decide +kernel
theorem dX4_restBetween_3 : decode cX4_restBetween 3 = .ok (.lsub, 1) := by decide +kernel
theorem dX4_restBetween_4 : decode cX4_restBetween 4 = .ok (.lstore 8, 2) := by decide +kernel
theorem dX4_restBetween_6 : decode cX4_restBetween 6 = .ok (.lload 8, 2) := by decide +kernel
theorem dX4_restBetween_8 : decode cX4_restBetween 8 = .ok (.lconst 1, 1) := by decide +kernel
theorem dX4_restBetween_9 : decode cX4_restBetween 9 = .ok (.lcmp, 1) := by decide +kernel
theorem dX4_restBetween_10 : decode cX4_restBetween 10 = .ok (.ifCond .ge 4, 3) := by decide +kernel
theorem dX4_restBetween_13 : decode cX4_restBetween 13 = .ok (.return_, 1) := by decide +kernel
theorem dX4_restBetween_14 : decode cX4_restBetween 14 = .ok (.iload_n 1, 1) := by decide +kernel
theorem dX4_restBetween_15 : decode cX4_restBetween 15 = .ok (.i2l, 1) := by decide +kernel
theorem dX4_restBetween_16 : decode cX4_restBetween 16 = .ok (.lload 8, 2) := by decide +kernel
theorem dX4_restBetween_18 : decode cX4_restBetween 18 = .ok (.lmul, 1) := by decide +kernel
theorem dX4_restBetween_19 : decode cX4_restBetween 19 = .ok (.lload 6, 2) := by decide +kernel
theorem dX4_restBetween_21 : decode cX4_restBetween 21 = .ok (.lload 4, 2) := by decide +kernel
theorem dX4_restBetween_23 : decode cX4_restBetween 23 = .ok (.lsub, 1) := by decide +kernel
theorem dX4_restBetween_24 : decode cX4_restBetween 24 = .ok (.lsub, 1) := by decide +kernel
theorem dX4_restBetween_25 : decode cX4_restBetween 25 = .ok (.lstore 10, 2) := by decide +kernel
theorem dX4_restBetween_27 : decode cX4_restBetween 27 = .ok (.lconst 1, 1) := by decide +kernel
theorem dX4_restBetween_28 : decode cX4_restBetween 28 = .ok (.lload 10, 2) := by decide +kernel
theorem dX4_restBetween_30 : decode cX4_restBetween 30 = .ok (.lload 8, 2) := by decide +kernel
theorem dX4_restBetween_32 : decode cX4_restBetween 32 = .ok (.invokestatic 96, 3) := by decide +kernel
theorem dX4_restBetween_35 : decode cX4_restBetween 35 = .ok (.invokestatic 100, 3) := by decide +kernel
theorem dX4_restBetween_38 : decode cX4_restBetween 38 = .ok (.lstore 12, 2) := by decide +kernel
theorem dX4_restBetween_40 : decode cX4_restBetween 40 = .ok (.aload_n 0, 1) := by decide +kernel
theorem dX4_restBetween_41 : decode cX4_restBetween 41 = .ok (.lload 10, 2) := by decide +kernel
theorem dX4_restBetween_43 : decode cX4_restBetween 43 = .ok (.lload 12, 2) := by decide +kernel
theorem dX4_restBetween_45 : decode cX4_restBetween 45 = .ok (.ldiv, 1) := by decide +kernel
theorem dX4_restBetween_46 : decode cX4_restBetween 46 = .ok (.putfield 41, 3) := by decide +kernel
theorem dX4_restBetween_49 : decode cX4_restBetween 49 = .ok (.aload_n 0, 1) := by decide +kernel
theorem dX4_restBetween_50 : decode cX4_restBetween 50 = .ok (.lload 8, 2) := by decide +kernel
theorem dX4_restBetween_52 : decode cX4_restBetween 52 = .ok (.lload 12, 2) := by decide +kernel
theorem dX4_restBetween_54 : decode cX4_restBetween 54 = .ok (.ldiv, 1) := by decide +kernel
theorem dX4_restBetween_55 : decode cX4_restBetween 55 = .ok (.putfield 45, 3) := by decide +kernel
theorem dX4_restBetween_58 : decode cX4_restBetween 58 = .ok (.return_, 1) := by decide +kernel
theorem dX4_floorHeight_0 : decode cX4_floorHeight 0 = .ok (.iconst 0, 1) := by decide +kernel
theorem dX4_floorHeight_1 : decode cX4_floorHeight 1 = .ok (.istore_n 1, 1) := by decide +kernel
theorem dX4_floorHeight_2 : decode cX4_floorHeight 2 = .ok (.iconst 0, 1) := by decide +kernel
theorem dX4_floorHeight_3 : decode cX4_floorHeight 3 = .ok (.istore_n 2, 1) := by decide +kernel
theorem dX4_floorHeight_4 : decode cX4_floorHeight 4 = .ok (.iload_n 2, 1) := by decide +kernel
theorem dX4_floorHeight_5 : decode cX4_floorHeight 5 = .ok (.iconst 4, 1) := by decide +kernel
theorem dX4_floorHeight_6 : decode cX4_floorHeight 6 = .ok (.if_icmp .ge 29, 3) := by decide +kernel
theorem dX4_floorHeight_9 : decode cX4_floorHeight 9 = .ok (.aload_n 0, 1) := by decide +kernel
theorem dX4_floorHeight_10 : decode cX4_floorHeight 10 = .ok (.getfield 9, 3) := by decide +kernel
theorem dX4_floorHeight_13 : decode cX4_floorHeight 13 = .ok (.iload_n 2, 1) := by decide +kernel
theorem dX4_floorHeight_14 : decode cX4_floorHeight 14 = .ok (.baload, 1) := by decide +kernel
theorem dX4_floorHeight_15 : decode cX4_floorHeight 15 = .ok (.ifCond .eq 14, 3) := by decide +kernel
theorem dX4_floorHeight_18 : decode cX4_floorHeight 18 = .ok (.iload_n 1, 1) := by decide +kernel
theorem dX4_floorHeight_19 : decode cX4_floorHeight 19 = .ok (.aload_n 0, 1) := by decide +kernel
theorem dX4_floorHeight_20 : decode cX4_floorHeight 20 = .ok (.getfield 18, 3) := by decide +kernel
theorem dX4_floorHeight_23 : decode cX4_floorHeight 23 = .ok (.iload_n 2, 1) := by decide +kernel
theorem dX4_floorHeight_24 : decode cX4_floorHeight 24 = .ok (.iaload, 1) := by decide +kernel
theorem dX4_floorHeight_25 : decode cX4_floorHeight 25 = .ok (.invokestatic 105, 3) := by decide +kernel
theorem dX4_floorHeight_28 : decode cX4_floorHeight 28 = .ok (.istore_n 1, 1) := by decide +kernel
theorem dX4_floorHeight_29 : decode cX4_floorHeight 29 = .ok (.iinc 2 1, 3) := by decide +kernel
theorem dX4_floorHeight_32 : decode cX4_floorHeight 32 = .ok (.goto (-28), 3) := by decide +kernel
theorem dX4_floorHeight_35 : decode cX4_floorHeight 35 = .ok (.iload_n 1, 1) := by decide +kernel
theorem dX4_floorHeight_36 : decode cX4_floorHeight 36 = .ok (.ireturn, 1) := by decide +kernel
theorem dX4_highestTop_0 : decode cX4_highestTop 0 = .ok (.iload_n 1, 1) := by decide +kernel
theorem dX4_highestTop_1 : decode cX4_highestTop 1 = .ok (.istore_n 2, 1) := by decide +kernel
theorem dX4_highestTop_2 : decode cX4_highestTop 2 = .ok (.iconst 0, 1) := by decide +kernel
theorem dX4_highestTop_3 : decode cX4_highestTop 3 = .ok (.istore_n 3, 1) := by decide +kernel
theorem dX4_highestTop_4 : decode cX4_highestTop 4 = .ok (.iload_n 3, 1) := by decide +kernel
theorem dX4_highestTop_5 : decode cX4_highestTop 5 = .ok (.iconst 4, 1) := by decide +kernel
theorem dX4_highestTop_6 : decode cX4_highestTop 6 = .ok (.if_icmp .ge 29, 3) := by decide +kernel
theorem dX4_highestTop_9 : decode cX4_highestTop 9 = .ok (.aload_n 0, 1) := by decide +kernel
theorem dX4_highestTop_10 : decode cX4_highestTop 10 = .ok (.getfield 15, 3) := by decide +kernel
theorem dX4_highestTop_13 : decode cX4_highestTop 13 = .ok (.iload_n 3, 1) := by decide +kernel
theorem dX4_highestTop_14 : decode cX4_highestTop 14 = .ok (.baload, 1) := by decide +kernel
theorem dX4_highestTop_15 : decode cX4_highestTop 15 = .ok (.ifCond .eq 14, 3) := by decide +kernel
theorem dX4_highestTop_18 : decode cX4_highestTop 18 = .ok (.iload_n 2, 1) := by decide +kernel
theorem dX4_highestTop_19 : decode cX4_highestTop 19 = .ok (.aload_n 0, 1) := by decide +kernel
theorem dX4_highestTop_20 : decode cX4_highestTop 20 = .ok (.getfield 18, 3) := by decide +kernel
theorem dX4_highestTop_23 : decode cX4_highestTop 23 = .ok (.iload_n 3, 1) := by decide +kernel
theorem dX4_highestTop_24 : decode cX4_highestTop 24 = .ok (.iaload, 1) := by decide +kernel
theorem dX4_highestTop_25 : decode cX4_highestTop 25 = .ok (.invokestatic 105, 3) := by decide +kernel
theorem dX4_highestTop_28 : decode cX4_highestTop 28 = .ok (.istore_n 2, 1) := by decide +kernel
theorem dX4_highestTop_29 : decode cX4_highestTop 29 = .ok (.iinc 3 1, 3) := by decide +kernel
theorem dX4_highestTop_32 : decode cX4_highestTop 32 = .ok (.goto (-28), 3) := by decide +kernel
theorem dX4_highestTop_35 : decode cX4_highestTop 35 = .ok (.iload_n 2, 1) := by decide +kernel
theorem dX4_highestTop_36 : decode cX4_highestTop 36 = .ok (.ireturn, 1) := by decide +kernel
theorem dX4_pushAt_0 : decode cX4_pushAt 0 = .ok (.lconst 0, 1) := by decide +kernel
theorem dX4_pushAt_1 : decode cX4_pushAt 1 = .ok (.lstore_n 2, 1) := by decide +kernel
theorem dX4_pushAt_2 : decode cX4_pushAt 2 = .ok (.iconst 0, 1) := by decide +kernel
theorem dX4_pushAt_3 : decode cX4_pushAt 3 = .ok (.istore 4, 2) := by decide +kernel
theorem dX4_pushAt_5 : decode cX4_pushAt 5 = .ok (.iload 4, 2) := by decide +kernel
theorem dX4_pushAt_7 : decode cX4_pushAt 7 = .ok (.iconst 4, 1) := by decide +kernel
theorem dX4_pushAt_8 : decode cX4_pushAt 8 = .ok (.if_icmp .ge 71, 3) := by decide +kernel
theorem dX4_pushAt_11 : decode cX4_pushAt 11 = .ok (.aload_n 0, 1) := by decide +kernel
theorem dX4_pushAt_12 : decode cX4_pushAt 12 = .ok (.getfield 15, 3) := by decide +kernel
theorem dX4_pushAt_15 : decode cX4_pushAt 15 = .ok (.iload 4, 2) := by decide +kernel
theorem dX4_pushAt_17 : decode cX4_pushAt 17 = .ok (.baload, 1) := by decide +kernel
theorem dX4_pushAt_18 : decode cX4_pushAt 18 = .ok (.ifCond .eq 55, 3) := by decide +kernel
theorem dX4_pushAt_21 : decode cX4_pushAt 21 = .ok (.aload_n 0, 1) := by decide +kernel
theorem dX4_pushAt_22 : decode cX4_pushAt 22 = .ok (.getfield 18, 3) := by decide +kernel
theorem dX4_pushAt_25 : decode cX4_pushAt 25 = .ok (.iload 4, 2) := by decide +kernel
theorem dX4_pushAt_27 : decode cX4_pushAt 27 = .ok (.iaload, 1) := by decide +kernel
theorem dX4_pushAt_28 : decode cX4_pushAt 28 = .ok (.iload_n 1, 1) := by decide +kernel
theorem dX4_pushAt_29 : decode cX4_pushAt 29 = .ok (.if_icmp .gt 6, 3) := by decide +kernel
theorem dX4_pushAt_32 : decode cX4_pushAt 32 = .ok (.goto 41, 3) := by decide +kernel
theorem dX4_pushAt_35 : decode cX4_pushAt 35 = .ok (.lload_n 2, 1) := by decide +kernel
theorem dX4_pushAt_36 : decode cX4_pushAt 36 = .ok (.aload_n 0, 1) := by decide +kernel
theorem dX4_pushAt_37 : decode cX4_pushAt 37 = .ok (.getfield 22, 3) := by decide +kernel
theorem dX4_pushAt_40 : decode cX4_pushAt 40 = .ok (.iload 4, 2) := by decide +kernel
theorem dX4_pushAt_42 : decode cX4_pushAt 42 = .ok (.iaload, 1) := by decide +kernel
theorem dX4_pushAt_43 : decode cX4_pushAt 43 = .ok (.i2l, 1) := by decide +kernel
theorem dX4_pushAt_44 : decode cX4_pushAt 44 = .ok (.aload_n 0, 1) := by decide +kernel
theorem dX4_pushAt_45 : decode cX4_pushAt 45 = .ok (.iload 4, 2) := by decide +kernel
theorem dX4_pushAt_47 : decode cX4_pushAt 47 = .ok (.invokevirtual 108, 3) := by decide +kernel
theorem dX4_pushAt_50 : decode cX4_pushAt 50 = .ok (.lmul, 1) := by decide +kernel
theorem dX4_pushAt_51 : decode cX4_pushAt 51 = .ok (.aload_n 0, 1) := by decide +kernel
theorem dX4_pushAt_52 : decode cX4_pushAt 52 = .ok (.getfield 27, 3) := by decide +kernel
theorem dX4_pushAt_55 : decode cX4_pushAt 55 = .ok (.iload 4, 2) := by decide +kernel
theorem dX4_pushAt_57 : decode cX4_pushAt 57 = .ok (.aaload, 1) := by decide +kernel
theorem dX4_pushAt_58 : decode cX4_pushAt 58 = .ok (.aload_n 0, 1) := by decide +kernel
theorem dX4_pushAt_59 : decode cX4_pushAt 59 = .ok (.getfield 18, 3) := by decide +kernel
theorem dX4_pushAt_62 : decode cX4_pushAt 62 = .ok (.iload 4, 2) := by decide +kernel
theorem dX4_pushAt_64 : decode cX4_pushAt 64 = .ok (.iaload, 1) := by decide +kernel
theorem dX4_pushAt_65 : decode cX4_pushAt 65 = .ok (.iload_n 1, 1) := by decide +kernel
theorem dX4_pushAt_66 : decode cX4_pushAt 66 = .ok (.isub, 1) := by decide +kernel
theorem dX4_pushAt_67 : decode cX4_pushAt 67 = .ok (.invokevirtual 111, 3) := by decide +kernel
theorem dX4_pushAt_70 : decode cX4_pushAt 70 = .ok (.lmul, 1) := by decide +kernel
theorem dX4_pushAt_71 : decode cX4_pushAt 71 = .ok (.ladd, 1) := by decide +kernel
theorem dX4_pushAt_72 : decode cX4_pushAt 72 = .ok (.lstore_n 2, 1) := by decide +kernel
theorem dX4_pushAt_73 : decode cX4_pushAt 73 = .ok (.iinc 4 1, 3) := by decide +kernel
theorem dX4_pushAt_76 : decode cX4_pushAt 76 = .ok (.goto (-71), 3) := by decide +kernel
theorem dX4_pushAt_79 : decode cX4_pushAt 79 = .ok (.lload_n 2, 1) := by decide +kernel
theorem dX4_pushAt_80 : decode cX4_pushAt 80 = .ok (.lreturn, 1) := by decide +kernel
theorem dX4_stiffness_0 : decode cX4_stiffness 0 = .ok (.aload_n 0, 1) := by decide +kernel
theorem dX4_stiffness_1 : decode cX4_stiffness 1 = .ok (.getfield 35, 3) := by decide +kernel
theorem dX4_stiffness_4 : decode cX4_stiffness 4 = .ok (.aload_n 0, 1) := by decide +kernel
theorem dX4_stiffness_5 : decode cX4_stiffness 5 = .ok (.getfield 27, 3) := by decide +kernel
theorem dX4_stiffness_8 : decode cX4_stiffness 8 = .ok (.iload_n 1, 1) := by decide +kernel
theorem dX4_stiffness_9 : decode cX4_stiffness 9 = .ok (.aaload, 1) := by decide +kernel
theorem dX4_stiffness_10 : decode cX4_stiffness 10 = .ok (.getfield 114, 3) := by decide +kernel
theorem dX4_stiffness_13 : decode cX4_stiffness 13 = .ok (.if_icmp .ge 9, 3) := by decide +kernel
theorem dX4_stiffness_16 : decode cX4_stiffness 16 = .ok (.ldc2_w 117, 3) := by decide +kernel
theorem dX4_stiffness_19 : decode cX4_stiffness 19 = .ok (.goto 4, 3) := by decide +kernel
theorem dX4_stiffness_22 : decode cX4_stiffness 22 = .ok (.lconst 1, 1) := by decide +kernel
theorem dX4_stiffness_23 : decode cX4_stiffness 23 = .ok (.lreturn, 1) := by decide +kernel
theorem dX4_squeezed_0 : decode cX4_squeezed 0 = .ok (.lconst 0, 1) := by decide +kernel
theorem dX4_squeezed_1 : decode cX4_squeezed 1 = .ok (.aload_n 0, 1) := by decide +kernel
theorem dX4_squeezed_2 : decode cX4_squeezed 2 = .ok (.getfield 18, 3) := by decide +kernel
theorem dX4_squeezed_5 : decode cX4_squeezed 5 = .ok (.iload_n 1, 1) := by decide +kernel
theorem dX4_squeezed_6 : decode cX4_squeezed 6 = .ok (.iaload, 1) := by decide +kernel
theorem dX4_squeezed_7 : decode cX4_squeezed 7 = .ok (.i2l, 1) := by decide +kernel
theorem dX4_squeezed_8 : decode cX4_squeezed 8 = .ok (.aload_n 0, 1) := by decide +kernel
theorem dX4_squeezed_9 : decode cX4_squeezed 9 = .ok (.getfield 45, 3) := by decide +kernel
theorem dX4_squeezed_12 : decode cX4_squeezed 12 = .ok (.lmul, 1) := by decide +kernel
theorem dX4_squeezed_13 : decode cX4_squeezed 13 = .ok (.aload_n 0, 1) := by decide +kernel
theorem dX4_squeezed_14 : decode cX4_squeezed 14 = .ok (.getfield 41, 3) := by decide +kernel
theorem dX4_squeezed_17 : decode cX4_squeezed 17 = .ok (.lsub, 1) := by decide +kernel
theorem dX4_squeezed_18 : decode cX4_squeezed 18 = .ok (.invokestatic 100, 3) := by decide +kernel
theorem dX4_squeezed_21 : decode cX4_squeezed 21 = .ok (.lreturn, 1) := by decide +kernel
theorem dX4_findPress_0 : decode cX4_findPress 0 = .ok (.aload_n 0, 1) := by decide +kernel
theorem dX4_findPress_1 : decode cX4_findPress 1 = .ok (.getfield 48, 3) := by decide +kernel
theorem dX4_findPress_4 : decode cX4_findPress 4 = .ok (.iload_n 1, 1) := by decide +kernel
theorem dX4_findPress_5 : decode cX4_findPress 5 = .ok (.lconst 0, 1) := by decide +kernel
theorem dX4_findPress_6 : decode cX4_findPress 6 = .ok (.lastore, 1) := by decide +kernel
theorem dX4_findPress_7 : decode cX4_findPress 7 = .ok (.aload_n 0, 1) := by decide +kernel
theorem dX4_findPress_8 : decode cX4_findPress 8 = .ok (.getfield 52, 3) := by decide +kernel
theorem dX4_findPress_11 : decode cX4_findPress 11 = .ok (.iload_n 1, 1) := by decide +kernel
theorem dX4_findPress_12 : decode cX4_findPress 12 = .ok (.iconst 1, 1) := by decide +kernel
theorem dX4_findPress_13 : decode cX4_findPress 13 = .ok (.iastore, 1) := by decide +kernel
theorem dX4_findPress_14 : decode cX4_findPress 14 = .ok (.aload_n 0, 1) := by decide +kernel
theorem dX4_findPress_15 : decode cX4_findPress 15 = .ok (.iload_n 1, 1) := by decide +kernel
theorem dX4_findPress_16 : decode cX4_findPress 16 = .ok (.invokevirtual 119, 3) := by decide +kernel
theorem dX4_findPress_19 : decode cX4_findPress 19 = .ok (.lstore_n 2, 1) := by decide +kernel
theorem dX4_findPress_20 : decode cX4_findPress 20 = .ok (.aload_n 0, 1) := by decide +kernel
theorem dX4_findPress_21 : decode cX4_findPress 21 = .ok (.getfield 15, 3) := by decide +kernel
theorem dX4_findPress_24 : decode cX4_findPress 24 = .ok (.iload_n 1, 1) := by decide +kernel
theorem dX4_findPress_25 : decode cX4_findPress 25 = .ok (.baload, 1) := by decide +kernel
theorem dX4_findPress_26 : decode cX4_findPress 26 = .ok (.ifCond .eq 9, 3) := by decide +kernel
theorem dX4_findPress_29 : decode cX4_findPress 29 = .ok (.lload_n 2, 1) := by decide +kernel
theorem dX4_findPress_30 : decode cX4_findPress 30 = .ok (.lconst 0, 1) := by decide +kernel
theorem dX4_findPress_31 : decode cX4_findPress 31 = .ok (.lcmp, 1) := by decide +kernel
theorem dX4_findPress_32 : decode cX4_findPress 32 = .ok (.ifCond .ne 4, 3) := by decide +kernel
theorem dX4_findPress_35 : decode cX4_findPress 35 = .ok (.return_, 1) := by decide +kernel
theorem dX4_findPress_36 : decode cX4_findPress 36 = .ok (.aload_n 0, 1) := by decide +kernel
theorem dX4_findPress_37 : decode cX4_findPress 37 = .ok (.getfield 27, 3) := by decide +kernel
theorem dX4_findPress_40 : decode cX4_findPress 40 = .ok (.iload_n 1, 1) := by decide +kernel
theorem dX4_findPress_41 : decode cX4_findPress 41 = .ok (.aaload, 1) := by decide +kernel
theorem dX4_findPress_42 : decode cX4_findPress 42 = .ok (.astore 4, 2) := by decide +kernel
theorem dX4_findPress_44 : decode cX4_findPress 44 = .ok (.aload 4, 2) := by decide +kernel
theorem dX4_findPress_46 : decode cX4_findPress 46 = .ok (.lload_n 2, 1) := by decide +kernel
theorem dX4_findPress_47 : decode cX4_findPress 47 = .ok (.aload_n 0, 1) := by decide +kernel
theorem dX4_findPress_48 : decode cX4_findPress 48 = .ok (.getfield 45, 3) := by decide +kernel
theorem dX4_findPress_51 : decode cX4_findPress 51 = .ok (.invokestatic 122, 3) := by decide +kernel
theorem dX4_findPress_54 : decode cX4_findPress 54 = .ok (.invokevirtual 125, 3) := by decide +kernel
theorem dX4_findPress_57 : decode cX4_findPress 57 = .ok (.istore 5, 2) := by decide +kernel
theorem dX4_findPress_59 : decode cX4_findPress 59 = .ok (.aload 4, 2) := by decide +kernel
theorem dX4_findPress_61 : decode cX4_findPress 61 = .ok (.iload 5, 2) := by decide +kernel
theorem dX4_findPress_63 : decode cX4_findPress 63 = .ok (.invokevirtual 129, 3) := by decide +kernel
theorem dX4_findPress_66 : decode cX4_findPress 66 = .ok (.istore 6, 2) := by decide +kernel
theorem dX4_findPress_68 : decode cX4_findPress 68 = .ok (.aload 4, 2) := by decide +kernel
theorem dX4_findPress_70 : decode cX4_findPress 70 = .ok (.getfield 132, 3) := by decide +kernel
theorem dX4_findPress_73 : decode cX4_findPress 73 = .ok (.iload 5, 2) := by decide +kernel
theorem dX4_findPress_75 : decode cX4_findPress 75 = .ok (.iaload, 1) := by decide +kernel
theorem dX4_findPress_76 : decode cX4_findPress 76 = .ok (.iload 6, 2) := by decide +kernel
theorem dX4_findPress_78 : decode cX4_findPress 78 = .ok (.imul, 1) := by decide +kernel
theorem dX4_findPress_79 : decode cX4_findPress 79 = .ok (.i2l, 1) := by decide +kernel
theorem dX4_findPress_80 : decode cX4_findPress 80 = .ok (.aload_n 0, 1) := by decide +kernel
theorem dX4_findPress_81 : decode cX4_findPress 81 = .ok (.getfield 45, 3) := by decide +kernel
theorem dX4_findPress_84 : decode cX4_findPress 84 = .ok (.lmul, 1) := by decide +kernel
theorem dX4_findPress_85 : decode cX4_findPress 85 = .ok (.lstore 7, 2) := by decide +kernel
theorem dX4_findPress_87 : decode cX4_findPress 87 = .ok (.lload_n 2, 1) := by decide +kernel
theorem dX4_findPress_88 : decode cX4_findPress 88 = .ok (.aload 4, 2) := by decide +kernel
theorem dX4_findPress_90 : decode cX4_findPress 90 = .ok (.getfield 135, 3) := by decide +kernel
theorem dX4_findPress_93 : decode cX4_findPress 93 = .ok (.iload 5, 2) := by decide +kernel
theorem dX4_findPress_95 : decode cX4_findPress 95 = .ok (.iaload, 1) := by decide +kernel
theorem dX4_findPress_96 : decode cX4_findPress 96 = .ok (.i2l, 1) := by decide +kernel
theorem dX4_findPress_97 : decode cX4_findPress 97 = .ok (.aload_n 0, 1) := by decide +kernel
theorem dX4_findPress_98 : decode cX4_findPress 98 = .ok (.getfield 45, 3) := by decide +kernel
theorem dX4_findPress_101 : decode cX4_findPress 101 = .ok (.lmul, 1) := by decide +kernel
theorem dX4_findPress_102 : decode cX4_findPress 102 = .ok (.lsub, 1) := by decide +kernel
theorem dX4_findPress_103 : decode cX4_findPress 103 = .ok (.aload 4, 2) := by decide +kernel
theorem dX4_findPress_105 : decode cX4_findPress 105 = .ok (.iload 5, 2) := by decide +kernel
theorem dX4_findPress_107 : decode cX4_findPress 107 = .ok (.invokevirtual 138, 3) := by decide +kernel
theorem dX4_findPress_110 : decode cX4_findPress 110 = .ok (.i2l, 1) := by decide +kernel
theorem dX4_findPress_111 : decode cX4_findPress 111 = .ok (.lmul, 1) := by decide +kernel
theorem dX4_findPress_112 : decode cX4_findPress 112 = .ok (.lstore 9, 2) := by decide +kernel
theorem dX4_findPress_114 : decode cX4_findPress 114 = .ok (.aload_n 0, 1) := by decide +kernel
theorem dX4_findPress_115 : decode cX4_findPress 115 = .ok (.getfield 48, 3) := by decide +kernel
theorem dX4_findPress_118 : decode cX4_findPress 118 = .ok (.iload_n 1, 1) := by decide +kernel
theorem dX4_findPress_119 : decode cX4_findPress 119 = .ok (.aload_n 0, 1) := by decide +kernel
theorem dX4_findPress_120 : decode cX4_findPress 120 = .ok (.iload_n 1, 1) := by decide +kernel
theorem dX4_findPress_121 : decode cX4_findPress 121 = .ok (.invokevirtual 108, 3) := by decide +kernel
theorem dX4_findPress_124 : decode cX4_findPress 124 = .ok (.lload 7, 2) := by decide +kernel
theorem dX4_findPress_126 : decode cX4_findPress 126 = .ok (.lload 9, 2) := by decide +kernel
theorem dX4_findPress_128 : decode cX4_findPress 128 = .ok (.ladd, 1) := by decide +kernel
theorem dX4_findPress_129 : decode cX4_findPress 129 = .ok (.lmul, 1) := by decide +kernel
theorem dX4_findPress_130 : decode cX4_findPress 130 = .ok (.lastore, 1) := by decide +kernel
theorem dX4_findPress_131 : decode cX4_findPress 131 = .ok (.aload_n 0, 1) := by decide +kernel
theorem dX4_findPress_132 : decode cX4_findPress 132 = .ok (.getfield 52, 3) := by decide +kernel
theorem dX4_findPress_135 : decode cX4_findPress 135 = .ok (.iload_n 1, 1) := by decide +kernel
theorem dX4_findPress_136 : decode cX4_findPress 136 = .ok (.iload 6, 2) := by decide +kernel
theorem dX4_findPress_138 : decode cX4_findPress 138 = .ok (.iastore, 1) := by decide +kernel
theorem dX4_findPress_139 : decode cX4_findPress 139 = .ok (.return_, 1) := by decide +kernel
theorem dX4_pressDown_0 : decode cX4_pressDown 0 = .ok (.aload_n 0, 1) := by decide +kernel
theorem dX4_pressDown_1 : decode cX4_pressDown 1 = .ok (.getfield 52, 3) := by decide +kernel
theorem dX4_pressDown_4 : decode cX4_pressDown 4 = .ok (.iload_n 1, 1) := by decide +kernel
theorem dX4_pressDown_5 : decode cX4_pressDown 5 = .ok (.iaload, 1) := by decide +kernel
theorem dX4_pressDown_6 : decode cX4_pressDown 6 = .ok (.i2l, 1) := by decide +kernel
theorem dX4_pressDown_7 : decode cX4_pressDown 7 = .ok (.aload_n 0, 1) := by decide +kernel
theorem dX4_pressDown_8 : decode cX4_pressDown 8 = .ok (.getfield 45, 3) := by decide +kernel
theorem dX4_pressDown_11 : decode cX4_pressDown 11 = .ok (.lmul, 1) := by decide +kernel
theorem dX4_pressDown_12 : decode cX4_pressDown 12 = .ok (.lreturn, 1) := by decide +kernel
theorem dX4_cutPress_0 : decode cX4_cutPress 0 = .ok (.aload_n 0, 1) := by decide +kernel
theorem dX4_cutPress_1 : decode cX4_cutPress 1 = .ok (.getfield 48, 3) := by decide +kernel
theorem dX4_cutPress_4 : decode cX4_cutPress 4 = .ok (.iload_n 1, 1) := by decide +kernel
theorem dX4_cutPress_5 : decode cX4_cutPress 5 = .ok (.laload, 1) := by decide +kernel
theorem dX4_cutPress_6 : decode cX4_cutPress 6 = .ok (.aload_n 0, 1) := by decide +kernel
theorem dX4_cutPress_7 : decode cX4_cutPress 7 = .ok (.iload_n 1, 1) := by decide +kernel
theorem dX4_cutPress_8 : decode cX4_cutPress 8 = .ok (.invokevirtual 141, 3) := by decide +kernel
theorem dX4_cutPress_11 : decode cX4_cutPress 11 = .ok (.invokestatic 122, 3) := by decide +kernel
theorem dX4_cutPress_14 : decode cX4_cutPress 14 = .ok (.l2i, 1) := by decide +kernel
theorem dX4_cutPress_15 : decode cX4_cutPress 15 = .ok (.ireturn, 1) := by decide +kernel
theorem dX4_pressesLess_0 : decode cX4_pressesLess 0 = .ok (.aload_n 0, 1) := by decide +kernel
theorem dX4_pressesLess_1 : decode cX4_pressesLess 1 = .ok (.getfield 48, 3) := by decide +kernel
theorem dX4_pressesLess_4 : decode cX4_pressesLess 4 = .ok (.iload_n 1, 1) := by decide +kernel
theorem dX4_pressesLess_5 : decode cX4_pressesLess 5 = .ok (.laload, 1) := by decide +kernel
theorem dX4_pressesLess_6 : decode cX4_pressesLess 6 = .ok (.aload_n 0, 1) := by decide +kernel
theorem dX4_pressesLess_7 : decode cX4_pressesLess 7 = .ok (.getfield 52, 3) := by decide +kernel
theorem dX4_pressesLess_10 : decode cX4_pressesLess 10 = .ok (.iload_n 2, 1) := by decide +kernel
theorem dX4_pressesLess_11 : decode cX4_pressesLess 11 = .ok (.iaload, 1) := by decide +kernel
theorem dX4_pressesLess_12 : decode cX4_pressesLess 12 = .ok (.i2l, 1) := by decide +kernel
theorem dX4_pressesLess_13 : decode cX4_pressesLess 13 = .ok (.lmul, 1) := by decide +kernel
theorem dX4_pressesLess_14 : decode cX4_pressesLess 14 = .ok (.aload_n 0, 1) := by decide +kernel
theorem dX4_pressesLess_15 : decode cX4_pressesLess 15 = .ok (.getfield 48, 3) := by decide +kernel
theorem dX4_pressesLess_18 : decode cX4_pressesLess 18 = .ok (.iload_n 2, 1) := by decide +kernel
theorem dX4_pressesLess_19 : decode cX4_pressesLess 19 = .ok (.laload, 1) := by decide +kernel
theorem dX4_pressesLess_20 : decode cX4_pressesLess 20 = .ok (.aload_n 0, 1) := by decide +kernel
theorem dX4_pressesLess_21 : decode cX4_pressesLess 21 = .ok (.getfield 52, 3) := by decide +kernel
theorem dX4_pressesLess_24 : decode cX4_pressesLess 24 = .ok (.iload_n 1, 1) := by decide +kernel
theorem dX4_pressesLess_25 : decode cX4_pressesLess 25 = .ok (.iaload, 1) := by decide +kernel
theorem dX4_pressesLess_26 : decode cX4_pressesLess 26 = .ok (.i2l, 1) := by decide +kernel
theorem dX4_pressesLess_27 : decode cX4_pressesLess 27 = .ok (.lmul, 1) := by decide +kernel
theorem dX4_pressesLess_28 : decode cX4_pressesLess 28 = .ok (.lcmp, 1) := by decide +kernel
theorem dX4_pressesLess_29 : decode cX4_pressesLess 29 = .ok (.ifCond .ge 7, 3) := by decide +kernel
theorem dX4_pressesLess_32 : decode cX4_pressesLess 32 = .ok (.iconst 1, 1) := by decide +kernel
theorem dX4_pressesLess_33 : decode cX4_pressesLess 33 = .ok (.goto 4, 3) := by decide +kernel
theorem dX4_pressesLess_36 : decode cX4_pressesLess 36 = .ok (.iconst 0, 1) := by decide +kernel
theorem dX4_pressesLess_37 : decode cX4_pressesLess 37 = .ok (.ireturn, 1) := by decide +kernel
theorem dX4_isOpen_0 : decode cX4_isOpen 0 = .ok (.aload_n 0, 1) := by decide +kernel
theorem dX4_isOpen_1 : decode cX4_isOpen 1 = .ok (.getfield 15, 3) := by decide +kernel
theorem dX4_isOpen_4 : decode cX4_isOpen 4 = .ok (.iload_n 1, 1) := by decide +kernel
theorem dX4_isOpen_5 : decode cX4_isOpen 5 = .ok (.baload, 1) := by decide +kernel
theorem dX4_isOpen_6 : decode cX4_isOpen 6 = .ok (.ifCond .eq 28, 3) := by decide +kernel
theorem dX4_isOpen_9 : decode cX4_isOpen 9 = .ok (.aload_n 0, 1) := by decide +kernel
theorem dX4_isOpen_10 : decode cX4_isOpen 10 = .ok (.getfield 48, 3) := by decide +kernel
theorem dX4_isOpen_13 : decode cX4_isOpen 13 = .ok (.iload_n 1, 1) := by decide +kernel
theorem dX4_isOpen_14 : decode cX4_isOpen 14 = .ok (.laload, 1) := by decide +kernel
theorem dX4_isOpen_15 : decode cX4_isOpen 15 = .ok (.aload_n 0, 1) := by decide +kernel
theorem dX4_isOpen_16 : decode cX4_isOpen 16 = .ok (.getfield 38, 3) := by decide +kernel
theorem dX4_isOpen_19 : decode cX4_isOpen 19 = .ok (.i2l, 1) := by decide +kernel
theorem dX4_isOpen_20 : decode cX4_isOpen 20 = .ok (.aload_n 0, 1) := by decide +kernel
theorem dX4_isOpen_21 : decode cX4_isOpen 21 = .ok (.iload_n 1, 1) := by decide +kernel
theorem dX4_isOpen_22 : decode cX4_isOpen 22 = .ok (.invokevirtual 141, 3) := by decide +kernel
theorem dX4_isOpen_25 : decode cX4_isOpen 25 = .ok (.lmul, 1) := by decide +kernel
theorem dX4_isOpen_26 : decode cX4_isOpen 26 = .ok (.lcmp, 1) := by decide +kernel
theorem dX4_isOpen_27 : decode cX4_isOpen 27 = .ok (.ifCond .ge 7, 3) := by decide +kernel
theorem dX4_isOpen_30 : decode cX4_isOpen 30 = .ok (.iconst 1, 1) := by decide +kernel
theorem dX4_isOpen_31 : decode cX4_isOpen 31 = .ok (.goto 4, 3) := by decide +kernel
theorem dX4_isOpen_34 : decode cX4_isOpen 34 = .ok (.iconst 0, 1) := by decide +kernel
theorem dX4_isOpen_35 : decode cX4_isOpen 35 = .ok (.ireturn, 1) := by decide +kernel
theorem dX4_openPlaces_0 : decode cX4_openPlaces 0 = .ok (.iconst 0, 1) := by decide +kernel
theorem dX4_openPlaces_1 : decode cX4_openPlaces 1 = .ok (.istore_n 1, 1) := by decide +kernel
theorem dX4_openPlaces_2 : decode cX4_openPlaces 2 = .ok (.iconst 0, 1) := by decide +kernel
theorem dX4_openPlaces_3 : decode cX4_openPlaces 3 = .ok (.istore_n 2, 1) := by decide +kernel
theorem dX4_openPlaces_4 : decode cX4_openPlaces 4 = .ok (.iload_n 2, 1) := by decide +kernel
theorem dX4_openPlaces_5 : decode cX4_openPlaces 5 = .ok (.iconst 4, 1) := by decide +kernel
theorem dX4_openPlaces_6 : decode cX4_openPlaces 6 = .ok (.if_icmp .ge 23, 3) := by decide +kernel
theorem dX4_openPlaces_9 : decode cX4_openPlaces 9 = .ok (.aload_n 0, 1) := by decide +kernel
theorem dX4_openPlaces_10 : decode cX4_openPlaces 10 = .ok (.iload_n 2, 1) := by decide +kernel
theorem dX4_openPlaces_11 : decode cX4_openPlaces 11 = .ok (.invokevirtual 144, 3) := by decide +kernel
theorem dX4_openPlaces_14 : decode cX4_openPlaces 14 = .ok (.ifCond .eq 9, 3) := by decide +kernel
theorem dX4_openPlaces_17 : decode cX4_openPlaces 17 = .ok (.iload_n 1, 1) := by decide +kernel
theorem dX4_openPlaces_18 : decode cX4_openPlaces 18 = .ok (.iconst 1, 1) := by decide +kernel
theorem dX4_openPlaces_19 : decode cX4_openPlaces 19 = .ok (.iload_n 2, 1) := by decide +kernel
theorem dX4_openPlaces_20 : decode cX4_openPlaces 20 = .ok (.ishl, 1) := by decide +kernel
theorem dX4_openPlaces_21 : decode cX4_openPlaces 21 = .ok (.ior, 1) := by decide +kernel
theorem dX4_openPlaces_22 : decode cX4_openPlaces 22 = .ok (.istore_n 1, 1) := by decide +kernel
theorem dX4_openPlaces_23 : decode cX4_openPlaces 23 = .ok (.iinc 2 1, 3) := by decide +kernel
theorem dX4_openPlaces_26 : decode cX4_openPlaces 26 = .ok (.goto (-22), 3) := by decide +kernel
theorem dX4_openPlaces_29 : decode cX4_openPlaces 29 = .ok (.iload_n 1, 1) := by decide +kernel
theorem dX4_openPlaces_30 : decode cX4_openPlaces 30 = .ok (.ireturn, 1) := by decide +kernel
theorem dX4_leakAt_0 : decode cX4_leakAt 0 = .ok (.aload_n 0, 1) := by decide +kernel
theorem dX4_leakAt_1 : decode cX4_leakAt 1 = .ok (.getfield 22, 3) := by decide +kernel
theorem dX4_leakAt_4 : decode cX4_leakAt 4 = .ok (.iload_n 1, 1) := by decide +kernel
theorem dX4_leakAt_5 : decode cX4_leakAt 5 = .ok (.iaload, 1) := by decide +kernel
theorem dX4_leakAt_6 : decode cX4_leakAt 6 = .ok (.i2l, 1) := by decide +kernel
theorem dX4_leakAt_7 : decode cX4_leakAt 7 = .ok (.aload_n 0, 1) := by decide +kernel
theorem dX4_leakAt_8 : decode cX4_leakAt 8 = .ok (.getfield 38, 3) := by decide +kernel
theorem dX4_leakAt_11 : decode cX4_leakAt 11 = .ok (.i2l, 1) := by decide +kernel
theorem dX4_leakAt_12 : decode cX4_leakAt 12 = .ok (.aload_n 0, 1) := by decide +kernel
theorem dX4_leakAt_13 : decode cX4_leakAt 13 = .ok (.iload_n 1, 1) := by decide +kernel
theorem dX4_leakAt_14 : decode cX4_leakAt 14 = .ok (.invokevirtual 141, 3) := by decide +kernel
theorem dX4_leakAt_17 : decode cX4_leakAt 17 = .ok (.lmul, 1) := by decide +kernel
theorem dX4_leakAt_18 : decode cX4_leakAt 18 = .ok (.aload_n 0, 1) := by decide +kernel
theorem dX4_leakAt_19 : decode cX4_leakAt 19 = .ok (.getfield 48, 3) := by decide +kernel
theorem dX4_leakAt_22 : decode cX4_leakAt 22 = .ok (.iload_n 1, 1) := by decide +kernel
theorem dX4_leakAt_23 : decode cX4_leakAt 23 = .ok (.laload, 1) := by decide +kernel
theorem dX4_leakAt_24 : decode cX4_leakAt 24 = .ok (.lsub, 1) := by decide +kernel
theorem dX4_leakAt_25 : decode cX4_leakAt 25 = .ok (.lmul, 1) := by decide +kernel
theorem dX4_leakAt_26 : decode cX4_leakAt 26 = .ok (.aload_n 0, 1) := by decide +kernel
theorem dX4_leakAt_27 : decode cX4_leakAt 27 = .ok (.iload_n 1, 1) := by decide +kernel
theorem dX4_leakAt_28 : decode cX4_leakAt 28 = .ok (.invokevirtual 141, 3) := by decide +kernel
theorem dX4_leakAt_31 : decode cX4_leakAt 31 = .ok (.invokestatic 122, 3) := by decide +kernel
theorem dX4_leakAt_34 : decode cX4_leakAt 34 = .ok (.l2i, 1) := by decide +kernel
theorem dX4_leakAt_35 : decode cX4_leakAt 35 = .ok (.ireturn, 1) := by decide +kernel
theorem dX4_touchesPart_0 : decode cX4_touchesPart 0 = .ok (.iconst 0, 1) := by decide +kernel
theorem dX4_touchesPart_1 : decode cX4_touchesPart 1 = .ok (.istore_n 1, 1) := by decide +kernel
theorem dX4_touchesPart_2 : decode cX4_touchesPart 2 = .ok (.iload_n 1, 1) := by decide +kernel
theorem dX4_touchesPart_3 : decode cX4_touchesPart 3 = .ok (.iconst 4, 1) := by decide +kernel
theorem dX4_touchesPart_4 : decode cX4_touchesPart 4 = .ok (.if_icmp .ge 40, 3) := by decide +kernel
theorem dX4_touchesPart_7 : decode cX4_touchesPart 7 = .ok (.aload_n 0, 1) := by decide +kernel
theorem dX4_touchesPart_8 : decode cX4_touchesPart 8 = .ok (.getfield 9, 3) := by decide +kernel
theorem dX4_touchesPart_11 : decode cX4_touchesPart 11 = .ok (.iload_n 1, 1) := by decide +kernel
theorem dX4_touchesPart_12 : decode cX4_touchesPart 12 = .ok (.baload, 1) := by decide +kernel
theorem dX4_touchesPart_13 : decode cX4_touchesPart 13 = .ok (.ifCond .eq 25, 3) := by decide +kernel
theorem dX4_touchesPart_16 : decode cX4_touchesPart 16 = .ok (.aload_n 0, 1) := by decide +kernel
theorem dX4_touchesPart_17 : decode cX4_touchesPart 17 = .ok (.getfield 18, 3) := by decide +kernel
theorem dX4_touchesPart_20 : decode cX4_touchesPart 20 = .ok (.iload_n 1, 1) := by decide +kernel
theorem dX4_touchesPart_21 : decode cX4_touchesPart 21 = .ok (.iaload, 1) := by decide +kernel
theorem dX4_touchesPart_22 : decode cX4_touchesPart 22 = .ok (.i2l, 1) := by decide +kernel
theorem dX4_touchesPart_23 : decode cX4_touchesPart 23 = .ok (.aload_n 0, 1) := by decide +kernel
theorem dX4_touchesPart_24 : decode cX4_touchesPart 24 = .ok (.getfield 45, 3) := by decide +kernel
theorem dX4_touchesPart_27 : decode cX4_touchesPart 27 = .ok (.lmul, 1) := by decide +kernel
theorem dX4_touchesPart_28 : decode cX4_touchesPart 28 = .ok (.aload_n 0, 1) := by decide +kernel
theorem dX4_touchesPart_29 : decode cX4_touchesPart 29 = .ok (.getfield 41, 3) := by decide +kernel
theorem dX4_touchesPart_32 : decode cX4_touchesPart 32 = .ok (.lcmp, 1) := by decide +kernel
theorem dX4_touchesPart_33 : decode cX4_touchesPart 33 = .ok (.ifCond .ne 5, 3) := by decide +kernel
theorem dX4_touchesPart_36 : decode cX4_touchesPart 36 = .ok (.iconst 1, 1) := by decide +kernel
theorem dX4_touchesPart_37 : decode cX4_touchesPart 37 = .ok (.ireturn, 1) := by decide +kernel
theorem dX4_touchesPart_38 : decode cX4_touchesPart 38 = .ok (.iinc 1 1, 3) := by decide +kernel
theorem dX4_touchesPart_41 : decode cX4_touchesPart 41 = .ok (.goto (-39), 3) := by decide +kernel
theorem dX4_touchesPart_44 : decode cX4_touchesPart 44 = .ok (.iconst 0, 1) := by decide +kernel
theorem dX4_touchesPart_45 : decode cX4_touchesPart 45 = .ok (.ireturn, 1) := by decide +kernel
theorem dX5_row_0 : decode cX5_row 0 = .ok (.iload_n 1, 1) := by decide +kernel
theorem dX5_row_1 : decode cX5_row 1 = .ok (.invokestatic 79, 3) := by decide +kernel
theorem dX5_row_4 : decode cX5_row 4 = .ok (.ifCond .eq 9, 3) := by decide +kernel
theorem dX5_row_7 : decode cX5_row 7 = .ok (.iload_n 2, 1) := by decide +kernel
theorem dX5_row_8 : decode cX5_row 8 = .ok (.bipush 40, 2) := by decide +kernel
theorem dX5_row_10 : decode cX5_row 10 = .ok (.if_icmp .le 5, 3) := by decide +kernel
theorem dX5_row_13 : decode cX5_row 13 = .ok (.iconst (-1), 1) := by decide +kernel
theorem dX5_row_14 : decode cX5_row 14 = .ok (.ireturn, 1) := by decide +kernel
theorem dX5_row_15 : decode cX5_row 15 = .ok (.iload_n 2, 1) := by decide +kernel
theorem dX5_row_16 : decode cX5_row 16 = .ok (.ifCond .ge 9, 3) := by decide +kernel
theorem dX5_row_19 : decode cX5_row 19 = .ok (.aload_n 0, 1) := by decide +kernel
theorem dX5_row_20 : decode cX5_row 20 = .ok (.iconst 5, 1) := by decide +kernel
theorem dX5_row_21 : decode cX5_row 21 = .ok (.invokevirtual 83, 3) := by decide +kernel
theorem dX5_row_24 : decode cX5_row 24 = .ok (.ireturn, 1) := by decide +kernel
theorem dX5_row_25 : decode cX5_row 25 = .ok (.aload_n 0, 1) := by decide +kernel
theorem dX5_row_26 : decode cX5_row 26 = .ok (.getfield 11, 3) := by decide +kernel
theorem dX5_row_29 : decode cX5_row 29 = .ok (.iload_n 1, 1) := by decide +kernel
theorem dX5_row_30 : decode cX5_row 30 = .ok (.aaload, 1) := by decide +kernel
theorem dX5_row_31 : decode cX5_row 31 = .ok (.iload_n 2, 1) := by decide +kernel
theorem dX5_row_32 : decode cX5_row 32 = .ok (.iconst 0, 1) := by decide +kernel
theorem dX5_row_33 : decode cX5_row 33 = .ok (.invokevirtual 87, 3) := by decide +kernel
theorem dX5_row_36 : decode cX5_row 36 = .ok (.iload_n 2, 1) := by decide +kernel
theorem dX5_row_37 : decode cX5_row 37 = .ok (.ireturn, 1) := by decide +kernel
theorem dX5_lay_0 : decode cX5_lay 0 = .ok (.iload_n 1, 1) := by decide +kernel
theorem dX5_lay_1 : decode cX5_lay 1 = .ok (.invokestatic 79, 3) := by decide +kernel
theorem dX5_lay_4 : decode cX5_lay 4 = .ok (.ifCond .ne 5, 3) := by decide +kernel
theorem dX5_lay_7 : decode cX5_lay 7 = .ok (.iconst (-1), 1) := by decide +kernel
theorem dX5_lay_8 : decode cX5_lay 8 = .ok (.ireturn, 1) := by decide +kernel
theorem dX5_lay_9 : decode cX5_lay 9 = .ok (.aload_n 0, 1) := by decide +kernel
theorem dX5_lay_10 : decode cX5_lay 10 = .ok (.getfield 11, 3) := by decide +kernel
theorem dX5_lay_13 : decode cX5_lay 13 = .ok (.iload_n 1, 1) := by decide +kernel
theorem dX5_lay_14 : decode cX5_lay 14 = .ok (.aaload, 1) := by decide +kernel
theorem dX5_lay_15 : decode cX5_lay 15 = .ok (.astore 4, 2) := by decide +kernel
theorem dX5_lay_17 : decode cX5_lay 17 = .ok (.aload 4, 2) := by decide +kernel
theorem dX5_lay_19 : decode cX5_lay 19 = .ok (.invokevirtual 91, 3) := by decide +kernel
theorem dX5_lay_22 : decode cX5_lay 22 = .ok (.ifCond .eq 9, 3) := by decide +kernel
theorem dX5_lay_25 : decode cX5_lay 25 = .ok (.aload_n 0, 1) := by decide +kernel
theorem dX5_lay_26 : decode cX5_lay 26 = .ok (.iconst 1, 1) := by decide +kernel
theorem dX5_lay_27 : decode cX5_lay 27 = .ok (.invokevirtual 83, 3) := by decide +kernel
theorem dX5_lay_30 : decode cX5_lay 30 = .ok (.ireturn, 1) := by decide +kernel
theorem dX5_lay_31 : decode cX5_lay 31 = .ok (.aload 4, 2) := by decide +kernel
theorem dX5_lay_33 : decode cX5_lay 33 = .ok (.iload_n 2, 1) := by decide +kernel
theorem dX5_lay_34 : decode cX5_lay 34 = .ok (.invokevirtual 95, 3) := by decide +kernel
theorem dX5_lay_37 : decode cX5_lay 37 = .ok (.ifCond .ne 9, 3) := by decide +kernel
theorem dX5_lay_40 : decode cX5_lay 40 = .ok (.aload_n 0, 1) := by decide +kernel
theorem dX5_lay_41 : decode cX5_lay 41 = .ok (.iconst 2, 1) := by decide +kernel
theorem dX5_lay_42 : decode cX5_lay 42 = .ok (.invokevirtual 83, 3) := by decide +kernel
theorem dX5_lay_45 : decode cX5_lay 45 = .ok (.ireturn, 1) := by decide +kernel
theorem dX5_lay_46 : decode cX5_lay 46 = .ok (.aload_n 0, 1) := by decide +kernel
theorem dX5_lay_47 : decode cX5_lay 47 = .ok (.aload 4, 2) := by decide +kernel
theorem dX5_lay_49 : decode cX5_lay 49 = .ok (.getfield 98, 3) := by decide +kernel
theorem dX5_lay_52 : decode cX5_lay 52 = .ok (.iload_n 2, 1) := by decide +kernel
theorem dX5_lay_53 : decode cX5_lay 53 = .ok (.iaload, 1) := by decide +kernel
theorem dX5_lay_54 : decode cX5_lay 54 = .ok (.putfield 64, 3) := by decide +kernel
theorem dX5_lay_57 : decode cX5_lay 57 = .ok (.aload 4, 2) := by decide +kernel
theorem dX5_lay_59 : decode cX5_lay 59 = .ok (.getfield 98, 3) := by decide +kernel
theorem dX5_lay_62 : decode cX5_lay 62 = .ok (.iload_n 2, 1) := by decide +kernel
theorem dX5_lay_63 : decode cX5_lay 63 = .ok (.iload_n 3, 1) := by decide +kernel
theorem dX5_lay_64 : decode cX5_lay 64 = .ok (.iastore, 1) := by decide +kernel
theorem dX5_lay_65 : decode cX5_lay 65 = .ok (.iconst 1, 1) := by decide +kernel
theorem dX5_lay_66 : decode cX5_lay 66 = .ok (.ireturn, 1) := by decide +kernel
theorem dX5_tear_0 : decode cX5_tear 0 = .ok (.iload_n 1, 1) := by decide +kernel
theorem dX5_tear_1 : decode cX5_tear 1 = .ok (.invokestatic 79, 3) := by decide +kernel
theorem dX5_tear_4 : decode cX5_tear 4 = .ok (.ifCond .ne 5, 3) := by decide +kernel
theorem dX5_tear_7 : decode cX5_tear 7 = .ok (.iconst (-1), 1) := by decide +kernel
theorem dX5_tear_8 : decode cX5_tear 8 = .ok (.ireturn, 1) := by decide +kernel
theorem dX5_tear_9 : decode cX5_tear 9 = .ok (.aload_n 0, 1) := by decide +kernel
theorem dX5_tear_10 : decode cX5_tear 10 = .ok (.getfield 11, 3) := by decide +kernel
theorem dX5_tear_13 : decode cX5_tear 13 = .ok (.iload_n 1, 1) := by decide +kernel
theorem dX5_tear_14 : decode cX5_tear 14 = .ok (.aaload, 1) := by decide +kernel
theorem dX5_tear_15 : decode cX5_tear 15 = .ok (.invokevirtual 91, 3) := by decide +kernel
theorem dX5_tear_18 : decode cX5_tear 18 = .ok (.ifCond .eq 9, 3) := by decide +kernel
theorem dX5_tear_21 : decode cX5_tear 21 = .ok (.aload_n 0, 1) := by decide +kernel
theorem dX5_tear_22 : decode cX5_tear 22 = .ok (.iconst 1, 1) := by decide +kernel
theorem dX5_tear_23 : decode cX5_tear 23 = .ok (.invokevirtual 83, 3) := by decide +kernel
theorem dX5_tear_26 : decode cX5_tear 26 = .ok (.ireturn, 1) := by decide +kernel
theorem dX5_tear_27 : decode cX5_tear 27 = .ok (.aload_n 0, 1) := by decide +kernel
theorem dX5_tear_28 : decode cX5_tear 28 = .ok (.getfield 11, 3) := by decide +kernel
theorem dX5_tear_31 : decode cX5_tear 31 = .ok (.iload_n 1, 1) := by decide +kernel
theorem dX5_tear_32 : decode cX5_tear 32 = .ok (.aaload, 1) := by decide +kernel
theorem dX5_tear_33 : decode cX5_tear 33 = .ok (.iconst (-1), 1) := by decide +kernel
theorem dX5_tear_34 : decode cX5_tear 34 = .ok (.putfield 101, 3) := by decide +kernel
theorem dX5_tear_37 : decode cX5_tear 37 = .ok (.iconst 1, 1) := by decide +kernel
theorem dX5_tear_38 : decode cX5_tear 38 = .ok (.ireturn, 1) := by decide +kernel
theorem dX5_copy_0 : decode cX5_copy 0 = .ok (.iload_n 1, 1) := by decide +kernel
theorem dX5_copy_1 : decode cX5_copy 1 = .ok (.invokestatic 79, 3) := by decide +kernel
theorem dX5_copy_4 : decode cX5_copy 4 = .ok (.ifCond .eq 10, 3) := by decide +kernel
theorem dX5_copy_7 : decode cX5_copy 7 = .ok (.iload_n 3, 1) := by decide +kernel
theorem dX5_copy_8 : decode cX5_copy 8 = .ok (.invokestatic 79, 3) := by decide +kernel
theorem dX5_copy_11 : decode cX5_copy 11 = .ok (.ifCond .ne 5, 3) := by decide +kernel
theorem dX5_copy_14 : decode cX5_copy 14 = .ok (.iconst (-1), 1) := by decide +kernel
theorem dX5_copy_15 : decode cX5_copy 15 = .ok (.ireturn, 1) := by decide +kernel
theorem dX5_copy_16 : decode cX5_copy 16 = .ok (.iload 5, 2) := by decide +kernel
theorem dX5_copy_18 : decode cX5_copy 18 = .ok (.ifCond .ge 9, 3) := by decide +kernel
theorem dX5_copy_21 : decode cX5_copy 21 = .ok (.aload_n 0, 1) := by decide +kernel
theorem dX5_copy_22 : decode cX5_copy 22 = .ok (.iconst 5, 1) := by decide +kernel
theorem dX5_copy_23 : decode cX5_copy 23 = .ok (.invokevirtual 83, 3) := by decide +kernel
theorem dX5_copy_26 : decode cX5_copy 26 = .ok (.ireturn, 1) := by decide +kernel
theorem dX5_copy_27 : decode cX5_copy 27 = .ok (.aload_n 0, 1) := by decide +kernel
theorem dX5_copy_28 : decode cX5_copy 28 = .ok (.getfield 11, 3) := by decide +kernel
theorem dX5_copy_31 : decode cX5_copy 31 = .ok (.iload_n 1, 1) := by decide +kernel
theorem dX5_copy_32 : decode cX5_copy 32 = .ok (.aaload, 1) := by decide +kernel
theorem dX5_copy_33 : decode cX5_copy 33 = .ok (.astore 6, 2) := by decide +kernel
theorem dX5_copy_35 : decode cX5_copy 35 = .ok (.aload_n 0, 1) := by decide +kernel
theorem dX5_copy_36 : decode cX5_copy 36 = .ok (.getfield 11, 3) := by decide +kernel
theorem dX5_copy_39 : decode cX5_copy 39 = .ok (.iload_n 3, 1) := by decide +kernel
theorem dX5_copy_40 : decode cX5_copy 40 = .ok (.aaload, 1) := by decide +kernel
theorem dX5_copy_41 : decode cX5_copy 41 = .ok (.astore 7, 2) := by decide +kernel
theorem dX5_copy_43 : decode cX5_copy 43 = .ok (.aload 6, 2) := by decide +kernel
theorem dX5_copy_45 : decode cX5_copy 45 = .ok (.invokevirtual 91, 3) := by decide +kernel
theorem dX5_copy_48 : decode cX5_copy 48 = .ok (.ifCond .ne 11, 3) := by decide +kernel
theorem dX5_copy_51 : decode cX5_copy 51 = .ok (.aload 7, 2) := by decide +kernel
theorem dX5_copy_53 : decode cX5_copy 53 = .ok (.invokevirtual 91, 3) := by decide +kernel
theorem dX5_copy_56 : decode cX5_copy 56 = .ok (.ifCond .eq 9, 3) := by decide +kernel
theorem dX5_copy_59 : decode cX5_copy 59 = .ok (.aload_n 0, 1) := by decide +kernel
theorem dX5_copy_60 : decode cX5_copy 60 = .ok (.iconst 1, 1) := by decide +kernel
theorem dX5_copy_61 : decode cX5_copy 61 = .ok (.invokevirtual 83, 3) := by decide +kernel
theorem dX5_copy_64 : decode cX5_copy 64 = .ok (.ireturn, 1) := by decide +kernel
theorem dX5_copy_65 : decode cX5_copy 65 = .ok (.aload 6, 2) := by decide +kernel
theorem dX5_copy_67 : decode cX5_copy 67 = .ok (.iload_n 2, 1) := by decide +kernel
theorem dX5_copy_68 : decode cX5_copy 68 = .ok (.iload 5, 2) := by decide +kernel
theorem dX5_copy_70 : decode cX5_copy 70 = .ok (.invokevirtual 104, 3) := by decide +kernel
theorem dX5_copy_73 : decode cX5_copy 73 = .ok (.ifCond .eq 15, 3) := by decide +kernel
theorem dX5_copy_76 : decode cX5_copy 76 = .ok (.aload 7, 2) := by decide +kernel
theorem dX5_copy_78 : decode cX5_copy 78 = .ok (.iload 4, 2) := by decide +kernel
theorem dX5_copy_80 : decode cX5_copy 80 = .ok (.iload 5, 2) := by decide +kernel
theorem dX5_copy_82 : decode cX5_copy 82 = .ok (.invokevirtual 104, 3) := by decide +kernel
theorem dX5_copy_85 : decode cX5_copy 85 = .ok (.ifCond .ne 9, 3) := by decide +kernel
theorem dX5_copy_88 : decode cX5_copy 88 = .ok (.aload_n 0, 1) := by decide +kernel
theorem dX5_copy_89 : decode cX5_copy 89 = .ok (.iconst 2, 1) := by decide +kernel
theorem dX5_copy_90 : decode cX5_copy 90 = .ok (.invokevirtual 83, 3) := by decide +kernel
theorem dX5_copy_93 : decode cX5_copy 93 = .ok (.ireturn, 1) := by decide +kernel
theorem dX5_copy_94 : decode cX5_copy 94 = .ok (.aload 6, 2) := by decide +kernel
theorem dX5_copy_96 : decode cX5_copy 96 = .ok (.getfield 98, 3) := by decide +kernel
theorem dX5_copy_99 : decode cX5_copy 99 = .ok (.iload_n 2, 1) := by decide +kernel
theorem dX5_copy_100 : decode cX5_copy 100 = .ok (.aload 7, 2) := by decide +kernel
theorem dX5_copy_102 : decode cX5_copy 102 = .ok (.getfield 98, 3) := by decide +kernel
theorem dX5_copy_105 : decode cX5_copy 105 = .ok (.iload 4, 2) := by decide +kernel
theorem dX5_copy_107 : decode cX5_copy 107 = .ok (.iload 5, 2) := by decide +kernel
theorem dX5_copy_109 : decode cX5_copy 109 = .ok (.invokestatic 108, 3) := by decide +kernel
theorem dX5_copy_112 : decode cX5_copy 112 = .ok (.iconst 1, 1) := by decide +kernel
theorem dX5_copy_113 : decode cX5_copy 113 = .ok (.ireturn, 1) := by decide +kernel
theorem dX5_mean_0 : decode cX5_mean 0 = .ok (.iload_n 1, 1) := by decide +kernel
theorem dX5_mean_1 : decode cX5_mean 1 = .ok (.invokestatic 79, 3) := by decide +kernel
theorem dX5_mean_4 : decode cX5_mean 4 = .ok (.ifCond .ne 5, 3) := by decide +kernel
theorem dX5_mean_7 : decode cX5_mean 7 = .ok (.iconst (-1), 1) := by decide +kernel
theorem dX5_mean_8 : decode cX5_mean 8 = .ok (.ireturn, 1) := by decide +kernel
theorem dX5_mean_9 : decode cX5_mean 9 = .ok (.aload_n 0, 1) := by decide +kernel
theorem dX5_mean_10 : decode cX5_mean 10 = .ok (.getfield 11, 3) := by decide +kernel
theorem dX5_mean_13 : decode cX5_mean 13 = .ok (.iload_n 1, 1) := by decide +kernel
theorem dX5_mean_14 : decode cX5_mean 14 = .ok (.aaload, 1) := by decide +kernel
theorem dX5_mean_15 : decode cX5_mean 15 = .ok (.astore_n 2, 1) := by decide +kernel
theorem dX5_mean_16 : decode cX5_mean 16 = .ok (.aload_n 2, 1) := by decide +kernel
theorem dX5_mean_17 : decode cX5_mean 17 = .ok (.invokevirtual 91, 3) := by decide +kernel
theorem dX5_mean_20 : decode cX5_mean 20 = .ok (.ifCond .eq 9, 3) := by decide +kernel
theorem dX5_mean_23 : decode cX5_mean 23 = .ok (.aload_n 0, 1) := by decide +kernel
theorem dX5_mean_24 : decode cX5_mean 24 = .ok (.iconst 1, 1) := by decide +kernel
theorem dX5_mean_25 : decode cX5_mean 25 = .ok (.invokevirtual 83, 3) := by decide +kernel
theorem dX5_mean_28 : decode cX5_mean 28 = .ok (.ireturn, 1) := by decide +kernel
theorem dX5_mean_29 : decode cX5_mean 29 = .ok (.aload_n 2, 1) := by decide +kernel
theorem dX5_mean_30 : decode cX5_mean 30 = .ok (.getfield 101, 3) := by decide +kernel
theorem dX5_mean_33 : decode cX5_mean 33 = .ok (.ifCond .ne 9, 3) := by decide +kernel
theorem dX5_mean_36 : decode cX5_mean 36 = .ok (.aload_n 0, 1) := by decide +kernel
theorem dX5_mean_37 : decode cX5_mean 37 = .ok (.iconst 4, 1) := by decide +kernel
theorem dX5_mean_38 : decode cX5_mean 38 = .ok (.invokevirtual 83, 3) := by decide +kernel
theorem dX5_mean_41 : decode cX5_mean 41 = .ok (.ireturn, 1) := by decide +kernel
theorem dX5_mean_42 : decode cX5_mean 42 = .ok (.lconst 0, 1) := by decide +kernel
theorem dX5_mean_43 : decode cX5_mean 43 = .ok (.lstore_n 3, 1) := by decide +kernel
theorem dX5_mean_44 : decode cX5_mean 44 = .ok (.iconst 0, 1) := by decide +kernel
theorem dX5_mean_45 : decode cX5_mean 45 = .ok (.istore 5, 2) := by decide +kernel
theorem dX5_mean_47 : decode cX5_mean 47 = .ok (.iload 5, 2) := by decide +kernel
theorem dX5_mean_49 : decode cX5_mean 49 = .ok (.aload_n 2, 1) := by decide +kernel
theorem dX5_mean_50 : decode cX5_mean 50 = .ok (.getfield 101, 3) := by decide +kernel
theorem dX5_mean_53 : decode cX5_mean 53 = .ok (.if_icmp .ge 20, 3) := by decide +kernel
theorem dX5_mean_56 : decode cX5_mean 56 = .ok (.lload_n 3, 1) := by decide +kernel
theorem dX5_mean_57 : decode cX5_mean 57 = .ok (.aload_n 2, 1) := by decide +kernel
theorem dX5_mean_58 : decode cX5_mean 58 = .ok (.getfield 98, 3) := by decide +kernel
theorem dX5_mean_61 : decode cX5_mean 61 = .ok (.iload 5, 2) := by decide +kernel
theorem dX5_mean_63 : decode cX5_mean 63 = .ok (.iaload, 1) := by decide +kernel
theorem dX5_mean_64 : decode cX5_mean 64 = .ok (.i2l, 1) := by decide +kernel
theorem dX5_mean_65 : decode cX5_mean 65 = .ok (.ladd, 1) := by decide +kernel
theorem dX5_mean_66 : decode cX5_mean 66 = .ok (.lstore_n 3, 1) := by decide +kernel
theorem dX5_mean_67 : decode cX5_mean 67 = .ok (.iinc 5 1, 3) := by decide +kernel
theorem dX5_mean_70 : decode cX5_mean 70 = .ok (.goto (-23), 3) := by decide +kernel
theorem dX5_mean_73 : decode cX5_mean 73 = .ok (.aload_n 0, 1) := by decide +kernel
theorem dX5_mean_74 : decode cX5_mean 74 = .ok (.lload_n 3, 1) := by decide +kernel
theorem dX5_mean_75 : decode cX5_mean 75 = .ok (.aload_n 2, 1) := by decide +kernel
theorem dX5_mean_76 : decode cX5_mean 76 = .ok (.getfield 101, 3) := by decide +kernel
theorem dX5_mean_79 : decode cX5_mean 79 = .ok (.i2l, 1) := by decide +kernel
theorem dX5_mean_80 : decode cX5_mean 80 = .ok (.ldiv, 1) := by decide +kernel
theorem dX5_mean_81 : decode cX5_mean 81 = .ok (.l2i, 1) := by decide +kernel
theorem dX5_mean_82 : decode cX5_mean 82 = .ok (.putfield 64, 3) := by decide +kernel
theorem dX5_mean_85 : decode cX5_mean 85 = .ok (.iconst 1, 1) := by decide +kernel
theorem dX5_mean_86 : decode cX5_mean 86 = .ok (.ireturn, 1) := by decide +kernel
theorem dX5_text_0 : decode cX5_text 0 = .ok (.iload_n 1, 1) := by decide +kernel
theorem dX5_text_1 : decode cX5_text 1 = .ok (.invokestatic 114, 3) := by decide +kernel
theorem dX5_text_4 : decode cX5_text 4 = .ok (.ifCond .eq 9, 3) := by decide +kernel
theorem dX5_text_7 : decode cX5_text 7 = .ok (.iload_n 2, 1) := by decide +kernel
theorem dX5_text_8 : decode cX5_text 8 = .ok (.bipush 60, 2) := by decide +kernel
theorem dX5_text_10 : decode cX5_text 10 = .ok (.if_icmp .le 5, 3) := by decide +kernel
theorem dX5_text_13 : decode cX5_text 13 = .ok (.iconst (-1), 1) := by decide +kernel
theorem dX5_text_14 : decode cX5_text 14 = .ok (.ireturn, 1) := by decide +kernel
theorem dX5_text_15 : decode cX5_text 15 = .ok (.iload_n 2, 1) := by decide +kernel
theorem dX5_text_16 : decode cX5_text 16 = .ok (.ifCond .ge 9, 3) := by decide +kernel
theorem dX5_text_19 : decode cX5_text 19 = .ok (.aload_n 0, 1) := by decide +kernel
theorem dX5_text_20 : decode cX5_text 20 = .ok (.iconst 5, 1) := by decide +kernel
theorem dX5_text_21 : decode cX5_text 21 = .ok (.invokevirtual 83, 3) := by decide +kernel
theorem dX5_text_24 : decode cX5_text 24 = .ok (.ireturn, 1) := by decide +kernel
theorem dX5_text_25 : decode cX5_text 25 = .ok (.aload_n 0, 1) := by decide +kernel
theorem dX5_text_26 : decode cX5_text 26 = .ok (.getfield 15, 3) := by decide +kernel
theorem dX5_text_29 : decode cX5_text 29 = .ok (.iload_n 1, 1) := by decide +kernel
theorem dX5_text_30 : decode cX5_text 30 = .ok (.aaload, 1) := by decide +kernel
theorem dX5_text_31 : decode cX5_text 31 = .ok (.iload_n 2, 1) := by decide +kernel
theorem dX5_text_32 : decode cX5_text 32 = .ok (.bipush 32, 2) := by decide +kernel
theorem dX5_text_34 : decode cX5_text 34 = .ok (.invokevirtual 87, 3) := by decide +kernel
theorem dX5_text_37 : decode cX5_text 37 = .ok (.iload_n 2, 1) := by decide +kernel
theorem dX5_text_38 : decode cX5_text 38 = .ok (.ireturn, 1) := by decide +kernel
theorem dX5_put_0 : decode cX5_put 0 = .ok (.iload_n 1, 1) := by decide +kernel
theorem dX5_put_1 : decode cX5_put 1 = .ok (.invokestatic 114, 3) := by decide +kernel
theorem dX5_put_4 : decode cX5_put 4 = .ok (.ifCond .ne 5, 3) := by decide +kernel
theorem dX5_put_7 : decode cX5_put 7 = .ok (.iconst (-1), 1) := by decide +kernel
theorem dX5_put_8 : decode cX5_put 8 = .ok (.ireturn, 1) := by decide +kernel
theorem dX5_put_9 : decode cX5_put 9 = .ok (.aload_n 0, 1) := by decide +kernel
theorem dX5_put_10 : decode cX5_put 10 = .ok (.getfield 15, 3) := by decide +kernel
theorem dX5_put_13 : decode cX5_put 13 = .ok (.iload_n 1, 1) := by decide +kernel
theorem dX5_put_14 : decode cX5_put 14 = .ok (.aaload, 1) := by decide +kernel
theorem dX5_put_15 : decode cX5_put 15 = .ok (.astore 4, 2) := by decide +kernel
theorem dX5_put_17 : decode cX5_put 17 = .ok (.aload 4, 2) := by decide +kernel
theorem dX5_put_19 : decode cX5_put 19 = .ok (.invokevirtual 91, 3) := by decide +kernel
theorem dX5_put_22 : decode cX5_put 22 = .ok (.ifCond .eq 9, 3) := by decide +kernel
theorem dX5_put_25 : decode cX5_put 25 = .ok (.aload_n 0, 1) := by decide +kernel
theorem dX5_put_26 : decode cX5_put 26 = .ok (.iconst 1, 1) := by decide +kernel
theorem dX5_put_27 : decode cX5_put 27 = .ok (.invokevirtual 83, 3) := by decide +kernel
theorem dX5_put_30 : decode cX5_put 30 = .ok (.ireturn, 1) := by decide +kernel
theorem dX5_put_31 : decode cX5_put 31 = .ok (.aload 4, 2) := by decide +kernel
theorem dX5_put_33 : decode cX5_put 33 = .ok (.iload_n 2, 1) := by decide +kernel
theorem dX5_put_34 : decode cX5_put 34 = .ok (.invokevirtual 95, 3) := by decide +kernel
theorem dX5_put_37 : decode cX5_put 37 = .ok (.ifCond .ne 9, 3) := by decide +kernel
theorem dX5_put_40 : decode cX5_put 40 = .ok (.aload_n 0, 1) := by decide +kernel
theorem dX5_put_41 : decode cX5_put 41 = .ok (.iconst 2, 1) := by decide +kernel
theorem dX5_put_42 : decode cX5_put 42 = .ok (.invokevirtual 83, 3) := by decide +kernel
theorem dX5_put_45 : decode cX5_put 45 = .ok (.ireturn, 1) := by decide +kernel
theorem dX5_put_46 : decode cX5_put 46 = .ok (.aload 4, 2) := by decide +kernel
theorem dX5_put_48 : decode cX5_put 48 = .ok (.getfield 98, 3) := by decide +kernel
theorem dX5_put_51 : decode cX5_put 51 = .ok (.iload_n 2, 1) := by decide +kernel
theorem dX5_put_52 : decode cX5_put 52 = .ok (.iaload, 1) := by decide +kernel
theorem dX5_put_53 : decode cX5_put 53 = .ok (.istore 5, 2) := by decide +kernel
theorem dX5_put_55 : decode cX5_put 55 = .ok (.aload 4, 2) := by decide +kernel
theorem dX5_put_57 : decode cX5_put 57 = .ok (.getfield 98, 3) := by decide +kernel
theorem dX5_put_60 : decode cX5_put 60 = .ok (.iload_n 2, 1) := by decide +kernel
theorem dX5_put_61 : decode cX5_put 61 = .ok (.iload_n 3, 1) := by decide +kernel
theorem dX5_put_62 : decode cX5_put 62 = .ok (.i2b, 1) := by decide +kernel
theorem dX5_put_63 : decode cX5_put 63 = .ok (.iastore, 1) := by decide +kernel
theorem dX5_put_64 : decode cX5_put 64 = .ok (.iload 5, 2) := by decide +kernel
theorem dX5_put_66 : decode cX5_put 66 = .ok (.sipush 1000, 3) := by decide +kernel
theorem dX5_put_69 : decode cX5_put 69 = .ok (.iadd, 1) := by decide +kernel
theorem dX5_put_70 : decode cX5_put 70 = .ok (.ireturn, 1) := by decide +kernel
theorem dX5_fault_0 : decode cX5_fault 0 = .ok (.iload_n 1, 1) := by decide +kernel
theorem dX5_fault_1 : decode cX5_fault 1 = .ok (.invokestatic 114, 3) := by decide +kernel
theorem dX5_fault_4 : decode cX5_fault 4 = .ok (.ifCond .ne 5, 3) := by decide +kernel
theorem dX5_fault_7 : decode cX5_fault 7 = .ok (.iconst (-1), 1) := by decide +kernel
theorem dX5_fault_8 : decode cX5_fault 8 = .ok (.ireturn, 1) := by decide +kernel
theorem dX5_fault_9 : decode cX5_fault 9 = .ok (.aload_n 0, 1) := by decide +kernel
theorem dX5_fault_10 : decode cX5_fault 10 = .ok (.getfield 15, 3) := by decide +kernel
theorem dX5_fault_13 : decode cX5_fault 13 = .ok (.iload_n 1, 1) := by decide +kernel
theorem dX5_fault_14 : decode cX5_fault 14 = .ok (.aaload, 1) := by decide +kernel
theorem dX5_fault_15 : decode cX5_fault 15 = .ok (.invokevirtual 91, 3) := by decide +kernel
theorem dX5_fault_18 : decode cX5_fault 18 = .ok (.ifCond .eq 9, 3) := by decide +kernel
theorem dX5_fault_21 : decode cX5_fault 21 = .ok (.aload_n 0, 1) := by decide +kernel
theorem dX5_fault_22 : decode cX5_fault 22 = .ok (.iconst 1, 1) := by decide +kernel
theorem dX5_fault_23 : decode cX5_fault 23 = .ok (.invokevirtual 83, 3) := by decide +kernel
theorem dX5_fault_26 : decode cX5_fault 26 = .ok (.ireturn, 1) := by decide +kernel
theorem dX5_fault_27 : decode cX5_fault 27 = .ok (.aload_n 0, 1) := by decide +kernel
theorem dX5_fault_28 : decode cX5_fault 28 = .ok (.getfield 43, 3) := by decide +kernel
theorem dX5_fault_31 : decode cX5_fault 31 = .ok (.aload_n 0, 1) := by decide +kernel
theorem dX5_fault_32 : decode cX5_fault 32 = .ok (.getfield 15, 3) := by decide +kernel
theorem dX5_fault_35 : decode cX5_fault 35 = .ok (.iload_n 1, 1) := by decide +kernel
theorem dX5_fault_36 : decode cX5_fault 36 = .ok (.aaload, 1) := by decide +kernel
theorem dX5_fault_37 : decode cX5_fault 37 = .ok (.invokevirtual 117, 3) := by decide +kernel
theorem dX5_fault_40 : decode cX5_fault 40 = .ok (.ireturn, 1) := by decide +kernel
theorem dX5_stuff_0 : decode cX5_stuff 0 = .ok (.iload_n 1, 1) := by decide +kernel
theorem dX5_stuff_1 : decode cX5_stuff 1 = .ok (.invokestatic 121, 3) := by decide +kernel
theorem dX5_stuff_4 : decode cX5_stuff 4 = .ok (.ifCond .eq 10, 3) := by decide +kernel
theorem dX5_stuff_7 : decode cX5_stuff 7 = .ok (.iload_n 2, 1) := by decide +kernel
theorem dX5_stuff_8 : decode cX5_stuff 8 = .ok (.invokestatic 114, 3) := by decide +kernel
theorem dX5_stuff_11 : decode cX5_stuff 11 = .ok (.ifCond .ne 5, 3) := by decide +kernel
theorem dX5_stuff_14 : decode cX5_stuff 14 = .ok (.iconst (-1), 1) := by decide +kernel
theorem dX5_stuff_15 : decode cX5_stuff 15 = .ok (.ireturn, 1) := by decide +kernel
theorem dX5_stuff_16 : decode cX5_stuff 16 = .ok (.aload_n 0, 1) := by decide +kernel
theorem dX5_stuff_17 : decode cX5_stuff 17 = .ok (.getfield 15, 3) := by decide +kernel
theorem dX5_stuff_20 : decode cX5_stuff 20 = .ok (.iload_n 2, 1) := by decide +kernel
theorem dX5_stuff_21 : decode cX5_stuff 21 = .ok (.aaload, 1) := by decide +kernel
theorem dX5_stuff_22 : decode cX5_stuff 22 = .ok (.invokevirtual 91, 3) := by decide +kernel
theorem dX5_stuff_25 : decode cX5_stuff 25 = .ok (.ifCond .eq 9, 3) := by decide +kernel
theorem dX5_stuff_28 : decode cX5_stuff 28 = .ok (.aload_n 0, 1) := by decide +kernel
theorem dX5_stuff_29 : decode cX5_stuff 29 = .ok (.iconst 1, 1) := by decide +kernel
theorem dX5_stuff_30 : decode cX5_stuff 30 = .ok (.invokevirtual 83, 3) := by decide +kernel
theorem dX5_stuff_33 : decode cX5_stuff 33 = .ok (.ireturn, 1) := by decide +kernel
theorem dX5_stuff_34 : decode cX5_stuff 34 = .ok (.aload_n 0, 1) := by decide +kernel
theorem dX5_stuff_35 : decode cX5_stuff 35 = .ok (.getfield 43, 3) := by decide +kernel
theorem dX5_stuff_38 : decode cX5_stuff 38 = .ok (.aload_n 0, 1) := by decide +kernel
theorem dX5_stuff_39 : decode cX5_stuff 39 = .ok (.getfield 15, 3) := by decide +kernel
theorem dX5_stuff_42 : decode cX5_stuff 42 = .ok (.iload_n 2, 1) := by decide +kernel
theorem dX5_stuff_43 : decode cX5_stuff 43 = .ok (.aaload, 1) := by decide +kernel
theorem dX5_stuff_44 : decode cX5_stuff 44 = .ok (.invokevirtual 117, 3) := by decide +kernel
theorem dX5_stuff_47 : decode cX5_stuff 47 = .ok (.bipush (-9), 2) := by decide +kernel
theorem dX5_stuff_49 : decode cX5_stuff 49 = .ok (.if_icmp .eq 6, 3) := by decide +kernel
theorem dX5_stuff_52 : decode cX5_stuff 52 = .ok (.bipush (-4), 2) := by decide +kernel
theorem dX5_stuff_54 : decode cX5_stuff 54 = .ok (.ireturn, 1) := by decide +kernel
theorem dX5_stuff_55 : decode cX5_stuff 55 = .ok (.aload_n 0, 1) := by decide +kernel
theorem dX5_stuff_56 : decode cX5_stuff 56 = .ok (.getfield 20, 3) := by decide +kernel
theorem dX5_stuff_59 : decode cX5_stuff 59 = .ok (.iload_n 1, 1) := by decide +kernel
theorem dX5_stuff_60 : decode cX5_stuff 60 = .ok (.aaload, 1) := by decide +kernel
theorem dX5_stuff_61 : decode cX5_stuff 61 = .ok (.aload_n 0, 1) := by decide +kernel
theorem dX5_stuff_62 : decode cX5_stuff 62 = .ok (.getfield 43, 3) := by decide +kernel
theorem dX5_stuff_65 : decode cX5_stuff 65 = .ok (.getfield 124, 3) := by decide +kernel
theorem dX5_stuff_68 : decode cX5_stuff 68 = .ok (.invokevirtual 128, 3) := by decide +kernel
theorem dX5_stuff_71 : decode cX5_stuff 71 = .ok (.aload_n 0, 1) := by decide +kernel
theorem dX5_stuff_72 : decode cX5_stuff 72 = .ok (.getfield 20, 3) := by decide +kernel
theorem dX5_stuff_75 : decode cX5_stuff 75 = .ok (.iload_n 1, 1) := by decide +kernel
theorem dX5_stuff_76 : decode cX5_stuff 76 = .ok (.aaload, 1) := by decide +kernel
theorem dX5_stuff_77 : decode cX5_stuff 77 = .ok (.getfield 132, 3) := by decide +kernel
theorem dX5_stuff_80 : decode cX5_stuff 80 = .ok (.ireturn, 1) := by decide +kernel
theorem dX5_about_0 : decode cX5_about 0 = .ok (.iload_n 1, 1) := by decide +kernel
theorem dX5_about_1 : decode cX5_about 1 = .ok (.invokestatic 121, 3) := by decide +kernel
theorem dX5_about_4 : decode cX5_about 4 = .ok (.ifCond .eq 12, 3) := by decide +kernel
theorem dX5_about_7 : decode cX5_about 7 = .ok (.iload_n 2, 1) := by decide +kernel
theorem dX5_about_8 : decode cX5_about 8 = .ok (.iconst 0, 1) := by decide +kernel
theorem dX5_about_9 : decode cX5_about 9 = .ok (.iconst 4, 1) := by decide +kernel
theorem dX5_about_10 : decode cX5_about 10 = .ok (.invokestatic 135, 3) := by decide +kernel
theorem dX5_about_13 : decode cX5_about 13 = .ok (.ifCond .ne 5, 3) := by decide +kernel
theorem dX5_about_16 : decode cX5_about 16 = .ok (.iconst (-1), 1) := by decide +kernel
theorem dX5_about_17 : decode cX5_about 17 = .ok (.ireturn, 1) := by decide +kernel
theorem dX5_about_18 : decode cX5_about 18 = .ok (.aload_n 0, 1) := by decide +kernel
theorem dX5_about_19 : decode cX5_about 19 = .ok (.getfield 20, 3) := by decide +kernel
theorem dX5_about_22 : decode cX5_about 22 = .ok (.iload_n 1, 1) := by decide +kernel
theorem dX5_about_23 : decode cX5_about 23 = .ok (.aaload, 1) := by decide +kernel
theorem dX5_about_24 : decode cX5_about 24 = .ok (.invokevirtual 139, 3) := by decide +kernel
theorem dX5_about_27 : decode cX5_about 27 = .ok (.ifCond .eq 9, 3) := by decide +kernel
theorem dX5_about_30 : decode cX5_about 30 = .ok (.aload_n 0, 1) := by decide +kernel
theorem dX5_about_31 : decode cX5_about 31 = .ok (.iconst 1, 1) := by decide +kernel
theorem dX5_about_32 : decode cX5_about 32 = .ok (.invokevirtual 83, 3) := by decide +kernel
theorem dX5_about_35 : decode cX5_about 35 = .ok (.ireturn, 1) := by decide +kernel
theorem dX5_about_36 : decode cX5_about 36 = .ok (.aload_n 0, 1) := by decide +kernel
theorem dX5_about_37 : decode cX5_about 37 = .ok (.aload_n 0, 1) := by decide +kernel
theorem dX5_about_38 : decode cX5_about 38 = .ok (.getfield 20, 3) := by decide +kernel
theorem dX5_about_41 : decode cX5_about 41 = .ok (.iload_n 1, 1) := by decide +kernel
theorem dX5_about_42 : decode cX5_about 42 = .ok (.aaload, 1) := by decide +kernel
theorem dX5_about_43 : decode cX5_about 43 = .ok (.iload_n 2, 1) := by decide +kernel
theorem dX5_about_44 : decode cX5_about 44 = .ok (.invokevirtual 140, 3) := by decide +kernel
theorem dX5_about_47 : decode cX5_about 47 = .ok (.putfield 64, 3) := by decide +kernel
theorem dX5_about_50 : decode cX5_about 50 = .ok (.iconst 1, 1) := by decide +kernel
theorem dX5_about_51 : decode cX5_about 51 = .ok (.ireturn, 1) := by decide +kernel
theorem dX5_push_0 : decode cX5_push 0 = .ok (.iload_n 1, 1) := by decide +kernel
theorem dX5_push_1 : decode cX5_push 1 = .ok (.invokestatic 121, 3) := by decide +kernel
theorem dX5_push_4 : decode cX5_push 4 = .ok (.ifCond .eq 13, 3) := by decide +kernel
theorem dX5_push_7 : decode cX5_push 7 = .ok (.iload_n 2, 1) := by decide +kernel
theorem dX5_push_8 : decode cX5_push 8 = .ok (.iconst 0, 1) := by decide +kernel
theorem dX5_push_9 : decode cX5_push 9 = .ok (.bipush 99, 2) := by decide +kernel
theorem dX5_push_11 : decode cX5_push 11 = .ok (.invokestatic 135, 3) := by decide +kernel
theorem dX5_push_14 : decode cX5_push 14 = .ok (.ifCond .ne 5, 3) := by decide +kernel
theorem dX5_push_17 : decode cX5_push 17 = .ok (.iconst (-1), 1) := by decide +kernel
theorem dX5_push_18 : decode cX5_push 18 = .ok (.ireturn, 1) := by decide +kernel
theorem dX5_push_19 : decode cX5_push 19 = .ok (.aload_n 0, 1) := by decide +kernel
theorem dX5_push_20 : decode cX5_push 20 = .ok (.getfield 20, 3) := by decide +kernel
theorem dX5_push_23 : decode cX5_push 23 = .ok (.iload_n 1, 1) := by decide +kernel
theorem dX5_push_24 : decode cX5_push 24 = .ok (.aaload, 1) := by decide +kernel
theorem dX5_push_25 : decode cX5_push 25 = .ok (.invokevirtual 139, 3) := by decide +kernel
theorem dX5_push_28 : decode cX5_push 28 = .ok (.ifCond .eq 9, 3) := by decide +kernel
theorem dX5_push_31 : decode cX5_push 31 = .ok (.aload_n 0, 1) := by decide +kernel
theorem dX5_push_32 : decode cX5_push 32 = .ok (.iconst 1, 1) := by decide +kernel
theorem dX5_push_33 : decode cX5_push 33 = .ok (.invokevirtual 83, 3) := by decide +kernel
theorem dX5_push_36 : decode cX5_push 36 = .ok (.ireturn, 1) := by decide +kernel
theorem dX5_push_37 : decode cX5_push 37 = .ok (.aload_n 0, 1) := by decide +kernel
theorem dX5_push_38 : decode cX5_push 38 = .ok (.aload_n 0, 1) := by decide +kernel
theorem dX5_push_39 : decode cX5_push 39 = .ok (.getfield 20, 3) := by decide +kernel
theorem dX5_push_42 : decode cX5_push 42 = .ok (.iload_n 1, 1) := by decide +kernel
theorem dX5_push_43 : decode cX5_push 43 = .ok (.aaload, 1) := by decide +kernel
theorem dX5_push_44 : decode cX5_push 44 = .ok (.iload_n 2, 1) := by decide +kernel
theorem dX5_push_45 : decode cX5_push 45 = .ok (.invokevirtual 143, 3) := by decide +kernel
theorem dX5_push_48 : decode cX5_push 48 = .ok (.ldc2_w 147, 3) := by decide +kernel
theorem dX5_push_51 : decode cX5_push 51 = .ok (.invokevirtual 149, 3) := by decide +kernel
theorem dX5_push_54 : decode cX5_push 54 = .ok (.iconst 1, 1) := by decide +kernel
theorem dX5_push_55 : decode cX5_push 55 = .ok (.ireturn, 1) := by decide +kernel
theorem dX5_seal_0 : decode cX5_seal 0 = .ok (.iload_n 1, 1) := by decide +kernel
theorem dX5_seal_1 : decode cX5_seal 1 = .ok (.invokestatic 153, 3) := by decide +kernel
theorem dX5_seal_4 : decode cX5_seal 4 = .ok (.ifCond .eq 12, 3) := by decide +kernel
theorem dX5_seal_7 : decode cX5_seal 7 = .ok (.iload_n 2, 1) := by decide +kernel
theorem dX5_seal_8 : decode cX5_seal 8 = .ok (.iconst 0, 1) := by decide +kernel
theorem dX5_seal_9 : decode cX5_seal 9 = .ok (.iconst 4, 1) := by decide +kernel
theorem dX5_seal_10 : decode cX5_seal 10 = .ok (.invokestatic 135, 3) := by decide +kernel
theorem dX5_seal_13 : decode cX5_seal 13 = .ok (.ifCond .ne 5, 3) := by decide +kernel
theorem dX5_seal_16 : decode cX5_seal 16 = .ok (.iconst (-1), 1) := by decide +kernel
theorem dX5_seal_17 : decode cX5_seal 17 = .ok (.ireturn, 1) := by decide +kernel
theorem dX5_seal_18 : decode cX5_seal 18 = .ok (.iload 4, 2) := by decide +kernel
theorem dX5_seal_20 : decode cX5_seal 20 = .ok (.bipush 50, 2) := by decide +kernel
theorem dX5_seal_22 : decode cX5_seal 22 = .ok (.sipush 400, 3) := by decide +kernel
theorem dX5_seal_25 : decode cX5_seal 25 = .ok (.invokestatic 135, 3) := by decide +kernel
theorem dX5_seal_28 : decode cX5_seal 28 = .ok (.ifCond .eq 14, 3) := by decide +kernel
theorem dX5_seal_31 : decode cX5_seal 31 = .ok (.iload 5, 2) := by decide +kernel
theorem dX5_seal_33 : decode cX5_seal 33 = .ok (.iconst 1, 1) := by decide +kernel
theorem dX5_seal_34 : decode cX5_seal 34 = .ok (.bipush 9, 2) := by decide +kernel
theorem dX5_seal_36 : decode cX5_seal 36 = .ok (.invokestatic 135, 3) := by decide +kernel
theorem dX5_seal_39 : decode cX5_seal 39 = .ok (.ifCond .ne 5, 3) := by decide +kernel
theorem dX5_seal_42 : decode cX5_seal 42 = .ok (.iconst (-1), 1) := by decide +kernel
theorem dX5_seal_43 : decode cX5_seal 43 = .ok (.ireturn, 1) := by decide +kernel
theorem dX5_seal_44 : decode cX5_seal 44 = .ok (.iload_n 2, 1) := by decide +kernel
theorem dX5_seal_45 : decode cX5_seal 45 = .ok (.ifCond .eq 12, 3) := by decide +kernel
theorem dX5_seal_48 : decode cX5_seal 48 = .ok (.iload_n 3, 1) := by decide +kernel
theorem dX5_seal_49 : decode cX5_seal 49 = .ok (.invokestatic 121, 3) := by decide +kernel
theorem dX5_seal_52 : decode cX5_seal 52 = .ok (.ifCond .ne 5, 3) := by decide +kernel
theorem dX5_seal_55 : decode cX5_seal 55 = .ok (.iconst (-1), 1) := by decide +kernel
theorem dX5_seal_56 : decode cX5_seal 56 = .ok (.ireturn, 1) := by decide +kernel
theorem dX5_seal_57 : decode cX5_seal 57 = .ok (.iload_n 2, 1) := by decide +kernel
theorem dX5_seal_58 : decode cX5_seal 58 = .ok (.ifCond .eq 21, 3) := by decide +kernel
theorem dX5_seal_61 : decode cX5_seal 61 = .ok (.aload_n 0, 1) := by decide +kernel
theorem dX5_seal_62 : decode cX5_seal 62 = .ok (.getfield 20, 3) := by decide +kernel
theorem dX5_seal_65 : decode cX5_seal 65 = .ok (.iload_n 3, 1) := by decide +kernel
theorem dX5_seal_66 : decode cX5_seal 66 = .ok (.aaload, 1) := by decide +kernel
theorem dX5_seal_67 : decode cX5_seal 67 = .ok (.invokevirtual 139, 3) := by decide +kernel
theorem dX5_seal_70 : decode cX5_seal 70 = .ok (.ifCond .eq 9, 3) := by decide +kernel
theorem dX5_seal_73 : decode cX5_seal 73 = .ok (.aload_n 0, 1) := by decide +kernel
theorem dX5_seal_74 : decode cX5_seal 74 = .ok (.iconst 1, 1) := by decide +kernel
theorem dX5_seal_75 : decode cX5_seal 75 = .ok (.invokevirtual 83, 3) := by decide +kernel
theorem dX5_seal_78 : decode cX5_seal 78 = .ok (.ireturn, 1) := by decide +kernel
theorem dX5_seal_79 : decode cX5_seal 79 = .ok (.aload_n 0, 1) := by decide +kernel
theorem dX5_seal_80 : decode cX5_seal 80 = .ok (.getfield 26, 3) := by decide +kernel
theorem dX5_seal_83 : decode cX5_seal 83 = .ok (.iload_n 1, 1) := by decide +kernel
theorem dX5_seal_84 : decode cX5_seal 84 = .ok (.aaload, 1) := by decide +kernel
theorem dX5_seal_85 : decode cX5_seal 85 = .ok (.iload_n 2, 1) := by decide +kernel
theorem dX5_seal_86 : decode cX5_seal 86 = .ok (.iload_n 2, 1) := by decide +kernel
theorem dX5_seal_87 : decode cX5_seal 87 = .ok (.ifCond .ne 7, 3) := by decide +kernel
theorem dX5_seal_90 : decode cX5_seal 90 = .ok (.iconst 0, 1) := by decide +kernel
theorem dX5_seal_91 : decode cX5_seal 91 = .ok (.goto 4, 3) := by decide +kernel
theorem dX5_seal_94 : decode cX5_seal 94 = .ok (.iload_n 3, 1) := by decide +kernel
theorem dX5_seal_95 : decode cX5_seal 95 = .ok (.iload 4, 2) := by decide +kernel
theorem dX5_seal_97 : decode cX5_seal 97 = .ok (.iload 5, 2) := by decide +kernel
theorem dX5_seal_99 : decode cX5_seal 99 = .ok (.invokevirtual 156, 3) := by decide +kernel
theorem dX5_seal_102 : decode cX5_seal 102 = .ok (.iconst 1, 1) := by decide +kernel
theorem dX5_seal_103 : decode cX5_seal 103 = .ok (.ireturn, 1) := by decide +kernel
theorem dX5_take_0 : decode cX5_take 0 = .ok (.iload_n 1, 1) := by decide +kernel
theorem dX5_take_1 : decode cX5_take 1 = .ok (.invokestatic 153, 3) := by decide +kernel
theorem dX5_take_4 : decode cX5_take 4 = .ok (.ifCond .ne 5, 3) := by decide +kernel
theorem dX5_take_7 : decode cX5_take 7 = .ok (.iconst (-1), 1) := by decide +kernel
theorem dX5_take_8 : decode cX5_take 8 = .ok (.ireturn, 1) := by decide +kernel
theorem dX5_take_9 : decode cX5_take 9 = .ok (.aload_n 0, 1) := by decide +kernel
theorem dX5_take_10 : decode cX5_take 10 = .ok (.getfield 26, 3) := by decide +kernel
theorem dX5_take_13 : decode cX5_take 13 = .ok (.iload_n 1, 1) := by decide +kernel
theorem dX5_take_14 : decode cX5_take 14 = .ok (.aaload, 1) := by decide +kernel
theorem dX5_take_15 : decode cX5_take 15 = .ok (.invokevirtual 159, 3) := by decide +kernel
theorem dX5_take_18 : decode cX5_take 18 = .ok (.ifCond .eq 9, 3) := by decide +kernel
theorem dX5_take_21 : decode cX5_take 21 = .ok (.aload_n 0, 1) := by decide +kernel
theorem dX5_take_22 : decode cX5_take 22 = .ok (.iconst 1, 1) := by decide +kernel
theorem dX5_take_23 : decode cX5_take 23 = .ok (.invokevirtual 83, 3) := by decide +kernel
theorem dX5_take_26 : decode cX5_take 26 = .ok (.ireturn, 1) := by decide +kernel
theorem dX5_take_27 : decode cX5_take 27 = .ok (.aload_n 0, 1) := by decide +kernel
theorem dX5_take_28 : decode cX5_take 28 = .ok (.getfield 26, 3) := by decide +kernel
theorem dX5_take_31 : decode cX5_take 31 = .ok (.iload_n 1, 1) := by decide +kernel
theorem dX5_take_32 : decode cX5_take 32 = .ok (.aaload, 1) := by decide +kernel
theorem dX5_take_33 : decode cX5_take 33 = .ok (.iconst (-1), 1) := by decide +kernel
theorem dX5_take_34 : decode cX5_take 34 = .ok (.putfield 160, 3) := by decide +kernel
theorem dX5_take_37 : decode cX5_take 37 = .ok (.iconst 1, 1) := by decide +kernel
theorem dX5_take_38 : decode cX5_take 38 = .ok (.ireturn, 1) := by decide +kernel
theorem dX5_depth_0 : decode cX5_depth 0 = .ok (.iload_n 1, 1) := by decide +kernel
theorem dX5_depth_1 : decode cX5_depth 1 = .ok (.invokestatic 153, 3) := by decide +kernel
theorem dX5_depth_4 : decode cX5_depth 4 = .ok (.ifCond .eq 14, 3) := by decide +kernel
theorem dX5_depth_7 : decode cX5_depth 7 = .ok (.iload_n 2, 1) := by decide +kernel
theorem dX5_depth_8 : decode cX5_depth 8 = .ok (.iconst 0, 1) := by decide +kernel
theorem dX5_depth_9 : decode cX5_depth 9 = .ok (.sipush 200, 3) := by decide +kernel
theorem dX5_depth_12 : decode cX5_depth 12 = .ok (.invokestatic 135, 3) := by decide +kernel
theorem dX5_depth_15 : decode cX5_depth 15 = .ok (.ifCond .ne 5, 3) := by decide +kernel
theorem dX5_depth_18 : decode cX5_depth 18 = .ok (.iconst (-1), 1) := by decide +kernel
theorem dX5_depth_19 : decode cX5_depth 19 = .ok (.ireturn, 1) := by decide +kernel
theorem dX5_depth_20 : decode cX5_depth 20 = .ok (.aload_n 0, 1) := by decide +kernel
theorem dX5_depth_21 : decode cX5_depth 21 = .ok (.getfield 30, 3) := by decide +kernel
theorem dX5_depth_24 : decode cX5_depth 24 = .ok (.iload_n 1, 1) := by decide +kernel
theorem dX5_depth_25 : decode cX5_depth 25 = .ok (.iaload, 1) := by decide +kernel
theorem dX5_depth_26 : decode cX5_depth 26 = .ok (.istore_n 3, 1) := by decide +kernel
theorem dX5_depth_27 : decode cX5_depth 27 = .ok (.aload_n 0, 1) := by decide +kernel
theorem dX5_depth_28 : decode cX5_depth 28 = .ok (.getfield 30, 3) := by decide +kernel
theorem dX5_depth_31 : decode cX5_depth 31 = .ok (.iload_n 1, 1) := by decide +kernel
theorem dX5_depth_32 : decode cX5_depth 32 = .ok (.iload_n 2, 1) := by decide +kernel
theorem dX5_depth_33 : decode cX5_depth 33 = .ok (.iastore, 1) := by decide +kernel
theorem dX5_depth_34 : decode cX5_depth 34 = .ok (.iload_n 3, 1) := by decide +kernel
theorem dX5_depth_35 : decode cX5_depth 35 = .ok (.ireturn, 1) := by decide +kernel
theorem dX5_stretch_0 : decode cX5_stretch 0 = .ok (.iload_n 1, 1) := by decide +kernel
theorem dX5_stretch_1 : decode cX5_stretch 1 = .ok (.invokestatic 153, 3) := by decide +kernel
theorem dX5_stretch_4 : decode cX5_stretch 4 = .ok (.ifCond .eq 13, 3) := by decide +kernel
theorem dX5_stretch_7 : decode cX5_stretch 7 = .ok (.iload_n 2, 1) := by decide +kernel
theorem dX5_stretch_8 : decode cX5_stretch 8 = .ok (.iconst 0, 1) := by decide +kernel
theorem dX5_stretch_9 : decode cX5_stretch 9 = .ok (.bipush 40, 2) := by decide +kernel
theorem dX5_stretch_11 : decode cX5_stretch 11 = .ok (.invokestatic 135, 3) := by decide +kernel
theorem dX5_stretch_14 : decode cX5_stretch 14 = .ok (.ifCond .ne 5, 3) := by decide +kernel
theorem dX5_stretch_17 : decode cX5_stretch 17 = .ok (.iconst (-1), 1) := by decide +kernel
theorem dX5_stretch_18 : decode cX5_stretch 18 = .ok (.ireturn, 1) := by decide +kernel
theorem dX5_stretch_19 : decode cX5_stretch 19 = .ok (.aload_n 0, 1) := by decide +kernel
theorem dX5_stretch_20 : decode cX5_stretch 20 = .ok (.iload_n 1, 1) := by decide +kernel
theorem dX5_stretch_21 : decode cX5_stretch 21 = .ok (.iconst 2, 1) := by decide +kernel
theorem dX5_stretch_22 : decode cX5_stretch 22 = .ok (.invokevirtual 163, 3) := by decide +kernel
theorem dX5_stretch_25 : decode cX5_stretch 25 = .ok (.istore_n 3, 1) := by decide +kernel
theorem dX5_stretch_26 : decode cX5_stretch 26 = .ok (.iload_n 3, 1) := by decide +kernel
theorem dX5_stretch_27 : decode cX5_stretch 27 = .ok (.ifCond .eq 9, 3) := by decide +kernel
theorem dX5_stretch_30 : decode cX5_stretch 30 = .ok (.aload_n 0, 1) := by decide +kernel
theorem dX5_stretch_31 : decode cX5_stretch 31 = .ok (.iload_n 3, 1) := by decide +kernel
theorem dX5_stretch_32 : decode cX5_stretch 32 = .ok (.invokevirtual 83, 3) := by decide +kernel
theorem dX5_stretch_35 : decode cX5_stretch 35 = .ok (.ireturn, 1) := by decide +kernel
theorem dX5_stretch_36 : decode cX5_stretch 36 = .ok (.aload_n 0, 1) := by decide +kernel
theorem dX5_stretch_37 : decode cX5_stretch 37 = .ok (.getfield 26, 3) := by decide +kernel
theorem dX5_stretch_40 : decode cX5_stretch 40 = .ok (.iload_n 1, 1) := by decide +kernel
theorem dX5_stretch_41 : decode cX5_stretch 41 = .ok (.aaload, 1) := by decide +kernel
theorem dX5_stretch_42 : decode cX5_stretch 42 = .ok (.iload_n 2, 1) := by decide +kernel
theorem dX5_stretch_43 : decode cX5_stretch 43 = .ok (.putfield 167, 3) := by decide +kernel
theorem dX5_stretch_46 : decode cX5_stretch 46 = .ok (.aload_n 0, 1) := by decide +kernel
theorem dX5_stretch_47 : decode cX5_stretch 47 = .ok (.getfield 26, 3) := by decide +kernel
theorem dX5_stretch_50 : decode cX5_stretch 50 = .ok (.iload_n 1, 1) := by decide +kernel
theorem dX5_stretch_51 : decode cX5_stretch 51 = .ok (.aaload, 1) := by decide +kernel
theorem dX5_stretch_52 : decode cX5_stretch 52 = .ok (.aload_n 0, 1) := by decide +kernel
theorem dX5_stretch_53 : decode cX5_stretch 53 = .ok (.getfield 26, 3) := by decide +kernel
theorem dX5_stretch_56 : decode cX5_stretch 56 = .ok (.iload_n 1, 1) := by decide +kernel
theorem dX5_stretch_57 : decode cX5_stretch 57 = .ok (.aaload, 1) := by decide +kernel
theorem dX5_stretch_58 : decode cX5_stretch 58 = .ok (.invokevirtual 170, 3) := by decide +kernel
theorem dX5_stretch_61 : decode cX5_stretch 61 = .ok (.putfield 174, 3) := by decide +kernel
theorem dX5_stretch_64 : decode cX5_stretch 64 = .ok (.aload_n 0, 1) := by decide +kernel
theorem dX5_stretch_65 : decode cX5_stretch 65 = .ok (.getfield 26, 3) := by decide +kernel
theorem dX5_stretch_68 : decode cX5_stretch 68 = .ok (.iload_n 1, 1) := by decide +kernel
theorem dX5_stretch_69 : decode cX5_stretch 69 = .ok (.aaload, 1) := by decide +kernel
theorem dX5_stretch_70 : decode cX5_stretch 70 = .ok (.getfield 174, 3) := by decide +kernel
theorem dX5_stretch_73 : decode cX5_stretch 73 = .ok (.ireturn, 1) := by decide +kernel
theorem dX5_told_0 : decode cX5_told 0 = .ok (.iload_n 1, 1) := by decide +kernel
theorem dX5_told_1 : decode cX5_told 1 = .ok (.invokestatic 153, 3) := by decide +kernel
theorem dX5_told_4 : decode cX5_told 4 = .ok (.ifCond .eq 12, 3) := by decide +kernel
theorem dX5_told_7 : decode cX5_told 7 = .ok (.iload_n 2, 1) := by decide +kernel
theorem dX5_told_8 : decode cX5_told 8 = .ok (.iconst 0, 1) := by decide +kernel
theorem dX5_told_9 : decode cX5_told 9 = .ok (.iconst 4, 1) := by decide +kernel
theorem dX5_told_10 : decode cX5_told 10 = .ok (.invokestatic 135, 3) := by decide +kernel
theorem dX5_told_13 : decode cX5_told 13 = .ok (.ifCond .ne 5, 3) := by decide +kernel
theorem dX5_told_16 : decode cX5_told 16 = .ok (.iconst (-1), 1) := by decide +kernel
theorem dX5_told_17 : decode cX5_told 17 = .ok (.ireturn, 1) := by decide +kernel
theorem dX5_told_18 : decode cX5_told 18 = .ok (.aload_n 0, 1) := by decide +kernel
theorem dX5_told_19 : decode cX5_told 19 = .ok (.getfield 26, 3) := by decide +kernel
theorem dX5_told_22 : decode cX5_told 22 = .ok (.iload_n 1, 1) := by decide +kernel
theorem dX5_told_23 : decode cX5_told 23 = .ok (.aaload, 1) := by decide +kernel
theorem dX5_told_24 : decode cX5_told 24 = .ok (.invokevirtual 159, 3) := by decide +kernel
theorem dX5_told_27 : decode cX5_told 27 = .ok (.ifCond .eq 9, 3) := by decide +kernel
theorem dX5_told_30 : decode cX5_told 30 = .ok (.aload_n 0, 1) := by decide +kernel
theorem dX5_told_31 : decode cX5_told 31 = .ok (.iconst 1, 1) := by decide +kernel
theorem dX5_told_32 : decode cX5_told 32 = .ok (.invokevirtual 83, 3) := by decide +kernel
theorem dX5_told_35 : decode cX5_told 35 = .ok (.ireturn, 1) := by decide +kernel
theorem dX5_told_36 : decode cX5_told 36 = .ok (.aload_n 0, 1) := by decide +kernel
theorem dX5_told_37 : decode cX5_told 37 = .ok (.iload_n 2, 1) := by decide +kernel
theorem dX5_told_38 : decode cX5_told 38 = .ok (.iconst 4, 1) := by decide +kernel
theorem dX5_told_39 : decode cX5_told 39 = .ok (.if_icmp .ne 12, 3) := by decide +kernel
theorem dX5_told_42 : decode cX5_told 42 = .ok (.aload_n 0, 1) := by decide +kernel
theorem dX5_told_43 : decode cX5_told 43 = .ok (.getfield 30, 3) := by decide +kernel
theorem dX5_told_46 : decode cX5_told 46 = .ok (.iload_n 1, 1) := by decide +kernel
theorem dX5_told_47 : decode cX5_told 47 = .ok (.iaload, 1) := by decide +kernel
theorem dX5_told_48 : decode cX5_told 48 = .ok (.goto 13, 3) := by decide +kernel
theorem dX5_told_51 : decode cX5_told 51 = .ok (.aload_n 0, 1) := by decide +kernel
theorem dX5_told_52 : decode cX5_told 52 = .ok (.getfield 26, 3) := by decide +kernel
theorem dX5_told_55 : decode cX5_told 55 = .ok (.iload_n 1, 1) := by decide +kernel
theorem dX5_told_56 : decode cX5_told 56 = .ok (.aaload, 1) := by decide +kernel
theorem dX5_told_57 : decode cX5_told 57 = .ok (.iload_n 2, 1) := by decide +kernel
theorem dX5_told_58 : decode cX5_told 58 = .ok (.invokevirtual 177, 3) := by decide +kernel
theorem dX5_told_61 : decode cX5_told 61 = .ok (.putfield 64, 3) := by decide +kernel
theorem dX5_told_64 : decode cX5_told 64 = .ok (.iconst 1, 1) := by decide +kernel
theorem dX5_told_65 : decode cX5_told 65 = .ok (.ireturn, 1) := by decide +kernel
theorem dX5_mark_0 : decode cX5_mark 0 = .ok (.iload_n 1, 1) := by decide +kernel
theorem dX5_mark_1 : decode cX5_mark 1 = .ok (.invokestatic 153, 3) := by decide +kernel
theorem dX5_mark_4 : decode cX5_mark 4 = .ok (.ifCond .eq 12, 3) := by decide +kernel
theorem dX5_mark_7 : decode cX5_mark 7 = .ok (.iload_n 2, 1) := by decide +kernel
theorem dX5_mark_8 : decode cX5_mark 8 = .ok (.iconst 1, 1) := by decide +kernel
theorem dX5_mark_9 : decode cX5_mark 9 = .ok (.iconst 4, 1) := by decide +kernel
theorem dX5_mark_10 : decode cX5_mark 10 = .ok (.invokestatic 135, 3) := by decide +kernel
theorem dX5_mark_13 : decode cX5_mark 13 = .ok (.ifCond .ne 5, 3) := by decide +kernel
theorem dX5_mark_16 : decode cX5_mark 16 = .ok (.iconst (-1), 1) := by decide +kernel
theorem dX5_mark_17 : decode cX5_mark 17 = .ok (.ireturn, 1) := by decide +kernel
theorem dX5_mark_18 : decode cX5_mark 18 = .ok (.aload_n 0, 1) := by decide +kernel
theorem dX5_mark_19 : decode cX5_mark 19 = .ok (.iload_n 1, 1) := by decide +kernel
theorem dX5_mark_20 : decode cX5_mark 20 = .ok (.iload_n 2, 1) := by decide +kernel
theorem dX5_mark_21 : decode cX5_mark 21 = .ok (.invokevirtual 163, 3) := by decide +kernel
theorem dX5_mark_24 : decode cX5_mark 24 = .ok (.istore_n 3, 1) := by decide +kernel
theorem dX5_mark_25 : decode cX5_mark 25 = .ok (.iload_n 3, 1) := by decide +kernel
theorem dX5_mark_26 : decode cX5_mark 26 = .ok (.ifCond .eq 9, 3) := by decide +kernel
theorem dX5_mark_29 : decode cX5_mark 29 = .ok (.aload_n 0, 1) := by decide +kernel
theorem dX5_mark_30 : decode cX5_mark 30 = .ok (.iload_n 3, 1) := by decide +kernel
theorem dX5_mark_31 : decode cX5_mark 31 = .ok (.invokevirtual 83, 3) := by decide +kernel
theorem dX5_mark_34 : decode cX5_mark 34 = .ok (.ireturn, 1) := by decide +kernel
theorem dX5_mark_35 : decode cX5_mark 35 = .ok (.aload_n 0, 1) := by decide +kernel
theorem dX5_mark_36 : decode cX5_mark 36 = .ok (.getfield 26, 3) := by decide +kernel
theorem dX5_mark_39 : decode cX5_mark 39 = .ok (.iload_n 1, 1) := by decide +kernel
theorem dX5_mark_40 : decode cX5_mark 40 = .ok (.aaload, 1) := by decide +kernel
theorem dX5_mark_41 : decode cX5_mark 41 = .ok (.iload_n 2, 1) := by decide +kernel
theorem dX5_mark_42 : decode cX5_mark 42 = .ok (.invokevirtual 178, 3) := by decide +kernel
theorem dX5_mark_45 : decode cX5_mark 45 = .ok (.ireturn, 1) := by decide +kernel
theorem dX5_let_0 : decode cX5_let 0 = .ok (.iload_n 1, 1) := by decide +kernel
theorem dX5_let_1 : decode cX5_let 1 = .ok (.iconst 0, 1) := by decide +kernel
theorem dX5_let_2 : decode cX5_let 2 = .ok (.iconst 3, 1) := by decide +kernel
theorem dX5_let_3 : decode cX5_let 3 = .ok (.invokestatic 135, 3) := by decide +kernel
theorem dX5_let_6 : decode cX5_let 6 = .ok (.ifCond .ne 5, 3) := by decide +kernel
theorem dX5_let_9 : decode cX5_let 9 = .ok (.iconst (-1), 1) := by decide +kernel
theorem dX5_let_10 : decode cX5_let 10 = .ok (.ireturn, 1) := by decide +kernel
theorem dX5_let_11 : decode cX5_let 11 = .ok (.iload_n 2, 1) := by decide +kernel
theorem dX5_let_12 : decode cX5_let 12 = .ok (.getstatic 181, 3) := by decide +kernel
theorem dX5_let_15 : decode cX5_let 15 = .ok (.iload_n 1, 1) := by decide +kernel
theorem dX5_let_16 : decode cX5_let 16 = .ok (.iaload, 1) := by decide +kernel
theorem dX5_let_17 : decode cX5_let 17 = .ok (.getstatic 34, 3) := by decide +kernel
theorem dX5_let_20 : decode cX5_let 20 = .ok (.iload_n 1, 1) := by decide +kernel
theorem dX5_let_21 : decode cX5_let 21 = .ok (.iaload, 1) := by decide +kernel
theorem dX5_let_22 : decode cX5_let 22 = .ok (.invokestatic 135, 3) := by decide +kernel
theorem dX5_let_25 : decode cX5_let 25 = .ok (.ifCond .ne 5, 3) := by decide +kernel
theorem dX5_let_28 : decode cX5_let 28 = .ok (.iconst (-1), 1) := by decide +kernel
theorem dX5_let_29 : decode cX5_let 29 = .ok (.ireturn, 1) := by decide +kernel
theorem dX5_let_30 : decode cX5_let 30 = .ok (.aload_n 0, 1) := by decide +kernel
theorem dX5_let_31 : decode cX5_let 31 = .ok (.getfield 37, 3) := by decide +kernel
theorem dX5_let_34 : decode cX5_let 34 = .ok (.iload_n 1, 1) := by decide +kernel
theorem dX5_let_35 : decode cX5_let 35 = .ok (.iaload, 1) := by decide +kernel
theorem dX5_let_36 : decode cX5_let 36 = .ok (.istore_n 3, 1) := by decide +kernel
theorem dX5_let_37 : decode cX5_let 37 = .ok (.aload_n 0, 1) := by decide +kernel
theorem dX5_let_38 : decode cX5_let 38 = .ok (.getfield 37, 3) := by decide +kernel
theorem dX5_let_41 : decode cX5_let 41 = .ok (.iload_n 1, 1) := by decide +kernel
theorem dX5_let_42 : decode cX5_let 42 = .ok (.iload_n 2, 1) := by decide +kernel
theorem dX5_let_43 : decode cX5_let 43 = .ok (.iastore, 1) := by decide +kernel
theorem dX5_let_44 : decode cX5_let 44 = .ok (.iload_n 3, 1) := by decide +kernel
theorem dX5_let_45 : decode cX5_let 45 = .ok (.ireturn, 1) := by decide +kernel
theorem dX5_rest_0 : decode cX5_rest 0 = .ok (.aload_n 0, 1) := by decide +kernel
theorem dX5_rest_1 : decode cX5_rest 1 = .ok (.iconst 0, 1) := by decide +kernel
theorem dX5_rest_2 : decode cX5_rest 2 = .ok (.invokevirtual 184, 3) := by decide +kernel
theorem dX5_rest_5 : decode cX5_rest 5 = .ok (.ifCond .ne 6, 3) := by decide +kernel
theorem dX5_rest_8 : decode cX5_rest 8 = .ok (.bipush (-4), 2) := by decide +kernel
theorem dX5_rest_10 : decode cX5_rest 10 = .ok (.ireturn, 1) := by decide +kernel
theorem dX5_rest_11 : decode cX5_rest 11 = .ok (.aload_n 0, 1) := by decide +kernel
theorem dX5_rest_12 : decode cX5_rest 12 = .ok (.invokevirtual 187, 3) := by decide +kernel
theorem dX5_rest_15 : decode cX5_rest 15 = .ok (.aload_n 0, 1) := by decide +kernel
theorem dX5_rest_16 : decode cX5_rest 16 = .ok (.aload_n 0, 1) := by decide +kernel
theorem dX5_rest_17 : decode cX5_rest 17 = .ok (.getfield 50, 3) := by decide +kernel
theorem dX5_rest_20 : decode cX5_rest 20 = .ok (.getfield 190, 3) := by decide +kernel
theorem dX5_rest_23 : decode cX5_rest 23 = .ok (.aload_n 0, 1) := by decide +kernel
theorem dX5_rest_24 : decode cX5_rest 24 = .ok (.getfield 50, 3) := by decide +kernel
theorem dX5_rest_27 : decode cX5_rest 27 = .ok (.getfield 193, 3) := by decide +kernel
theorem dX5_rest_30 : decode cX5_rest 30 = .ok (.invokevirtual 149, 3) := by decide +kernel
theorem dX5_rest_33 : decode cX5_rest 33 = .ok (.aload_n 0, 1) := by decide +kernel
theorem dX5_rest_34 : decode cX5_rest 34 = .ok (.getfield 50, 3) := by decide +kernel
theorem dX5_rest_37 : decode cX5_rest 37 = .ok (.invokevirtual 196, 3) := by decide +kernel
theorem dX5_rest_40 : decode cX5_rest 40 = .ok (.ifCond .eq 5, 3) := by decide +kernel
theorem dX5_rest_43 : decode cX5_rest 43 = .ok (.iconst 1, 1) := by decide +kernel
theorem dX5_rest_44 : decode cX5_rest 44 = .ok (.ireturn, 1) := by decide +kernel
theorem dX5_rest_45 : decode cX5_rest 45 = .ok (.aload_n 0, 1) := by decide +kernel
theorem dX5_rest_46 : decode cX5_rest 46 = .ok (.getfield 50, 3) := by decide +kernel
theorem dX5_rest_49 : decode cX5_rest 49 = .ok (.getfield 190, 3) := by decide +kernel
theorem dX5_rest_52 : decode cX5_rest 52 = .ok (.lconst 0, 1) := by decide +kernel
theorem dX5_rest_53 : decode cX5_rest 53 = .ok (.lcmp, 1) := by decide +kernel
theorem dX5_rest_54 : decode cX5_rest 54 = .ok (.ifCond .ne 7, 3) := by decide +kernel
theorem dX5_rest_57 : decode cX5_rest 57 = .ok (.iconst 2, 1) := by decide +kernel
theorem dX5_rest_58 : decode cX5_rest 58 = .ok (.goto 4, 3) := by decide +kernel
theorem dX5_rest_61 : decode cX5_rest 61 = .ok (.iconst 0, 1) := by decide +kernel
theorem dX5_rest_62 : decode cX5_rest 62 = .ok (.ireturn, 1) := by decide +kernel
theorem dX5_press_0 : decode cX5_press 0 = .ok (.iload_n 1, 1) := by decide +kernel
theorem dX5_press_1 : decode cX5_press 1 = .ok (.invokestatic 153, 3) := by decide +kernel
theorem dX5_press_4 : decode cX5_press 4 = .ok (.ifCond .ne 5, 3) := by decide +kernel
theorem dX5_press_7 : decode cX5_press 7 = .ok (.iconst (-1), 1) := by decide +kernel
theorem dX5_press_8 : decode cX5_press 8 = .ok (.ireturn, 1) := by decide +kernel
theorem dX5_press_9 : decode cX5_press 9 = .ok (.aload_n 0, 1) := by decide +kernel
theorem dX5_press_10 : decode cX5_press 10 = .ok (.iload_n 1, 1) := by decide +kernel
theorem dX5_press_11 : decode cX5_press 11 = .ok (.iconst 1, 1) := by decide +kernel
theorem dX5_press_12 : decode cX5_press 12 = .ok (.invokevirtual 163, 3) := by decide +kernel
theorem dX5_press_15 : decode cX5_press 15 = .ok (.istore_n 2, 1) := by decide +kernel
theorem dX5_press_16 : decode cX5_press 16 = .ok (.iload_n 2, 1) := by decide +kernel
theorem dX5_press_17 : decode cX5_press 17 = .ok (.ifCond .eq 9, 3) := by decide +kernel
theorem dX5_press_20 : decode cX5_press 20 = .ok (.aload_n 0, 1) := by decide +kernel
theorem dX5_press_21 : decode cX5_press 21 = .ok (.iload_n 2, 1) := by decide +kernel
theorem dX5_press_22 : decode cX5_press 22 = .ok (.invokevirtual 83, 3) := by decide +kernel
theorem dX5_press_25 : decode cX5_press 25 = .ok (.ireturn, 1) := by decide +kernel
theorem dX5_press_26 : decode cX5_press 26 = .ok (.aload_n 0, 1) := by decide +kernel
theorem dX5_press_27 : decode cX5_press 27 = .ok (.invokevirtual 187, 3) := by decide +kernel
theorem dX5_press_30 : decode cX5_press 30 = .ok (.aload_n 0, 1) := by decide +kernel
theorem dX5_press_31 : decode cX5_press 31 = .ok (.aload_n 0, 1) := by decide +kernel
theorem dX5_press_32 : decode cX5_press 32 = .ok (.getfield 50, 3) := by decide +kernel
theorem dX5_press_35 : decode cX5_press 35 = .ok (.getfield 199, 3) := by decide +kernel
theorem dX5_press_38 : decode cX5_press 38 = .ok (.iload_n 1, 1) := by decide +kernel
theorem dX5_press_39 : decode cX5_press 39 = .ok (.laload, 1) := by decide +kernel
theorem dX5_press_40 : decode cX5_press 40 = .ok (.aload_n 0, 1) := by decide +kernel
theorem dX5_press_41 : decode cX5_press 41 = .ok (.getfield 50, 3) := by decide +kernel
theorem dX5_press_44 : decode cX5_press 44 = .ok (.iload_n 1, 1) := by decide +kernel
theorem dX5_press_45 : decode cX5_press 45 = .ok (.invokevirtual 203, 3) := by decide +kernel
theorem dX5_press_48 : decode cX5_press 48 = .ok (.invokevirtual 149, 3) := by decide +kernel
theorem dX5_press_51 : decode cX5_press 51 = .ok (.aload_n 0, 1) := by decide +kernel
theorem dX5_press_52 : decode cX5_press 52 = .ok (.getfield 50, 3) := by decide +kernel
theorem dX5_press_55 : decode cX5_press 55 = .ok (.iload_n 1, 1) := by decide +kernel
theorem dX5_press_56 : decode cX5_press 56 = .ok (.invokevirtual 206, 3) := by decide +kernel
theorem dX5_press_59 : decode cX5_press 59 = .ok (.ifCond .eq 7, 3) := by decide +kernel
theorem dX5_press_62 : decode cX5_press 62 = .ok (.iconst 1, 1) := by decide +kernel
theorem dX5_press_63 : decode cX5_press 63 = .ok (.goto 4, 3) := by decide +kernel
theorem dX5_press_66 : decode cX5_press 66 = .ok (.iconst 0, 1) := by decide +kernel
theorem dX5_press_67 : decode cX5_press 67 = .ok (.ireturn, 1) := by decide +kernel
theorem dX5_opens_0 : decode cX5_opens 0 = .ok (.aload_n 0, 1) := by decide +kernel
theorem dX5_opens_1 : decode cX5_opens 1 = .ok (.invokevirtual 187, 3) := by decide +kernel
theorem dX5_opens_4 : decode cX5_opens 4 = .ok (.aload_n 0, 1) := by decide +kernel
theorem dX5_opens_5 : decode cX5_opens 5 = .ok (.getfield 50, 3) := by decide +kernel
theorem dX5_opens_8 : decode cX5_opens 8 = .ok (.invokevirtual 209, 3) := by decide +kernel
theorem dX5_opens_11 : decode cX5_opens 11 = .ok (.ireturn, 1) := by decide +kernel
theorem dX5_weakest_0 : decode cX5_weakest 0 = .ok (.aload_n 0, 1) := by decide +kernel
theorem dX5_weakest_1 : decode cX5_weakest 1 = .ok (.invokevirtual 187, 3) := by decide +kernel
theorem dX5_weakest_4 : decode cX5_weakest 4 = .ok (.iconst (-1), 1) := by decide +kernel
theorem dX5_weakest_5 : decode cX5_weakest 5 = .ok (.istore_n 1, 1) := by decide +kernel
theorem dX5_weakest_6 : decode cX5_weakest 6 = .ok (.iconst 0, 1) := by decide +kernel
theorem dX5_weakest_7 : decode cX5_weakest 7 = .ok (.istore_n 2, 1) := by decide +kernel
theorem dX5_weakest_8 : decode cX5_weakest 8 = .ok (.iload_n 2, 1) := by decide +kernel
theorem dX5_weakest_9 : decode cX5_weakest 9 = .ok (.iconst 4, 1) := by decide +kernel
theorem dX5_weakest_10 : decode cX5_weakest 10 = .ok (.if_icmp .ge 39, 3) := by decide +kernel
theorem dX5_weakest_13 : decode cX5_weakest 13 = .ok (.aload_n 0, 1) := by decide +kernel
theorem dX5_weakest_14 : decode cX5_weakest 14 = .ok (.getfield 50, 3) := by decide +kernel
theorem dX5_weakest_17 : decode cX5_weakest 17 = .ok (.getfield 212, 3) := by decide +kernel
theorem dX5_weakest_20 : decode cX5_weakest 20 = .ok (.iload_n 2, 1) := by decide +kernel
theorem dX5_weakest_21 : decode cX5_weakest 21 = .ok (.baload, 1) := by decide +kernel
theorem dX5_weakest_22 : decode cX5_weakest 22 = .ok (.ifCond .eq 21, 3) := by decide +kernel
theorem dX5_weakest_25 : decode cX5_weakest 25 = .ok (.iload_n 1, 1) := by decide +kernel
theorem dX5_weakest_26 : decode cX5_weakest 26 = .ok (.ifCond .lt 15, 3) := by decide +kernel
theorem dX5_weakest_29 : decode cX5_weakest 29 = .ok (.aload_n 0, 1) := by decide +kernel
theorem dX5_weakest_30 : decode cX5_weakest 30 = .ok (.getfield 50, 3) := by decide +kernel
theorem dX5_weakest_33 : decode cX5_weakest 33 = .ok (.iload_n 2, 1) := by decide +kernel
theorem dX5_weakest_34 : decode cX5_weakest 34 = .ok (.iload_n 1, 1) := by decide +kernel
theorem dX5_weakest_35 : decode cX5_weakest 35 = .ok (.invokevirtual 216, 3) := by decide +kernel
theorem dX5_weakest_38 : decode cX5_weakest 38 = .ok (.ifCond .eq 5, 3) := by decide +kernel
theorem dX5_weakest_41 : decode cX5_weakest 41 = .ok (.iload_n 2, 1) := by decide +kernel
theorem dX5_weakest_42 : decode cX5_weakest 42 = .ok (.istore_n 1, 1) := by decide +kernel
theorem dX5_weakest_43 : decode cX5_weakest 43 = .ok (.iinc 2 1, 3) := by decide +kernel
theorem dX5_weakest_46 : decode cX5_weakest 46 = .ok (.goto (-38), 3) := by decide +kernel
theorem dX5_weakest_49 : decode cX5_weakest 49 = .ok (.iload_n 1, 1) := by decide +kernel
theorem dX5_weakest_50 : decode cX5_weakest 50 = .ok (.ifCond .ge 6, 3) := by decide +kernel
theorem dX5_weakest_53 : decode cX5_weakest 53 = .ok (.bipush (-9), 2) := by decide +kernel
theorem dX5_weakest_55 : decode cX5_weakest 55 = .ok (.ireturn, 1) := by decide +kernel
theorem dX5_weakest_56 : decode cX5_weakest 56 = .ok (.aload_n 0, 1) := by decide +kernel
theorem dX5_weakest_57 : decode cX5_weakest 57 = .ok (.aload_n 0, 1) := by decide +kernel
theorem dX5_weakest_58 : decode cX5_weakest 58 = .ok (.getfield 50, 3) := by decide +kernel
theorem dX5_weakest_61 : decode cX5_weakest 61 = .ok (.iload_n 1, 1) := by decide +kernel
theorem dX5_weakest_62 : decode cX5_weakest 62 = .ok (.invokevirtual 219, 3) := by decide +kernel
theorem dX5_weakest_65 : decode cX5_weakest 65 = .ok (.putfield 64, 3) := by decide +kernel
theorem dX5_weakest_68 : decode cX5_weakest 68 = .ok (.iload_n 1, 1) := by decide +kernel
theorem dX5_weakest_69 : decode cX5_weakest 69 = .ok (.ireturn, 1) := by decide +kernel
theorem dX5_leak_0 : decode cX5_leak 0 = .ok (.aload_n 0, 1) := by decide +kernel
theorem dX5_leak_1 : decode cX5_leak 1 = .ok (.invokevirtual 187, 3) := by decide +kernel
theorem dX5_leak_4 : decode cX5_leak 4 = .ok (.iconst 0, 1) := by decide +kernel
theorem dX5_leak_5 : decode cX5_leak 5 = .ok (.istore_n 1, 1) := by decide +kernel
theorem dX5_leak_6 : decode cX5_leak 6 = .ok (.iconst 0, 1) := by decide +kernel
theorem dX5_leak_7 : decode cX5_leak 7 = .ok (.istore_n 2, 1) := by decide +kernel
theorem dX5_leak_8 : decode cX5_leak 8 = .ok (.iload_n 2, 1) := by decide +kernel
theorem dX5_leak_9 : decode cX5_leak 9 = .ok (.iconst 4, 1) := by decide +kernel
theorem dX5_leak_10 : decode cX5_leak 10 = .ok (.if_icmp .ge 31, 3) := by decide +kernel
theorem dX5_leak_13 : decode cX5_leak 13 = .ok (.aload_n 0, 1) := by decide +kernel
theorem dX5_leak_14 : decode cX5_leak 14 = .ok (.getfield 50, 3) := by decide +kernel
theorem dX5_leak_17 : decode cX5_leak 17 = .ok (.iload_n 2, 1) := by decide +kernel
theorem dX5_leak_18 : decode cX5_leak 18 = .ok (.invokevirtual 206, 3) := by decide +kernel
theorem dX5_leak_21 : decode cX5_leak 21 = .ok (.ifCond .eq 14, 3) := by decide +kernel
theorem dX5_leak_24 : decode cX5_leak 24 = .ok (.iload_n 1, 1) := by decide +kernel
theorem dX5_leak_25 : decode cX5_leak 25 = .ok (.aload_n 0, 1) := by decide +kernel
theorem dX5_leak_26 : decode cX5_leak 26 = .ok (.getfield 50, 3) := by decide +kernel
theorem dX5_leak_29 : decode cX5_leak 29 = .ok (.iload_n 2, 1) := by decide +kernel
theorem dX5_leak_30 : decode cX5_leak 30 = .ok (.invokevirtual 222, 3) := by decide +kernel
theorem dX5_leak_33 : decode cX5_leak 33 = .ok (.iadd, 1) := by decide +kernel
theorem dX5_leak_34 : decode cX5_leak 34 = .ok (.istore_n 1, 1) := by decide +kernel
theorem dX5_leak_35 : decode cX5_leak 35 = .ok (.iinc 2 1, 3) := by decide +kernel
theorem dX5_leak_38 : decode cX5_leak 38 = .ok (.goto (-30), 3) := by decide +kernel
theorem dX5_leak_41 : decode cX5_leak 41 = .ok (.iload_n 1, 1) := by decide +kernel
theorem dX5_leak_42 : decode cX5_leak 42 = .ok (.ireturn, 1) := by decide +kernel
theorem dX5_through_0 : decode cX5_through 0 = .ok (.iload_n 1, 1) := by decide +kernel
theorem dX5_through_1 : decode cX5_through 1 = .ok (.invokestatic 153, 3) := by decide +kernel
theorem dX5_through_4 : decode cX5_through 4 = .ok (.ifCond .ne 5, 3) := by decide +kernel
theorem dX5_through_7 : decode cX5_through 7 = .ok (.iconst (-1), 1) := by decide +kernel
theorem dX5_through_8 : decode cX5_through 8 = .ok (.ireturn, 1) := by decide +kernel
theorem dX5_through_9 : decode cX5_through 9 = .ok (.aload_n 0, 1) := by decide +kernel
theorem dX5_through_10 : decode cX5_through 10 = .ok (.iload_n 1, 1) := by decide +kernel
theorem dX5_through_11 : decode cX5_through 11 = .ok (.iconst 1, 1) := by decide +kernel
theorem dX5_through_12 : decode cX5_through 12 = .ok (.invokevirtual 163, 3) := by decide +kernel
theorem dX5_through_15 : decode cX5_through 15 = .ok (.istore_n 2, 1) := by decide +kernel
theorem dX5_through_16 : decode cX5_through 16 = .ok (.iload_n 2, 1) := by decide +kernel
theorem dX5_through_17 : decode cX5_through 17 = .ok (.ifCond .eq 9, 3) := by decide +kernel
theorem dX5_through_20 : decode cX5_through 20 = .ok (.aload_n 0, 1) := by decide +kernel
theorem dX5_through_21 : decode cX5_through 21 = .ok (.iload_n 2, 1) := by decide +kernel
theorem dX5_through_22 : decode cX5_through 22 = .ok (.invokevirtual 83, 3) := by decide +kernel
theorem dX5_through_25 : decode cX5_through 25 = .ok (.ireturn, 1) := by decide +kernel
theorem dX5_through_26 : decode cX5_through 26 = .ok (.aload_n 0, 1) := by decide +kernel
theorem dX5_through_27 : decode cX5_through 27 = .ok (.invokevirtual 187, 3) := by decide +kernel
theorem dX5_through_30 : decode cX5_through 30 = .ok (.aload_n 0, 1) := by decide +kernel
theorem dX5_through_31 : decode cX5_through 31 = .ok (.getfield 26, 3) := by decide +kernel
theorem dX5_through_34 : decode cX5_through 34 = .ok (.iload_n 1, 1) := by decide +kernel
theorem dX5_through_35 : decode cX5_through 35 = .ok (.aaload, 1) := by decide +kernel
theorem dX5_through_36 : decode cX5_through 36 = .ok (.astore_n 3, 1) := by decide +kernel
theorem dX5_through_37 : decode cX5_through 37 = .ok (.aload_n 0, 1) := by decide +kernel
theorem dX5_through_38 : decode cX5_through 38 = .ok (.getfield 50, 3) := by decide +kernel
theorem dX5_through_41 : decode cX5_through 41 = .ok (.iload_n 1, 1) := by decide +kernel
theorem dX5_through_42 : decode cX5_through 42 = .ok (.invokevirtual 225, 3) := by decide +kernel
theorem dX5_through_45 : decode cX5_through 45 = .ok (.lconst 0, 1) := by decide +kernel
theorem dX5_through_46 : decode cX5_through 46 = .ok (.lcmp, 1) := by decide +kernel
theorem dX5_through_47 : decode cX5_through 47 = .ok (.ifCond .le 29, 3) := by decide +kernel
theorem dX5_through_50 : decode cX5_through 50 = .ok (.aload_n 0, 1) := by decide +kernel
theorem dX5_through_51 : decode cX5_through 51 = .ok (.getfield 50, 3) := by decide +kernel
theorem dX5_through_54 : decode cX5_through 54 = .ok (.getfield 190, 3) := by decide +kernel
theorem dX5_through_57 : decode cX5_through 57 = .ok (.aload_n 0, 1) := by decide +kernel
theorem dX5_through_58 : decode cX5_through 58 = .ok (.getfield 30, 3) := by decide +kernel
theorem dX5_through_61 : decode cX5_through 61 = .ok (.iload_n 1, 1) := by decide +kernel
theorem dX5_through_62 : decode cX5_through 62 = .ok (.iaload, 1) := by decide +kernel
theorem dX5_through_63 : decode cX5_through 63 = .ok (.i2l, 1) := by decide +kernel
theorem dX5_through_64 : decode cX5_through 64 = .ok (.aload_n 0, 1) := by decide +kernel
theorem dX5_through_65 : decode cX5_through 65 = .ok (.getfield 50, 3) := by decide +kernel
theorem dX5_through_68 : decode cX5_through 68 = .ok (.getfield 193, 3) := by decide +kernel
theorem dX5_through_71 : decode cX5_through 71 = .ok (.lmul, 1) := by decide +kernel
theorem dX5_through_72 : decode cX5_through 72 = .ok (.ladd, 1) := by decide +kernel
theorem dX5_through_73 : decode cX5_through 73 = .ok (.goto 16, 3) := by decide +kernel
theorem dX5_through_76 : decode cX5_through 76 = .ok (.aload_n 3, 1) := by decide +kernel
theorem dX5_through_77 : decode cX5_through 77 = .ok (.getfield 174, 3) := by decide +kernel
theorem dX5_through_80 : decode cX5_through 80 = .ok (.i2l, 1) := by decide +kernel
theorem dX5_through_81 : decode cX5_through 81 = .ok (.aload_n 0, 1) := by decide +kernel
theorem dX5_through_82 : decode cX5_through 82 = .ok (.getfield 50, 3) := by decide +kernel
theorem dX5_through_85 : decode cX5_through 85 = .ok (.getfield 193, 3) := by decide +kernel
theorem dX5_through_88 : decode cX5_through 88 = .ok (.lmul, 1) := by decide +kernel
theorem dX5_through_89 : decode cX5_through 89 = .ok (.lstore 4, 2) := by decide +kernel
theorem dX5_through_91 : decode cX5_through 91 = .ok (.lload 4, 2) := by decide +kernel
theorem dX5_through_93 : decode cX5_through 93 = .ok (.lconst 0, 1) := by decide +kernel
theorem dX5_through_94 : decode cX5_through 94 = .ok (.lcmp, 1) := by decide +kernel
theorem dX5_through_95 : decode cX5_through 95 = .ok (.ifCond .gt 9, 3) := by decide +kernel
theorem dX5_through_98 : decode cX5_through 98 = .ok (.aload_n 0, 1) := by decide +kernel
theorem dX5_through_99 : decode cX5_through 99 = .ok (.iconst 4, 1) := by decide +kernel
theorem dX5_through_100 : decode cX5_through 100 = .ok (.invokevirtual 83, 3) := by decide +kernel
theorem dX5_through_103 : decode cX5_through 103 = .ok (.ireturn, 1) := by decide +kernel
theorem dX5_through_104 : decode cX5_through 104 = .ok (.aload_n 0, 1) := by decide +kernel
theorem dX5_through_105 : decode cX5_through 105 = .ok (.aload_n 3, 1) := by decide +kernel
theorem dX5_through_106 : decode cX5_through 106 = .ok (.invokevirtual 228, 3) := by decide +kernel
theorem dX5_through_109 : decode cX5_through 109 = .ok (.getfield 232, 3) := by decide +kernel
theorem dX5_through_112 : decode cX5_through 112 = .ok (.i2l, 1) := by decide +kernel
theorem dX5_through_113 : decode cX5_through 113 = .ok (.aload_n 0, 1) := by decide +kernel
theorem dX5_through_114 : decode cX5_through 114 = .ok (.getfield 37, 3) := by decide +kernel
theorem dX5_through_117 : decode cX5_through 117 = .ok (.iconst 2, 1) := by decide +kernel
theorem dX5_through_118 : decode cX5_through 118 = .ok (.iaload, 1) := by decide +kernel
theorem dX5_through_119 : decode cX5_through 119 = .ok (.i2l, 1) := by decide +kernel
theorem dX5_through_120 : decode cX5_through 120 = .ok (.lmul, 1) := by decide +kernel
theorem dX5_through_121 : decode cX5_through 121 = .ok (.aload_n 3, 1) := by decide +kernel
theorem dX5_through_122 : decode cX5_through 122 = .ok (.getfield 235, 3) := by decide +kernel
theorem dX5_through_125 : decode cX5_through 125 = .ok (.i2l, 1) := by decide +kernel
theorem dX5_through_126 : decode cX5_through 126 = .ok (.lmul, 1) := by decide +kernel
theorem dX5_through_127 : decode cX5_through 127 = .ok (.lstore 6, 2) := by decide +kernel
theorem dX5_through_129 : decode cX5_through 129 = .ok (.aload_n 0, 1) := by decide +kernel
theorem dX5_through_130 : decode cX5_through 130 = .ok (.lload 6, 2) := by decide +kernel
theorem dX5_through_132 : decode cX5_through 132 = .ok (.aload_n 0, 1) := by decide +kernel
theorem dX5_through_133 : decode cX5_through 133 = .ok (.getfield 50, 3) := by decide +kernel
theorem dX5_through_136 : decode cX5_through 136 = .ok (.getfield 193, 3) := by decide +kernel
theorem dX5_through_139 : decode cX5_through 139 = .ok (.lmul, 1) := by decide +kernel
theorem dX5_through_140 : decode cX5_through 140 = .ok (.lload 4, 2) := by decide +kernel
theorem dX5_through_142 : decode cX5_through 142 = .ok (.invokevirtual 149, 3) := by decide +kernel
theorem dX5_through_145 : decode cX5_through 145 = .ok (.iconst 1, 1) := by decide +kernel
theorem dX5_through_146 : decode cX5_through 146 = .ok (.ireturn, 1) := by decide +kernel
theorem dX5_age_0 : decode cX5_age 0 = .ok (.iload_n 1, 1) := by decide +kernel
theorem dX5_age_1 : decode cX5_age 1 = .ok (.iconst 1, 1) := by decide +kernel
theorem dX5_age_2 : decode cX5_age 2 = .ok (.bipush 9, 2) := by decide +kernel
theorem dX5_age_4 : decode cX5_age 4 = .ok (.invokestatic 135, 3) := by decide +kernel
theorem dX5_age_7 : decode cX5_age 7 = .ok (.ifCond .ne 5, 3) := by decide +kernel
theorem dX5_age_10 : decode cX5_age 10 = .ok (.iconst (-1), 1) := by decide +kernel
theorem dX5_age_11 : decode cX5_age 11 = .ok (.ireturn, 1) := by decide +kernel
theorem dX5_age_12 : decode cX5_age 12 = .ok (.aload_n 0, 1) := by decide +kernel
theorem dX5_age_13 : decode cX5_age 13 = .ok (.invokevirtual 187, 3) := by decide +kernel
theorem dX5_age_16 : decode cX5_age 16 = .ok (.iconst 0, 1) := by decide +kernel
theorem dX5_age_17 : decode cX5_age 17 = .ok (.istore_n 2, 1) := by decide +kernel
theorem dX5_age_18 : decode cX5_age 18 = .ok (.iconst 0, 1) := by decide +kernel
theorem dX5_age_19 : decode cX5_age 19 = .ok (.istore_n 3, 1) := by decide +kernel
theorem dX5_age_20 : decode cX5_age 20 = .ok (.iload_n 3, 1) := by decide +kernel
theorem dX5_age_21 : decode cX5_age 21 = .ok (.iconst 4, 1) := by decide +kernel
theorem dX5_age_22 : decode cX5_age 22 = .ok (.if_icmp .ge 99, 3) := by decide +kernel
theorem dX5_age_25 : decode cX5_age 25 = .ok (.aload_n 0, 1) := by decide +kernel
theorem dX5_age_26 : decode cX5_age 26 = .ok (.getfield 50, 3) := by decide +kernel
theorem dX5_age_29 : decode cX5_age 29 = .ok (.getfield 212, 3) := by decide +kernel
theorem dX5_age_32 : decode cX5_age 32 = .ok (.iload_n 3, 1) := by decide +kernel
theorem dX5_age_33 : decode cX5_age 33 = .ok (.baload, 1) := by decide +kernel
theorem dX5_age_34 : decode cX5_age 34 = .ok (.ifCond .ne 6, 3) := by decide +kernel
theorem dX5_age_37 : decode cX5_age 37 = .ok (.goto 78, 3) := by decide +kernel
theorem dX5_age_40 : decode cX5_age 40 = .ok (.bipush 100, 2) := by decide +kernel
theorem dX5_age_42 : decode cX5_age 42 = .ok (.aload_n 0, 1) := by decide +kernel
theorem dX5_age_43 : decode cX5_age 43 = .ok (.aload_n 0, 1) := by decide +kernel
theorem dX5_age_44 : decode cX5_age 44 = .ok (.getfield 26, 3) := by decide +kernel
theorem dX5_age_47 : decode cX5_age 47 = .ok (.iload_n 3, 1) := by decide +kernel
theorem dX5_age_48 : decode cX5_age 48 = .ok (.aaload, 1) := by decide +kernel
theorem dX5_age_49 : decode cX5_age 49 = .ok (.invokevirtual 228, 3) := by decide +kernel
theorem dX5_age_52 : decode cX5_age 52 = .ok (.getfield 238, 3) := by decide +kernel
theorem dX5_age_55 : decode cX5_age 55 = .ok (.iload_n 1, 1) := by decide +kernel
theorem dX5_age_56 : decode cX5_age 56 = .ok (.imul, 1) := by decide +kernel
theorem dX5_age_57 : decode cX5_age 57 = .ok (.invokestatic 241, 3) := by decide +kernel
theorem dX5_age_60 : decode cX5_age 60 = .ok (.istore 4, 2) := by decide +kernel
theorem dX5_age_62 : decode cX5_age 62 = .ok (.aload_n 0, 1) := by decide +kernel
theorem dX5_age_63 : decode cX5_age 63 = .ok (.getfield 50, 3) := by decide +kernel
theorem dX5_age_66 : decode cX5_age 66 = .ok (.iload_n 3, 1) := by decide +kernel
theorem dX5_age_67 : decode cX5_age 67 = .ok (.invokevirtual 225, 3) := by decide +kernel
theorem dX5_age_70 : decode cX5_age 70 = .ok (.iload 4, 2) := by decide +kernel
theorem dX5_age_72 : decode cX5_age 72 = .ok (.i2l, 1) := by decide +kernel
theorem dX5_age_73 : decode cX5_age 73 = .ok (.lmul, 1) := by decide +kernel
theorem dX5_age_74 : decode cX5_age 74 = .ok (.ldc2_w 246, 3) := by decide +kernel
theorem dX5_age_77 : decode cX5_age 77 = .ok (.aload_n 0, 1) := by decide +kernel
theorem dX5_age_78 : decode cX5_age 78 = .ok (.getfield 50, 3) := by decide +kernel
theorem dX5_age_81 : decode cX5_age 81 = .ok (.getfield 193, 3) := by decide +kernel
theorem dX5_age_84 : decode cX5_age 84 = .ok (.lmul, 1) := by decide +kernel
theorem dX5_age_85 : decode cX5_age 85 = .ok (.invokestatic 248, 3) := by decide +kernel
theorem dX5_age_88 : decode cX5_age 88 = .ok (.l2i, 1) := by decide +kernel
theorem dX5_age_89 : decode cX5_age 89 = .ok (.istore 5, 2) := by decide +kernel
theorem dX5_age_91 : decode cX5_age 91 = .ok (.aload_n 0, 1) := by decide +kernel
theorem dX5_age_92 : decode cX5_age 92 = .ok (.getfield 26, 3) := by decide +kernel
theorem dX5_age_95 : decode cX5_age 95 = .ok (.iload_n 3, 1) := by decide +kernel
theorem dX5_age_96 : decode cX5_age 96 = .ok (.aaload, 1) := by decide +kernel
theorem dX5_age_97 : decode cX5_age 97 = .ok (.dup, 1) := by decide +kernel
theorem dX5_age_98 : decode cX5_age 98 = .ok (.getfield 174, 3) := by decide +kernel
theorem dX5_age_101 : decode cX5_age 101 = .ok (.iload 5, 2) := by decide +kernel
theorem dX5_age_103 : decode cX5_age 103 = .ok (.isub, 1) := by decide +kernel
theorem dX5_age_104 : decode cX5_age 104 = .ok (.putfield 174, 3) := by decide +kernel
theorem dX5_age_107 : decode cX5_age 107 = .ok (.iload 5, 2) := by decide +kernel
theorem dX5_age_109 : decode cX5_age 109 = .ok (.ifCond .le 6, 3) := by decide +kernel
theorem dX5_age_112 : decode cX5_age 112 = .ok (.iinc 2 1, 3) := by decide +kernel
theorem dX5_age_115 : decode cX5_age 115 = .ok (.iinc 3 1, 3) := by decide +kernel
theorem dX5_age_118 : decode cX5_age 118 = .ok (.goto (-98), 3) := by decide +kernel
theorem dX5_age_121 : decode cX5_age 121 = .ok (.iload_n 2, 1) := by decide +kernel
theorem dX5_age_122 : decode cX5_age 122 = .ok (.ireturn, 1) := by decide +kernel
theorem dX5_swell_0 : decode cX5_swell 0 = .ok (.iconst 0, 1) := by decide +kernel
theorem dX5_swell_1 : decode cX5_swell 1 = .ok (.istore_n 1, 1) := by decide +kernel
theorem dX5_swell_2 : decode cX5_swell 2 = .ok (.iconst 0, 1) := by decide +kernel
theorem dX5_swell_3 : decode cX5_swell 3 = .ok (.istore_n 2, 1) := by decide +kernel
theorem dX5_swell_4 : decode cX5_swell 4 = .ok (.iload_n 2, 1) := by decide +kernel
theorem dX5_swell_5 : decode cX5_swell 5 = .ok (.iconst 4, 1) := by decide +kernel
theorem dX5_swell_6 : decode cX5_swell 6 = .ok (.if_icmp .ge 73, 3) := by decide +kernel
theorem dX5_swell_9 : decode cX5_swell 9 = .ok (.aload_n 0, 1) := by decide +kernel
theorem dX5_swell_10 : decode cX5_swell 10 = .ok (.getfield 26, 3) := by decide +kernel
theorem dX5_swell_13 : decode cX5_swell 13 = .ok (.iload_n 2, 1) := by decide +kernel
theorem dX5_swell_14 : decode cX5_swell 14 = .ok (.aaload, 1) := by decide +kernel
theorem dX5_swell_15 : decode cX5_swell 15 = .ok (.astore_n 3, 1) := by decide +kernel
theorem dX5_swell_16 : decode cX5_swell 16 = .ok (.aload_n 3, 1) := by decide +kernel
theorem dX5_swell_17 : decode cX5_swell 17 = .ok (.iconst 1, 1) := by decide +kernel
theorem dX5_swell_18 : decode cX5_swell 18 = .ok (.invokevirtual 252, 3) := by decide +kernel
theorem dX5_swell_21 : decode cX5_swell 21 = .ok (.ifCond .ne 6, 3) := by decide +kernel
theorem dX5_swell_24 : decode cX5_swell 24 = .ok (.goto 49, 3) := by decide +kernel
theorem dX5_swell_27 : decode cX5_swell 27 = .ok (.sipush 800, 3) := by decide +kernel
theorem dX5_swell_30 : decode cX5_swell 30 = .ok (.aload_n 3, 1) := by decide +kernel
theorem dX5_swell_31 : decode cX5_swell 31 = .ok (.getfield 174, 3) := by decide +kernel
theorem dX5_swell_34 : decode cX5_swell 34 = .ok (.aload_n 3, 1) := by decide +kernel
theorem dX5_swell_35 : decode cX5_swell 35 = .ok (.getfield 174, 3) := by decide +kernel
theorem dX5_swell_38 : decode cX5_swell 38 = .ok (.aload_n 0, 1) := by decide +kernel
theorem dX5_swell_39 : decode cX5_swell 39 = .ok (.aload_n 3, 1) := by decide +kernel
theorem dX5_swell_40 : decode cX5_swell 40 = .ok (.invokevirtual 228, 3) := by decide +kernel
theorem dX5_swell_43 : decode cX5_swell 43 = .ok (.getfield 255, 3) := by decide +kernel
theorem dX5_swell_46 : decode cX5_swell 46 = .ok (.imul, 1) := by decide +kernel
theorem dX5_swell_47 : decode cX5_swell 47 = .ok (.sipush 1000, 3) := by decide +kernel
theorem dX5_swell_50 : decode cX5_swell 50 = .ok (.idiv, 1) := by decide +kernel
theorem dX5_swell_51 : decode cX5_swell 51 = .ok (.iadd, 1) := by decide +kernel
theorem dX5_swell_52 : decode cX5_swell 52 = .ok (.invokestatic 241, 3) := by decide +kernel
theorem dX5_swell_55 : decode cX5_swell 55 = .ok (.istore 4, 2) := by decide +kernel
theorem dX5_swell_57 : decode cX5_swell 57 = .ok (.iload_n 1, 1) := by decide +kernel
theorem dX5_swell_58 : decode cX5_swell 58 = .ok (.iload 4, 2) := by decide +kernel
theorem dX5_swell_60 : decode cX5_swell 60 = .ok (.aload_n 3, 1) := by decide +kernel
theorem dX5_swell_61 : decode cX5_swell 61 = .ok (.getfield 174, 3) := by decide +kernel
theorem dX5_swell_64 : decode cX5_swell 64 = .ok (.isub, 1) := by decide +kernel
theorem dX5_swell_65 : decode cX5_swell 65 = .ok (.iadd, 1) := by decide +kernel
theorem dX5_swell_66 : decode cX5_swell 66 = .ok (.istore_n 1, 1) := by decide +kernel
theorem dX5_swell_67 : decode cX5_swell 67 = .ok (.aload_n 3, 1) := by decide +kernel
theorem dX5_swell_68 : decode cX5_swell 68 = .ok (.iload 4, 2) := by decide +kernel
theorem dX5_swell_70 : decode cX5_swell 70 = .ok (.putfield 174, 3) := by decide +kernel
theorem dX5_swell_73 : decode cX5_swell 73 = .ok (.iinc 2 1, 3) := by decide +kernel
theorem dX5_swell_76 : decode cX5_swell 76 = .ok (.goto (-72), 3) := by decide +kernel
theorem dX5_swell_79 : decode cX5_swell 79 = .ok (.iload_n 1, 1) := by decide +kernel
theorem dX5_swell_80 : decode cX5_swell 80 = .ok (.ireturn, 1) := by decide +kernel
theorem dX5_renew_0 : decode cX5_renew 0 = .ok (.iload_n 1, 1) := by decide +kernel
theorem dX5_renew_1 : decode cX5_renew 1 = .ok (.invokestatic 153, 3) := by decide +kernel
theorem dX5_renew_4 : decode cX5_renew 4 = .ok (.ifCond .ne 5, 3) := by decide +kernel
theorem dX5_renew_7 : decode cX5_renew 7 = .ok (.iconst (-1), 1) := by decide +kernel
theorem dX5_renew_8 : decode cX5_renew 8 = .ok (.ireturn, 1) := by decide +kernel
theorem dX5_renew_9 : decode cX5_renew 9 = .ok (.aload_n 0, 1) := by decide +kernel
theorem dX5_renew_10 : decode cX5_renew 10 = .ok (.getfield 26, 3) := by decide +kernel
theorem dX5_renew_13 : decode cX5_renew 13 = .ok (.iload_n 1, 1) := by decide +kernel
theorem dX5_renew_14 : decode cX5_renew 14 = .ok (.aaload, 1) := by decide +kernel
theorem dX5_renew_15 : decode cX5_renew 15 = .ok (.astore_n 2, 1) := by decide +kernel
theorem dX5_renew_16 : decode cX5_renew 16 = .ok (.aload_n 2, 1) := by decide +kernel
theorem dX5_renew_17 : decode cX5_renew 17 = .ok (.invokevirtual 159, 3) := by decide +kernel
theorem dX5_renew_20 : decode cX5_renew 20 = .ok (.ifCond .eq 9, 3) := by decide +kernel
theorem dX5_renew_23 : decode cX5_renew 23 = .ok (.aload_n 0, 1) := by decide +kernel
theorem dX5_renew_24 : decode cX5_renew 24 = .ok (.iconst 1, 1) := by decide +kernel
theorem dX5_renew_25 : decode cX5_renew 25 = .ok (.invokevirtual 83, 3) := by decide +kernel
theorem dX5_renew_28 : decode cX5_renew 28 = .ok (.ireturn, 1) := by decide +kernel
theorem dX5_renew_29 : decode cX5_renew 29 = .ok (.aload_n 0, 1) := by decide +kernel
theorem dX5_renew_30 : decode cX5_renew 30 = .ok (.aload_n 2, 1) := by decide +kernel
theorem dX5_renew_31 : decode cX5_renew 31 = .ok (.getfield 258, 3) := by decide +kernel
theorem dX5_renew_34 : decode cX5_renew 34 = .ok (.aload_n 2, 1) := by decide +kernel
theorem dX5_renew_35 : decode cX5_renew 35 = .ok (.getfield 174, 3) := by decide +kernel
theorem dX5_renew_38 : decode cX5_renew 38 = .ok (.isub, 1) := by decide +kernel
theorem dX5_renew_39 : decode cX5_renew 39 = .ok (.putfield 64, 3) := by decide +kernel
theorem dX5_renew_42 : decode cX5_renew 42 = .ok (.aload_n 2, 1) := by decide +kernel
theorem dX5_renew_43 : decode cX5_renew 43 = .ok (.aload_n 2, 1) := by decide +kernel
theorem dX5_renew_44 : decode cX5_renew 44 = .ok (.getfield 258, 3) := by decide +kernel
theorem dX5_renew_47 : decode cX5_renew 47 = .ok (.putfield 174, 3) := by decide +kernel
theorem dX5_renew_50 : decode cX5_renew 50 = .ok (.aload_n 2, 1) := by decide +kernel
theorem dX5_renew_51 : decode cX5_renew 51 = .ok (.iconst 0, 1) := by decide +kernel
theorem dX5_renew_52 : decode cX5_renew 52 = .ok (.putfield 167, 3) := by decide +kernel
theorem dX5_renew_55 : decode cX5_renew 55 = .ok (.iconst 1, 1) := by decide +kernel
theorem dX5_renew_56 : decode cX5_renew 56 = .ok (.ireturn, 1) := by decide +kernel
theorem dX5_blown_0 : decode cX5_blown 0 = .ok (.iload_n 1, 1) := by decide +kernel
theorem dX5_blown_1 : decode cX5_blown 1 = .ok (.invokestatic 153, 3) := by decide +kernel
theorem dX5_blown_4 : decode cX5_blown 4 = .ok (.ifCond .ne 5, 3) := by decide +kernel
theorem dX5_blown_7 : decode cX5_blown 7 = .ok (.iconst (-1), 1) := by decide +kernel
theorem dX5_blown_8 : decode cX5_blown 8 = .ok (.ireturn, 1) := by decide +kernel
theorem dX5_blown_9 : decode cX5_blown 9 = .ok (.aload_n 0, 1) := by decide +kernel
theorem dX5_blown_10 : decode cX5_blown 10 = .ok (.iload_n 1, 1) := by decide +kernel
theorem dX5_blown_11 : decode cX5_blown 11 = .ok (.iconst 1, 1) := by decide +kernel
theorem dX5_blown_12 : decode cX5_blown 12 = .ok (.invokevirtual 163, 3) := by decide +kernel
theorem dX5_blown_15 : decode cX5_blown 15 = .ok (.istore_n 2, 1) := by decide +kernel
theorem dX5_blown_16 : decode cX5_blown 16 = .ok (.iload_n 2, 1) := by decide +kernel
theorem dX5_blown_17 : decode cX5_blown 17 = .ok (.ifCond .eq 9, 3) := by decide +kernel
theorem dX5_blown_20 : decode cX5_blown 20 = .ok (.aload_n 0, 1) := by decide +kernel
theorem dX5_blown_21 : decode cX5_blown 21 = .ok (.iload_n 2, 1) := by decide +kernel
theorem dX5_blown_22 : decode cX5_blown 22 = .ok (.invokevirtual 83, 3) := by decide +kernel
theorem dX5_blown_25 : decode cX5_blown 25 = .ok (.ireturn, 1) := by decide +kernel
theorem dX5_blown_26 : decode cX5_blown 26 = .ok (.aload_n 0, 1) := by decide +kernel
theorem dX5_blown_27 : decode cX5_blown 27 = .ok (.getfield 26, 3) := by decide +kernel
theorem dX5_blown_30 : decode cX5_blown 30 = .ok (.iload_n 1, 1) := by decide +kernel
theorem dX5_blown_31 : decode cX5_blown 31 = .ok (.aaload, 1) := by decide +kernel
theorem dX5_blown_32 : decode cX5_blown 32 = .ok (.astore_n 3, 1) := by decide +kernel
theorem dX5_blown_33 : decode cX5_blown 33 = .ok (.aload_n 3, 1) := by decide +kernel
theorem dX5_blown_34 : decode cX5_blown 34 = .ok (.iconst 4, 1) := by decide +kernel
theorem dX5_blown_35 : decode cX5_blown 35 = .ok (.invokevirtual 252, 3) := by decide +kernel
theorem dX5_blown_38 : decode cX5_blown 38 = .ok (.ifCond .eq 15, 3) := by decide +kernel
theorem dX5_blown_41 : decode cX5_blown 41 = .ok (.aload_n 3, 1) := by decide +kernel
theorem dX5_blown_42 : decode cX5_blown 42 = .ok (.dup, 1) := by decide +kernel
theorem dX5_blown_43 : decode cX5_blown 43 = .ok (.getfield 261, 3) := by decide +kernel
theorem dX5_blown_46 : decode cX5_blown 46 = .ok (.iconst 1, 1) := by decide +kernel
theorem dX5_blown_47 : decode cX5_blown 47 = .ok (.iadd, 1) := by decide +kernel
theorem dX5_blown_48 : decode cX5_blown 48 = .ok (.putfield 261, 3) := by decide +kernel
theorem dX5_blown_51 : decode cX5_blown 51 = .ok (.iconst 0, 1) := by decide +kernel
theorem dX5_blown_52 : decode cX5_blown 52 = .ok (.ireturn, 1) := by decide +kernel
theorem dX5_blown_53 : decode cX5_blown 53 = .ok (.aload_n 0, 1) := by decide +kernel
theorem dX5_blown_54 : decode cX5_blown 54 = .ok (.getfield 37, 3) := by decide +kernel
theorem dX5_blown_57 : decode cX5_blown 57 = .ok (.iconst 2, 1) := by decide +kernel
theorem dX5_blown_58 : decode cX5_blown 58 = .ok (.iaload, 1) := by decide +kernel
theorem dX5_blown_59 : decode cX5_blown 59 = .ok (.i2l, 1) := by decide +kernel
theorem dX5_blown_60 : decode cX5_blown 60 = .ok (.aload_n 0, 1) := by decide +kernel
theorem dX5_blown_61 : decode cX5_blown 61 = .ok (.getfield 37, 3) := by decide +kernel
theorem dX5_blown_64 : decode cX5_blown 64 = .ok (.iconst 3, 1) := by decide +kernel
theorem dX5_blown_65 : decode cX5_blown 65 = .ok (.iaload, 1) := by decide +kernel
theorem dX5_blown_66 : decode cX5_blown 66 = .ok (.i2l, 1) := by decide +kernel
theorem dX5_blown_67 : decode cX5_blown 67 = .ok (.lmul, 1) := by decide +kernel
theorem dX5_blown_68 : decode cX5_blown 68 = .ok (.ldc2_w 147, 3) := by decide +kernel
theorem dX5_blown_71 : decode cX5_blown 71 = .ok (.lmul, 1) := by decide +kernel
theorem dX5_blown_72 : decode cX5_blown 72 = .ok (.lstore 4, 2) := by decide +kernel
theorem dX5_blown_74 : decode cX5_blown 74 = .ok (.lload 4, 2) := by decide +kernel
theorem dX5_blown_76 : decode cX5_blown 76 = .ok (.ldc2_w 246, 3) := by decide +kernel
theorem dX5_blown_79 : decode cX5_blown 79 = .ok (.aload_n 0, 1) := by decide +kernel
theorem dX5_blown_80 : decode cX5_blown 80 = .ok (.aload_n 3, 1) := by decide +kernel
theorem dX5_blown_81 : decode cX5_blown 81 = .ok (.invokevirtual 228, 3) := by decide +kernel
theorem dX5_blown_84 : decode cX5_blown 84 = .ok (.bipush 10, 2) := by decide +kernel
theorem dX5_blown_86 : decode cX5_blown 86 = .ok (.invokevirtual 143, 3) := by decide +kernel
theorem dX5_blown_89 : decode cX5_blown 89 = .ok (.lmul, 1) := by decide +kernel
theorem dX5_blown_90 : decode cX5_blown 90 = .ok (.lcmp, 1) := by decide +kernel
theorem dX5_blown_91 : decode cX5_blown 91 = .ok (.ifCond .le 7, 3) := by decide +kernel
theorem dX5_blown_94 : decode cX5_blown 94 = .ok (.iconst 1, 1) := by decide +kernel
theorem dX5_blown_95 : decode cX5_blown 95 = .ok (.goto 4, 3) := by decide +kernel
theorem dX5_blown_98 : decode cX5_blown 98 = .ok (.iconst 0, 1) := by decide +kernel
theorem dX5_blown_99 : decode cX5_blown 99 = .ok (.ireturn, 1) := by decide +kernel
theorem dX5_ends_0 : decode cX5_ends 0 = .ok (.iload_n 1, 1) := by decide +kernel
theorem dX5_ends_1 : decode cX5_ends 1 = .ok (.invokestatic 153, 3) := by decide +kernel
theorem dX5_ends_4 : decode cX5_ends 4 = .ok (.ifCond .eq 11, 3) := by decide +kernel
theorem dX5_ends_7 : decode cX5_ends 7 = .ok (.iload_n 2, 1) := by decide +kernel
theorem dX5_ends_8 : decode cX5_ends 8 = .ok (.iload_n 3, 1) := by decide +kernel
theorem dX5_ends_9 : decode cX5_ends 9 = .ok (.invokestatic 264, 3) := by decide +kernel
theorem dX5_ends_12 : decode cX5_ends 12 = .ok (.ifCond .ne 5, 3) := by decide +kernel
theorem dX5_ends_15 : decode cX5_ends 15 = .ok (.iconst (-1), 1) := by decide +kernel
theorem dX5_ends_16 : decode cX5_ends 16 = .ok (.ireturn, 1) := by decide +kernel
theorem dX5_ends_17 : decode cX5_ends 17 = .ok (.aload_n 0, 1) := by decide +kernel
theorem dX5_ends_18 : decode cX5_ends 18 = .ok (.iload_n 1, 1) := by decide +kernel
theorem dX5_ends_19 : decode cX5_ends 19 = .ok (.iconst 1, 1) := by decide +kernel
theorem dX5_ends_20 : decode cX5_ends 20 = .ok (.invokevirtual 163, 3) := by decide +kernel
theorem dX5_ends_23 : decode cX5_ends 23 = .ok (.istore 4, 2) := by decide +kernel
theorem dX5_ends_25 : decode cX5_ends 25 = .ok (.iload 4, 2) := by decide +kernel
theorem dX5_ends_27 : decode cX5_ends 27 = .ok (.ifCond .eq 10, 3) := by decide +kernel
theorem dX5_ends_30 : decode cX5_ends 30 = .ok (.aload_n 0, 1) := by decide +kernel
theorem dX5_ends_31 : decode cX5_ends 31 = .ok (.iload 4, 2) := by decide +kernel
theorem dX5_ends_33 : decode cX5_ends 33 = .ok (.invokevirtual 83, 3) := by decide +kernel
theorem dX5_ends_36 : decode cX5_ends 36 = .ok (.ireturn, 1) := by decide +kernel
theorem dX5_ends_37 : decode cX5_ends 37 = .ok (.ldc_w 267, 3) := by decide +kernel
theorem dX5_ends_40 : decode cX5_ends 40 = .ok (.istore 5, 2) := by decide +kernel
theorem dX5_ends_42 : decode cX5_ends 42 = .ok (.iconst 0, 1) := by decide +kernel
theorem dX5_ends_43 : decode cX5_ends 43 = .ok (.istore 6, 2) := by decide +kernel
theorem dX5_ends_45 : decode cX5_ends 45 = .ok (.iconst 0, 1) := by decide +kernel
theorem dX5_ends_46 : decode cX5_ends 46 = .ok (.istore 7, 2) := by decide +kernel
theorem dX5_ends_48 : decode cX5_ends 48 = .ok (.iload 7, 2) := by decide +kernel
theorem dX5_ends_50 : decode cX5_ends 50 = .ok (.bipush 32, 2) := by decide +kernel
theorem dX5_ends_52 : decode cX5_ends 52 = .ok (.if_icmp .ge 45, 3) := by decide +kernel
theorem dX5_ends_55 : decode cX5_ends 55 = .ok (.aload_n 0, 1) := by decide +kernel
theorem dX5_ends_56 : decode cX5_ends 56 = .ok (.iload 7, 2) := by decide +kernel
theorem dX5_ends_58 : decode cX5_ends 58 = .ok (.iload_n 2, 1) := by decide +kernel
theorem dX5_ends_59 : decode cX5_ends 59 = .ok (.iload_n 3, 1) := by decide +kernel
theorem dX5_ends_60 : decode cX5_ends 60 = .ok (.invokevirtual 268, 3) := by decide +kernel
theorem dX5_ends_63 : decode cX5_ends 63 = .ok (.aload_n 0, 1) := by decide +kernel
theorem dX5_ends_64 : decode cX5_ends 64 = .ok (.getfield 50, 3) := by decide +kernel
theorem dX5_ends_67 : decode cX5_ends 67 = .ok (.iload_n 1, 1) := by decide +kernel
theorem dX5_ends_68 : decode cX5_ends 68 = .ok (.invokevirtual 219, 3) := by decide +kernel
theorem dX5_ends_71 : decode cX5_ends 71 = .ok (.istore 8, 2) := by decide +kernel
theorem dX5_ends_73 : decode cX5_ends 73 = .ok (.iload 5, 2) := by decide +kernel
theorem dX5_ends_75 : decode cX5_ends 75 = .ok (.iload 8, 2) := by decide +kernel
theorem dX5_ends_77 : decode cX5_ends 77 = .ok (.invokestatic 241, 3) := by decide +kernel
theorem dX5_ends_80 : decode cX5_ends 80 = .ok (.istore 5, 2) := by decide +kernel
theorem dX5_ends_82 : decode cX5_ends 82 = .ok (.iload 6, 2) := by decide +kernel
theorem dX5_ends_84 : decode cX5_ends 84 = .ok (.iload 8, 2) := by decide +kernel
theorem dX5_ends_86 : decode cX5_ends 86 = .ok (.invokestatic 272, 3) := by decide +kernel
theorem dX5_ends_89 : decode cX5_ends 89 = .ok (.istore 6, 2) := by decide +kernel
theorem dX5_ends_91 : decode cX5_ends 91 = .ok (.iinc 7 1, 3) := by decide +kernel
theorem dX5_ends_94 : decode cX5_ends 94 = .ok (.goto (-46), 3) := by decide +kernel
theorem dX5_ends_97 : decode cX5_ends 97 = .ok (.aload_n 0, 1) := by decide +kernel
theorem dX5_ends_98 : decode cX5_ends 98 = .ok (.iload 6, 2) := by decide +kernel
theorem dX5_ends_100 : decode cX5_ends 100 = .ok (.putfield 64, 3) := by decide +kernel
theorem dX5_ends_103 : decode cX5_ends 103 = .ok (.iload 5, 2) := by decide +kernel
theorem dX5_ends_105 : decode cX5_ends 105 = .ok (.ireturn, 1) := by decide +kernel
theorem dX5_sure_0 : decode cX5_sure 0 = .ok (.iload_n 1, 1) := by decide +kernel
theorem dX5_sure_1 : decode cX5_sure 1 = .ok (.iload_n 2, 1) := by decide +kernel
theorem dX5_sure_2 : decode cX5_sure 2 = .ok (.invokestatic 264, 3) := by decide +kernel
theorem dX5_sure_5 : decode cX5_sure 5 = .ok (.ifCond .ne 5, 3) := by decide +kernel
theorem dX5_sure_8 : decode cX5_sure 8 = .ok (.iconst (-1), 1) := by decide +kernel
theorem dX5_sure_9 : decode cX5_sure 9 = .ok (.ireturn, 1) := by decide +kernel
theorem dX5_sure_10 : decode cX5_sure 10 = .ok (.iconst 0, 1) := by decide +kernel
theorem dX5_sure_11 : decode cX5_sure 11 = .ok (.istore_n 3, 1) := by decide +kernel
theorem dX5_sure_12 : decode cX5_sure 12 = .ok (.iconst 0, 1) := by decide +kernel
theorem dX5_sure_13 : decode cX5_sure 13 = .ok (.istore 4, 2) := by decide +kernel
theorem dX5_sure_15 : decode cX5_sure 15 = .ok (.iconst 0, 1) := by decide +kernel
theorem dX5_sure_16 : decode cX5_sure 16 = .ok (.istore 5, 2) := by decide +kernel
theorem dX5_sure_18 : decode cX5_sure 18 = .ok (.iload 5, 2) := by decide +kernel
theorem dX5_sure_20 : decode cX5_sure 20 = .ok (.bipush 32, 2) := by decide +kernel
theorem dX5_sure_22 : decode cX5_sure 22 = .ok (.if_icmp .ge 35, 3) := by decide +kernel
theorem dX5_sure_25 : decode cX5_sure 25 = .ok (.aload_n 0, 1) := by decide +kernel
theorem dX5_sure_26 : decode cX5_sure 26 = .ok (.iload 5, 2) := by decide +kernel
theorem dX5_sure_28 : decode cX5_sure 28 = .ok (.iload_n 1, 1) := by decide +kernel
theorem dX5_sure_29 : decode cX5_sure 29 = .ok (.iload_n 2, 1) := by decide +kernel
theorem dX5_sure_30 : decode cX5_sure 30 = .ok (.invokevirtual 268, 3) := by decide +kernel
theorem dX5_sure_33 : decode cX5_sure 33 = .ok (.aload_n 0, 1) := by decide +kernel
theorem dX5_sure_34 : decode cX5_sure 34 = .ok (.getfield 50, 3) := by decide +kernel
theorem dX5_sure_37 : decode cX5_sure 37 = .ok (.invokevirtual 209, 3) := by decide +kernel
theorem dX5_sure_40 : decode cX5_sure 40 = .ok (.ifCond .ne 9, 3) := by decide +kernel
theorem dX5_sure_43 : decode cX5_sure 43 = .ok (.iconst 1, 1) := by decide +kernel
theorem dX5_sure_44 : decode cX5_sure 44 = .ok (.istore 4, 2) := by decide +kernel
theorem dX5_sure_46 : decode cX5_sure 46 = .ok (.goto 5, 3) := by decide +kernel
theorem dX5_sure_49 : decode cX5_sure 49 = .ok (.iconst 1, 1) := by decide +kernel
theorem dX5_sure_50 : decode cX5_sure 50 = .ok (.istore_n 3, 1) := by decide +kernel
theorem dX5_sure_51 : decode cX5_sure 51 = .ok (.iinc 5 1, 3) := by decide +kernel
theorem dX5_sure_54 : decode cX5_sure 54 = .ok (.goto (-36), 3) := by decide +kernel
theorem dX5_sure_57 : decode cX5_sure 57 = .ok (.iload_n 3, 1) := by decide +kernel
theorem dX5_sure_58 : decode cX5_sure 58 = .ok (.ifCond .ne 5, 3) := by decide +kernel
theorem dX5_sure_61 : decode cX5_sure 61 = .ok (.iconst 2, 1) := by decide +kernel
theorem dX5_sure_62 : decode cX5_sure 62 = .ok (.ireturn, 1) := by decide +kernel
theorem dX5_sure_63 : decode cX5_sure 63 = .ok (.iload 4, 2) := by decide +kernel
theorem dX5_sure_65 : decode cX5_sure 65 = .ok (.ifCond .eq 7, 3) := by decide +kernel
theorem dX5_sure_68 : decode cX5_sure 68 = .ok (.iconst 1, 1) := by decide +kernel
theorem dX5_sure_69 : decode cX5_sure 69 = .ok (.goto 4, 3) := by decide +kernel
theorem dX5_sure_72 : decode cX5_sure 72 = .ok (.iconst 0, 1) := by decide +kernel
theorem dX5_sure_73 : decode cX5_sure 73 = .ok (.ireturn, 1) := by decide +kernel
theorem dX5_follows_0 : decode cX5_follows 0 = .ok (.iload_n 1, 1) := by decide +kernel
theorem dX5_follows_1 : decode cX5_follows 1 = .ok (.invokestatic 153, 3) := by decide +kernel
theorem dX5_follows_4 : decode cX5_follows 4 = .ok (.ifCond .eq 24, 3) := by decide +kernel
theorem dX5_follows_7 : decode cX5_follows 7 = .ok (.iload_n 2, 1) := by decide +kernel
theorem dX5_follows_8 : decode cX5_follows 8 = .ok (.iconst 1, 1) := by decide +kernel
theorem dX5_follows_9 : decode cX5_follows 9 = .ok (.sipush 9999, 3) := by decide +kernel
theorem dX5_follows_12 : decode cX5_follows 12 = .ok (.invokestatic 135, 3) := by decide +kernel
theorem dX5_follows_15 : decode cX5_follows 15 = .ok (.ifCond .eq 13, 3) := by decide +kernel
theorem dX5_follows_18 : decode cX5_follows 18 = .ok (.iload_n 3, 1) := by decide +kernel
theorem dX5_follows_19 : decode cX5_follows 19 = .ok (.iconst 1, 1) := by decide +kernel
theorem dX5_follows_20 : decode cX5_follows 20 = .ok (.bipush 20, 2) := by decide +kernel
theorem dX5_follows_22 : decode cX5_follows 22 = .ok (.invokestatic 135, 3) := by decide +kernel
theorem dX5_follows_25 : decode cX5_follows 25 = .ok (.ifCond .ne 5, 3) := by decide +kernel
theorem dX5_follows_28 : decode cX5_follows 28 = .ok (.iconst (-1), 1) := by decide +kernel
theorem dX5_follows_29 : decode cX5_follows 29 = .ok (.ireturn, 1) := by decide +kernel
theorem dX5_follows_30 : decode cX5_follows 30 = .ok (.aload_n 0, 1) := by decide +kernel
theorem dX5_follows_31 : decode cX5_follows 31 = .ok (.iload_n 1, 1) := by decide +kernel
theorem dX5_follows_32 : decode cX5_follows 32 = .ok (.iconst 3, 1) := by decide +kernel
theorem dX5_follows_33 : decode cX5_follows 33 = .ok (.invokevirtual 163, 3) := by decide +kernel
theorem dX5_follows_36 : decode cX5_follows 36 = .ok (.istore 4, 2) := by decide +kernel
theorem dX5_follows_38 : decode cX5_follows 38 = .ok (.iload 4, 2) := by decide +kernel
theorem dX5_follows_40 : decode cX5_follows 40 = .ok (.ifCond .eq 10, 3) := by decide +kernel
theorem dX5_follows_43 : decode cX5_follows 43 = .ok (.aload_n 0, 1) := by decide +kernel
theorem dX5_follows_44 : decode cX5_follows 44 = .ok (.iload 4, 2) := by decide +kernel
theorem dX5_follows_46 : decode cX5_follows 46 = .ok (.invokevirtual 83, 3) := by decide +kernel
theorem dX5_follows_49 : decode cX5_follows 49 = .ok (.ireturn, 1) := by decide +kernel
theorem dX5_follows_50 : decode cX5_follows 50 = .ok (.aload_n 0, 1) := by decide +kernel
theorem dX5_follows_51 : decode cX5_follows 51 = .ok (.getfield 26, 3) := by decide +kernel
theorem dX5_follows_54 : decode cX5_follows 54 = .ok (.iload_n 1, 1) := by decide +kernel
theorem dX5_follows_55 : decode cX5_follows 55 = .ok (.aaload, 1) := by decide +kernel
theorem dX5_follows_56 : decode cX5_follows 56 = .ok (.astore 5, 2) := by decide +kernel
theorem dX5_follows_58 : decode cX5_follows 58 = .ok (.aload 5, 2) := by decide +kernel
theorem dX5_follows_60 : decode cX5_follows 60 = .ok (.dup, 1) := by decide +kernel
theorem dX5_follows_61 : decode cX5_follows 61 = .ok (.getfield 261, 3) := by decide +kernel
theorem dX5_follows_64 : decode cX5_follows 64 = .ok (.iconst 1, 1) := by decide +kernel
theorem dX5_follows_65 : decode cX5_follows 65 = .ok (.iadd, 1) := by decide +kernel
theorem dX5_follows_66 : decode cX5_follows 66 = .ok (.putfield 261, 3) := by decide +kernel
theorem dX5_follows_69 : decode cX5_follows 69 = .ok (.ldc2_w 275, 3) := by decide +kernel
theorem dX5_follows_72 : decode cX5_follows 72 = .ok (.aload_n 0, 1) := by decide +kernel
theorem dX5_follows_73 : decode cX5_follows 73 = .ok (.aload 5, 2) := by decide +kernel
theorem dX5_follows_75 : decode cX5_follows 75 = .ok (.invokevirtual 228, 3) := by decide +kernel
theorem dX5_follows_78 : decode cX5_follows 78 = .ok (.iload_n 3, 1) := by decide +kernel
theorem dX5_follows_79 : decode cX5_follows 79 = .ok (.invokevirtual 143, 3) := by decide +kernel
theorem dX5_follows_82 : decode cX5_follows 82 = .ok (.lmul, 1) := by decide +kernel
theorem dX5_follows_83 : decode cX5_follows 83 = .ok (.ldc2_w 147, 3) := by decide +kernel
theorem dX5_follows_86 : decode cX5_follows 86 = .ok (.ldiv, 1) := by decide +kernel
theorem dX5_follows_87 : decode cX5_follows 87 = .ok (.lstore 6, 2) := by decide +kernel
theorem dX5_follows_89 : decode cX5_follows 89 = .ok (.iload_n 2, 1) := by decide +kernel
theorem dX5_follows_90 : decode cX5_follows 90 = .ok (.i2l, 1) := by decide +kernel
theorem dX5_follows_91 : decode cX5_follows 91 = .ok (.iload_n 3, 1) := by decide +kernel
theorem dX5_follows_92 : decode cX5_follows 92 = .ok (.i2l, 1) := by decide +kernel
theorem dX5_follows_93 : decode cX5_follows 93 = .ok (.lmul, 1) := by decide +kernel
theorem dX5_follows_94 : decode cX5_follows 94 = .ok (.lstore 8, 2) := by decide +kernel
theorem dX5_follows_96 : decode cX5_follows 96 = .ok (.ldc2_w 277, 3) := by decide +kernel
theorem dX5_follows_99 : decode cX5_follows 99 = .ok (.lload 8, 2) := by decide +kernel
theorem dX5_follows_101 : decode cX5_follows 101 = .ok (.lmul, 1) := by decide +kernel
theorem dX5_follows_102 : decode cX5_follows 102 = .ok (.lload 6, 2) := by decide +kernel
theorem dX5_follows_104 : decode cX5_follows 104 = .ok (.lcmp, 1) := by decide +kernel
theorem dX5_follows_105 : decode cX5_follows 105 = .ok (.ifCond .gt 5, 3) := by decide +kernel
theorem dX5_follows_108 : decode cX5_follows 108 = .ok (.iconst 2, 1) := by decide +kernel
theorem dX5_follows_109 : decode cX5_follows 109 = .ok (.ireturn, 1) := by decide +kernel
theorem dX5_follows_110 : decode cX5_follows 110 = .ok (.lload 8, 2) := by decide +kernel
theorem dX5_follows_112 : decode cX5_follows 112 = .ok (.lload 6, 2) := by decide +kernel
theorem dX5_follows_114 : decode cX5_follows 114 = .ok (.lcmp, 1) := by decide +kernel
theorem dX5_follows_115 : decode cX5_follows 115 = .ok (.ifCond .le 7, 3) := by decide +kernel
theorem dX5_follows_118 : decode cX5_follows 118 = .ok (.iconst 0, 1) := by decide +kernel
theorem dX5_follows_119 : decode cX5_follows 119 = .ok (.goto 4, 3) := by decide +kernel
theorem dX5_follows_122 : decode cX5_follows 122 = .ok (.iconst 1, 1) := by decide +kernel
theorem dX5_follows_123 : decode cX5_follows 123 = .ok (.ireturn, 1) := by decide +kernel
theorem dX5_strip_0 : decode cX5_strip 0 = .ok (.iload_n 1, 1) := by decide +kernel
theorem dX5_strip_1 : decode cX5_strip 1 = .ok (.invokestatic 79, 3) := by decide +kernel
theorem dX5_strip_4 : decode cX5_strip 4 = .ok (.ifCond .eq 13, 3) := by decide +kernel
theorem dX5_strip_7 : decode cX5_strip 7 = .ok (.iload_n 2, 1) := by decide +kernel
theorem dX5_strip_8 : decode cX5_strip 8 = .ok (.iconst 0, 1) := by decide +kernel
theorem dX5_strip_9 : decode cX5_strip 9 = .ok (.bipush 99, 2) := by decide +kernel
theorem dX5_strip_11 : decode cX5_strip 11 = .ok (.invokestatic 135, 3) := by decide +kernel
theorem dX5_strip_14 : decode cX5_strip 14 = .ok (.ifCond .ne 5, 3) := by decide +kernel
theorem dX5_strip_17 : decode cX5_strip 17 = .ok (.iconst (-1), 1) := by decide +kernel
theorem dX5_strip_18 : decode cX5_strip 18 = .ok (.ireturn, 1) := by decide +kernel
theorem dX5_strip_19 : decode cX5_strip 19 = .ok (.aload_n 0, 1) := by decide +kernel
theorem dX5_strip_20 : decode cX5_strip 20 = .ok (.getfield 11, 3) := by decide +kernel
theorem dX5_strip_23 : decode cX5_strip 23 = .ok (.iload_n 1, 1) := by decide +kernel
theorem dX5_strip_24 : decode cX5_strip 24 = .ok (.aaload, 1) := by decide +kernel
theorem dX5_strip_25 : decode cX5_strip 25 = .ok (.astore_n 3, 1) := by decide +kernel
theorem dX5_strip_26 : decode cX5_strip 26 = .ok (.aload_n 3, 1) := by decide +kernel
theorem dX5_strip_27 : decode cX5_strip 27 = .ok (.invokevirtual 91, 3) := by decide +kernel
theorem dX5_strip_30 : decode cX5_strip 30 = .ok (.ifCond .eq 9, 3) := by decide +kernel
theorem dX5_strip_33 : decode cX5_strip 33 = .ok (.aload_n 0, 1) := by decide +kernel
theorem dX5_strip_34 : decode cX5_strip 34 = .ok (.iconst 1, 1) := by decide +kernel
theorem dX5_strip_35 : decode cX5_strip 35 = .ok (.invokevirtual 83, 3) := by decide +kernel
theorem dX5_strip_38 : decode cX5_strip 38 = .ok (.ireturn, 1) := by decide +kernel
theorem dX5_strip_39 : decode cX5_strip 39 = .ok (.aload_n 3, 1) := by decide +kernel
theorem dX5_strip_40 : decode cX5_strip 40 = .ok (.getfield 101, 3) := by decide +kernel
theorem dX5_strip_43 : decode cX5_strip 43 = .ok (.ifCond .eq 12, 3) := by decide +kernel
theorem dX5_strip_46 : decode cX5_strip 46 = .ok (.aload_n 3, 1) := by decide +kernel
theorem dX5_strip_47 : decode cX5_strip 47 = .ok (.getfield 101, 3) := by decide +kernel
theorem dX5_strip_50 : decode cX5_strip 50 = .ok (.iconst 2, 1) := by decide +kernel
theorem dX5_strip_51 : decode cX5_strip 51 = .ok (.irem, 1) := by decide +kernel
theorem dX5_strip_52 : decode cX5_strip 52 = .ok (.ifCond .eq 9, 3) := by decide +kernel
theorem dX5_strip_55 : decode cX5_strip 55 = .ok (.aload_n 0, 1) := by decide +kernel
theorem dX5_strip_56 : decode cX5_strip 56 = .ok (.iconst 5, 1) := by decide +kernel
theorem dX5_strip_57 : decode cX5_strip 57 = .ok (.invokevirtual 83, 3) := by decide +kernel
theorem dX5_strip_60 : decode cX5_strip 60 = .ok (.ireturn, 1) := by decide +kernel
theorem dX5_strip_61 : decode cX5_strip 61 = .ok (.iconst 0, 1) := by decide +kernel
theorem dX5_strip_62 : decode cX5_strip 62 = .ok (.istore 4, 2) := by decide +kernel
theorem dX5_strip_64 : decode cX5_strip 64 = .ok (.iload 4, 2) := by decide +kernel
theorem dX5_strip_66 : decode cX5_strip 66 = .ok (.iconst 1, 1) := by decide +kernel
theorem dX5_strip_67 : decode cX5_strip 67 = .ok (.iadd, 1) := by decide +kernel
theorem dX5_strip_68 : decode cX5_strip 68 = .ok (.aload_n 3, 1) := by decide +kernel
theorem dX5_strip_69 : decode cX5_strip 69 = .ok (.getfield 101, 3) := by decide +kernel
theorem dX5_strip_72 : decode cX5_strip 72 = .ok (.if_icmp .ge 50, 3) := by decide +kernel
theorem dX5_strip_75 : decode cX5_strip 75 = .ok (.aload_n 3, 1) := by decide +kernel
theorem dX5_strip_76 : decode cX5_strip 76 = .ok (.getfield 98, 3) := by decide +kernel
theorem dX5_strip_79 : decode cX5_strip 79 = .ok (.iload 4, 2) := by decide +kernel
theorem dX5_strip_81 : decode cX5_strip 81 = .ok (.iaload, 1) := by decide +kernel
theorem dX5_strip_82 : decode cX5_strip 82 = .ok (.iconst 0, 1) := by decide +kernel
theorem dX5_strip_83 : decode cX5_strip 83 = .ok (.bipush 20, 2) := by decide +kernel
theorem dX5_strip_85 : decode cX5_strip 85 = .ok (.invokestatic 135, 3) := by decide +kernel
theorem dX5_strip_88 : decode cX5_strip 88 = .ok (.ifCond .eq 22, 3) := by decide +kernel
theorem dX5_strip_91 : decode cX5_strip 91 = .ok (.aload_n 3, 1) := by decide +kernel
theorem dX5_strip_92 : decode cX5_strip 92 = .ok (.getfield 98, 3) := by decide +kernel
theorem dX5_strip_95 : decode cX5_strip 95 = .ok (.iload 4, 2) := by decide +kernel
theorem dX5_strip_97 : decode cX5_strip 97 = .ok (.iconst 1, 1) := by decide +kernel
theorem dX5_strip_98 : decode cX5_strip 98 = .ok (.iadd, 1) := by decide +kernel
theorem dX5_strip_99 : decode cX5_strip 99 = .ok (.iaload, 1) := by decide +kernel
theorem dX5_strip_100 : decode cX5_strip 100 = .ok (.iconst 0, 1) := by decide +kernel
theorem dX5_strip_101 : decode cX5_strip 101 = .ok (.sipush 9999, 3) := by decide +kernel
theorem dX5_strip_104 : decode cX5_strip 104 = .ok (.invokestatic 135, 3) := by decide +kernel
theorem dX5_strip_107 : decode cX5_strip 107 = .ok (.ifCond .ne 9, 3) := by decide +kernel
theorem dX5_strip_110 : decode cX5_strip 110 = .ok (.aload_n 0, 1) := by decide +kernel
theorem dX5_strip_111 : decode cX5_strip 111 = .ok (.iconst 3, 1) := by decide +kernel
theorem dX5_strip_112 : decode cX5_strip 112 = .ok (.invokevirtual 83, 3) := by decide +kernel
theorem dX5_strip_115 : decode cX5_strip 115 = .ok (.ireturn, 1) := by decide +kernel
theorem dX5_strip_116 : decode cX5_strip 116 = .ok (.iinc 4 2, 3) := by decide +kernel
theorem dX5_strip_119 : decode cX5_strip 119 = .ok (.goto (-55), 3) := by decide +kernel
theorem dX5_strip_122 : decode cX5_strip 122 = .ok (.iconst 0, 1) := by decide +kernel
theorem dX5_strip_123 : decode cX5_strip 123 = .ok (.istore 4, 2) := by decide +kernel
theorem dX5_strip_125 : decode cX5_strip 125 = .ok (.iconst 0, 1) := by decide +kernel
theorem dX5_strip_126 : decode cX5_strip 126 = .ok (.istore 5, 2) := by decide +kernel
theorem dX5_strip_128 : decode cX5_strip 128 = .ok (.iload 5, 2) := by decide +kernel
theorem dX5_strip_130 : decode cX5_strip 130 = .ok (.bipush 6, 2) := by decide +kernel
theorem dX5_strip_132 : decode cX5_strip 132 = .ok (.if_icmp .ge 46, 3) := by decide +kernel
theorem dX5_strip_135 : decode cX5_strip 135 = .ok (.aload_n 0, 1) := by decide +kernel
theorem dX5_strip_136 : decode cX5_strip 136 = .ok (.getfield 20, 3) := by decide +kernel
theorem dX5_strip_139 : decode cX5_strip 139 = .ok (.iload 5, 2) := by decide +kernel
theorem dX5_strip_141 : decode cX5_strip 141 = .ok (.aaload, 1) := by decide +kernel
theorem dX5_strip_142 : decode cX5_strip 142 = .ok (.invokevirtual 139, 3) := by decide +kernel
theorem dX5_strip_145 : decode cX5_strip 145 = .ok (.ifCond .ne 27, 3) := by decide +kernel
theorem dX5_strip_148 : decode cX5_strip 148 = .ok (.aload_n 0, 1) := by decide +kernel
theorem dX5_strip_149 : decode cX5_strip 149 = .ok (.getfield 20, 3) := by decide +kernel
theorem dX5_strip_152 : decode cX5_strip 152 = .ok (.iload 5, 2) := by decide +kernel
theorem dX5_strip_154 : decode cX5_strip 154 = .ok (.aaload, 1) := by decide +kernel
theorem dX5_strip_155 : decode cX5_strip 155 = .ok (.aload_n 3, 1) := by decide +kernel
theorem dX5_strip_156 : decode cX5_strip 156 = .ok (.iload_n 2, 1) := by decide +kernel
theorem dX5_strip_157 : decode cX5_strip 157 = .ok (.invokevirtual 279, 3) := by decide +kernel
theorem dX5_strip_160 : decode cX5_strip 160 = .ok (.ifCond .eq 12, 3) := by decide +kernel
theorem dX5_strip_163 : decode cX5_strip 163 = .ok (.iload 4, 2) := by decide +kernel
theorem dX5_strip_165 : decode cX5_strip 165 = .ok (.iconst 1, 1) := by decide +kernel
theorem dX5_strip_166 : decode cX5_strip 166 = .ok (.iload 5, 2) := by decide +kernel
theorem dX5_strip_168 : decode cX5_strip 168 = .ok (.ishl, 1) := by decide +kernel
theorem dX5_strip_169 : decode cX5_strip 169 = .ok (.ior, 1) := by decide +kernel
theorem dX5_strip_170 : decode cX5_strip 170 = .ok (.istore 4, 2) := by decide +kernel
theorem dX5_strip_172 : decode cX5_strip 172 = .ok (.iinc 5 1, 3) := by decide +kernel
theorem dX5_strip_175 : decode cX5_strip 175 = .ok (.goto (-47), 3) := by decide +kernel
theorem dX5_strip_178 : decode cX5_strip 178 = .ok (.iload 4, 2) := by decide +kernel
theorem dX5_strip_180 : decode cX5_strip 180 = .ok (.ireturn, 1) := by decide +kernel
theorem dX5_parting_0 : decode cX5_parting 0 = .ok (.iload_n 1, 1) := by decide +kernel
theorem dX5_parting_1 : decode cX5_parting 1 = .ok (.invokestatic 283, 3) := by decide +kernel
theorem dX5_parting_4 : decode cX5_parting 4 = .ok (.ifCond .eq 11, 3) := by decide +kernel
theorem dX5_parting_7 : decode cX5_parting 7 = .ok (.iload_n 1, 1) := by decide +kernel
theorem dX5_parting_8 : decode cX5_parting 8 = .ok (.invokestatic 286, 3) := by decide +kernel
theorem dX5_parting_11 : decode cX5_parting 11 = .ok (.iconst 2, 1) := by decide +kernel
theorem dX5_parting_12 : decode cX5_parting 12 = .ok (.if_icmp .ge 5, 3) := by decide +kernel
theorem dX5_parting_15 : decode cX5_parting 15 = .ok (.iconst (-1), 1) := by decide +kernel
theorem dX5_parting_16 : decode cX5_parting 16 = .ok (.ireturn, 1) := by decide +kernel
theorem dX5_parting_17 : decode cX5_parting 17 = .ok (.aload_n 0, 1) := by decide +kernel
theorem dX5_parting_18 : decode cX5_parting 18 = .ok (.iload_n 1, 1) := by decide +kernel
theorem dX5_parting_19 : decode cX5_parting 19 = .ok (.invokevirtual 291, 3) := by decide +kernel
theorem dX5_parting_22 : decode cX5_parting 22 = .ok (.ifCond .eq 9, 3) := by decide +kernel
theorem dX5_parting_25 : decode cX5_parting 25 = .ok (.aload_n 0, 1) := by decide +kernel
theorem dX5_parting_26 : decode cX5_parting 26 = .ok (.iconst 1, 1) := by decide +kernel
theorem dX5_parting_27 : decode cX5_parting 27 = .ok (.invokevirtual 83, 3) := by decide +kernel
theorem dX5_parting_30 : decode cX5_parting 30 = .ok (.ireturn, 1) := by decide +kernel
theorem dX5_parting_31 : decode cX5_parting 31 = .ok (.iconst 1, 1) := by decide +kernel
theorem dX5_parting_32 : decode cX5_parting 32 = .ok (.istore_n 2, 1) := by decide +kernel
theorem dX5_parting_33 : decode cX5_parting 33 = .ok (.ldc2_w 294, 3) := by decide +kernel
theorem dX5_parting_36 : decode cX5_parting 36 = .ok (.lstore_n 3, 1) := by decide +kernel
theorem dX5_parting_37 : decode cX5_parting 37 = .ok (.iconst 1, 1) := by decide +kernel
theorem dX5_parting_38 : decode cX5_parting 38 = .ok (.istore 5, 2) := by decide +kernel
theorem dX5_parting_40 : decode cX5_parting 40 = .ok (.iload 5, 2) := by decide +kernel
theorem dX5_parting_42 : decode cX5_parting 42 = .ok (.bipush 20, 2) := by decide +kernel
theorem dX5_parting_44 : decode cX5_parting 44 = .ok (.if_icmp .gt 31, 3) := by decide +kernel
theorem dX5_parting_47 : decode cX5_parting 47 = .ok (.aload_n 0, 1) := by decide +kernel
theorem dX5_parting_48 : decode cX5_parting 48 = .ok (.iload_n 1, 1) := by decide +kernel
theorem dX5_parting_49 : decode cX5_parting 49 = .ok (.iload 5, 2) := by decide +kernel
theorem dX5_parting_51 : decode cX5_parting 51 = .ok (.invokevirtual 296, 3) := by decide +kernel
theorem dX5_parting_54 : decode cX5_parting 54 = .ok (.lstore 6, 2) := by decide +kernel
theorem dX5_parting_56 : decode cX5_parting 56 = .ok (.lload 6, 2) := by decide +kernel
theorem dX5_parting_58 : decode cX5_parting 58 = .ok (.lload_n 3, 1) := by decide +kernel
theorem dX5_parting_59 : decode cX5_parting 59 = .ok (.lcmp, 1) := by decide +kernel
theorem dX5_parting_60 : decode cX5_parting 60 = .ok (.ifCond .le 9, 3) := by decide +kernel
theorem dX5_parting_63 : decode cX5_parting 63 = .ok (.lload 6, 2) := by decide +kernel
theorem dX5_parting_65 : decode cX5_parting 65 = .ok (.lstore_n 3, 1) := by decide +kernel
theorem dX5_parting_66 : decode cX5_parting 66 = .ok (.iload 5, 2) := by decide +kernel
theorem dX5_parting_68 : decode cX5_parting 68 = .ok (.istore_n 2, 1) := by decide +kernel
theorem dX5_parting_69 : decode cX5_parting 69 = .ok (.iinc 5 1, 3) := by decide +kernel
theorem dX5_parting_72 : decode cX5_parting 72 = .ok (.goto (-32), 3) := by decide +kernel
theorem dX5_parting_75 : decode cX5_parting 75 = .ok (.aload_n 0, 1) := by decide +kernel
theorem dX5_parting_76 : decode cX5_parting 76 = .ok (.lload_n 3, 1) := by decide +kernel
theorem dX5_parting_77 : decode cX5_parting 77 = .ok (.ldc2_w 147, 3) := by decide +kernel
theorem dX5_parting_80 : decode cX5_parting 80 = .ok (.ldiv, 1) := by decide +kernel
theorem dX5_parting_81 : decode cX5_parting 81 = .ok (.l2i, 1) := by decide +kernel
theorem dX5_parting_82 : decode cX5_parting 82 = .ok (.putfield 64, 3) := by decide +kernel
theorem dX5_parting_85 : decode cX5_parting 85 = .ok (.iload_n 2, 1) := by decide +kernel
theorem dX5_parting_86 : decode cX5_parting 86 = .ok (.ireturn, 1) := by decide +kernel
theorem dX5_batch_0 : decode cX5_batch 0 = .ok (.iload_n 1, 1) := by decide +kernel
theorem dX5_batch_1 : decode cX5_batch 1 = .ok (.iconst 1, 1) := by decide +kernel
theorem dX5_batch_2 : decode cX5_batch 2 = .ok (.bipush 40, 2) := by decide +kernel
theorem dX5_batch_4 : decode cX5_batch 4 = .ok (.invokestatic 135, 3) := by decide +kernel
theorem dX5_batch_7 : decode cX5_batch 7 = .ok (.ifCond .eq 12, 3) := by decide +kernel
theorem dX5_batch_10 : decode cX5_batch 10 = .ok (.iload_n 2, 1) := by decide +kernel
theorem dX5_batch_11 : decode cX5_batch 11 = .ok (.iconst 0, 1) := by decide +kernel
theorem dX5_batch_12 : decode cX5_batch 12 = .ok (.iload_n 1, 1) := by decide +kernel
theorem dX5_batch_13 : decode cX5_batch 13 = .ok (.invokestatic 135, 3) := by decide +kernel
theorem dX5_batch_16 : decode cX5_batch 16 = .ok (.ifCond .ne 5, 3) := by decide +kernel
theorem dX5_batch_19 : decode cX5_batch 19 = .ok (.iconst (-1), 1) := by decide +kernel
theorem dX5_batch_20 : decode cX5_batch 20 = .ok (.ireturn, 1) := by decide +kernel
theorem dX5_batch_21 : decode cX5_batch 21 = .ok (.iload_n 3, 1) := by decide +kernel
theorem dX5_batch_22 : decode cX5_batch 22 = .ok (.iconst 1, 1) := by decide +kernel
theorem dX5_batch_23 : decode cX5_batch 23 = .ok (.bipush 10, 2) := by decide +kernel
theorem dX5_batch_25 : decode cX5_batch 25 = .ok (.iload_n 1, 1) := by decide +kernel
theorem dX5_batch_26 : decode cX5_batch 26 = .ok (.invokestatic 241, 3) := by decide +kernel
theorem dX5_batch_29 : decode cX5_batch 29 = .ok (.invokestatic 135, 3) := by decide +kernel
theorem dX5_batch_32 : decode cX5_batch 32 = .ok (.ifCond .eq 13, 3) := by decide +kernel
theorem dX5_batch_35 : decode cX5_batch 35 = .ok (.iload 4, 2) := by decide +kernel
theorem dX5_batch_37 : decode cX5_batch 37 = .ok (.iconst 0, 1) := by decide +kernel
theorem dX5_batch_38 : decode cX5_batch 38 = .ok (.iload_n 3, 1) := by decide +kernel
theorem dX5_batch_39 : decode cX5_batch 39 = .ok (.invokestatic 135, 3) := by decide +kernel
theorem dX5_batch_42 : decode cX5_batch 42 = .ok (.ifCond .ne 5, 3) := by decide +kernel
theorem dX5_batch_45 : decode cX5_batch 45 = .ok (.iconst (-1), 1) := by decide +kernel
theorem dX5_batch_46 : decode cX5_batch 46 = .ok (.ireturn, 1) := by decide +kernel
theorem dX5_batch_47 : decode cX5_batch 47 = .ok (.lconst 0, 1) := by decide +kernel
theorem dX5_batch_48 : decode cX5_batch 48 = .ok (.lstore 5, 2) := by decide +kernel
theorem dX5_batch_50 : decode cX5_batch 50 = .ok (.iconst 0, 1) := by decide +kernel
theorem dX5_batch_51 : decode cX5_batch 51 = .ok (.istore 7, 2) := by decide +kernel
theorem dX5_batch_53 : decode cX5_batch 53 = .ok (.iload 7, 2) := by decide +kernel
theorem dX5_batch_55 : decode cX5_batch 55 = .ok (.iload 4, 2) := by decide +kernel
theorem dX5_batch_57 : decode cX5_batch 57 = .ok (.if_icmp .gt 31, 3) := by decide +kernel
theorem dX5_batch_60 : decode cX5_batch 60 = .ok (.lload 5, 2) := by decide +kernel
theorem dX5_batch_62 : decode cX5_batch 62 = .ok (.iload_n 2, 1) := by decide +kernel
theorem dX5_batch_63 : decode cX5_batch 63 = .ok (.iload 7, 2) := by decide +kernel
theorem dX5_batch_65 : decode cX5_batch 65 = .ok (.invokestatic 300, 3) := by decide +kernel
theorem dX5_batch_68 : decode cX5_batch 68 = .ok (.iload_n 1, 1) := by decide +kernel
theorem dX5_batch_69 : decode cX5_batch 69 = .ok (.iload_n 2, 1) := by decide +kernel
theorem dX5_batch_70 : decode cX5_batch 70 = .ok (.isub, 1) := by decide +kernel
theorem dX5_batch_71 : decode cX5_batch 71 = .ok (.iload_n 3, 1) := by decide +kernel
theorem dX5_batch_72 : decode cX5_batch 72 = .ok (.iload 7, 2) := by decide +kernel
theorem dX5_batch_74 : decode cX5_batch 74 = .ok (.isub, 1) := by decide +kernel
theorem dX5_batch_75 : decode cX5_batch 75 = .ok (.invokestatic 300, 3) := by decide +kernel
theorem dX5_batch_78 : decode cX5_batch 78 = .ok (.lmul, 1) := by decide +kernel
theorem dX5_batch_79 : decode cX5_batch 79 = .ok (.ladd, 1) := by decide +kernel
theorem dX5_batch_80 : decode cX5_batch 80 = .ok (.lstore 5, 2) := by decide +kernel
theorem dX5_batch_82 : decode cX5_batch 82 = .ok (.iinc 7 1, 3) := by decide +kernel
theorem dX5_batch_85 : decode cX5_batch 85 = .ok (.goto (-32), 3) := by decide +kernel
theorem dX5_batch_88 : decode cX5_batch 88 = .ok (.aload_n 0, 1) := by decide +kernel
theorem dX5_batch_89 : decode cX5_batch 89 = .ok (.lload 5, 2) := by decide +kernel
theorem dX5_batch_91 : decode cX5_batch 91 = .ok (.iload_n 1, 1) := by decide +kernel
theorem dX5_batch_92 : decode cX5_batch 92 = .ok (.iload_n 3, 1) := by decide +kernel
theorem dX5_batch_93 : decode cX5_batch 93 = .ok (.invokestatic 300, 3) := by decide +kernel
theorem dX5_batch_96 : decode cX5_batch 96 = .ok (.invokevirtual 149, 3) := by decide +kernel
theorem dX5_batch_99 : decode cX5_batch 99 = .ok (.iconst 1, 1) := by decide +kernel
theorem dX5_batch_100 : decode cX5_batch 100 = .ok (.ireturn, 1) := by decide +kernel
theorem dX5_led_0 : decode cX5_led 0 = .ok (.aload_n 0, 1) := by decide +kernel
theorem dX5_led_1 : decode cX5_led 1 = .ok (.invokevirtual 187, 3) := by decide +kernel
theorem dX5_led_4 : decode cX5_led 4 = .ok (.aload_n 0, 1) := by decide +kernel
theorem dX5_led_5 : decode cX5_led 5 = .ok (.getfield 50, 3) := by decide +kernel
theorem dX5_led_8 : decode cX5_led 8 = .ok (.invokevirtual 209, 3) := by decide +kernel
theorem dX5_led_11 : decode cX5_led 11 = .ok (.ifCond .ne 6, 3) := by decide +kernel
theorem dX5_led_14 : decode cX5_led 14 = .ok (.bipush (-4), 2) := by decide +kernel
theorem dX5_led_16 : decode cX5_led 16 = .ok (.ireturn, 1) := by decide +kernel
theorem dX5_led_17 : decode cX5_led 17 = .ok (.iconst 0, 1) := by decide +kernel
theorem dX5_led_18 : decode cX5_led 18 = .ok (.istore_n 1, 1) := by decide +kernel
theorem dX5_led_19 : decode cX5_led 19 = .ok (.iconst 0, 1) := by decide +kernel
theorem dX5_led_20 : decode cX5_led 20 = .ok (.istore_n 2, 1) := by decide +kernel
theorem dX5_led_21 : decode cX5_led 21 = .ok (.iload_n 2, 1) := by decide +kernel
theorem dX5_led_22 : decode cX5_led 22 = .ok (.iconst 3, 1) := by decide +kernel
theorem dX5_led_23 : decode cX5_led 23 = .ok (.if_icmp .gt 41, 3) := by decide +kernel
theorem dX5_led_26 : decode cX5_led 26 = .ok (.aload_n 0, 1) := by decide +kernel
theorem dX5_led_27 : decode cX5_led 27 = .ok (.invokevirtual 303, 3) := by decide +kernel
theorem dX5_led_30 : decode cX5_led 30 = .ok (.aload_n 0, 1) := by decide +kernel
theorem dX5_led_31 : decode cX5_led 31 = .ok (.iload_n 2, 1) := by decide +kernel
theorem dX5_led_32 : decode cX5_led 32 = .ok (.invokevirtual 306, 3) := by decide +kernel
theorem dX5_led_35 : decode cX5_led 35 = .ok (.aload_n 0, 1) := by decide +kernel
theorem dX5_led_36 : decode cX5_led 36 = .ok (.getfield 50, 3) := by decide +kernel
theorem dX5_led_39 : decode cX5_led 39 = .ok (.invokevirtual 309, 3) := by decide +kernel
theorem dX5_led_42 : decode cX5_led 42 = .ok (.aload_n 0, 1) := by decide +kernel
theorem dX5_led_43 : decode cX5_led 43 = .ok (.getfield 50, 3) := by decide +kernel
theorem dX5_led_46 : decode cX5_led 46 = .ok (.invokevirtual 209, 3) := by decide +kernel
theorem dX5_led_49 : decode cX5_led 49 = .ok (.ifCond .ne 9, 3) := by decide +kernel
theorem dX5_led_52 : decode cX5_led 52 = .ok (.iload_n 1, 1) := by decide +kernel
theorem dX5_led_53 : decode cX5_led 53 = .ok (.iconst 1, 1) := by decide +kernel
theorem dX5_led_54 : decode cX5_led 54 = .ok (.iload_n 2, 1) := by decide +kernel
theorem dX5_led_55 : decode cX5_led 55 = .ok (.ishl, 1) := by decide +kernel
theorem dX5_led_56 : decode cX5_led 56 = .ok (.ior, 1) := by decide +kernel
theorem dX5_led_57 : decode cX5_led 57 = .ok (.istore_n 1, 1) := by decide +kernel
theorem dX5_led_58 : decode cX5_led 58 = .ok (.iinc 2 1, 3) := by decide +kernel
theorem dX5_led_61 : decode cX5_led 61 = .ok (.goto (-40), 3) := by decide +kernel
theorem dX5_led_64 : decode cX5_led 64 = .ok (.iload_n 1, 1) := by decide +kernel
theorem dX5_led_65 : decode cX5_led 65 = .ok (.ireturn, 1) := by decide +kernel
theorem dX5_choose_0 : decode cX5_choose 0 = .ok (.iload_n 1, 1) := by decide +kernel
theorem dX5_choose_1 : decode cX5_choose 1 = .ok (.invokestatic 283, 3) := by decide +kernel
theorem dX5_choose_4 : decode cX5_choose 4 = .ok (.ifCond .eq 25, 3) := by decide +kernel
theorem dX5_choose_7 : decode cX5_choose 7 = .ok (.iload_n 1, 1) := by decide +kernel
theorem dX5_choose_8 : decode cX5_choose 8 = .ok (.ifCond .eq 21, 3) := by decide +kernel
theorem dX5_choose_11 : decode cX5_choose 11 = .ok (.iload_n 2, 1) := by decide +kernel
theorem dX5_choose_12 : decode cX5_choose 12 = .ok (.invokestatic 79, 3) := by decide +kernel
theorem dX5_choose_15 : decode cX5_choose 15 = .ok (.ifCond .eq 14, 3) := by decide +kernel
theorem dX5_choose_18 : decode cX5_choose 18 = .ok (.iload_n 3, 1) := by decide +kernel
theorem dX5_choose_19 : decode cX5_choose 19 = .ok (.iconst 0, 1) := by decide +kernel
theorem dX5_choose_20 : decode cX5_choose 20 = .ok (.sipush 1296, 3) := by decide +kernel
theorem dX5_choose_23 : decode cX5_choose 23 = .ok (.invokestatic 135, 3) := by decide +kernel
theorem dX5_choose_26 : decode cX5_choose 26 = .ok (.ifCond .ne 5, 3) := by decide +kernel
theorem dX5_choose_29 : decode cX5_choose 29 = .ok (.iconst (-1), 1) := by decide +kernel
theorem dX5_choose_30 : decode cX5_choose 30 = .ok (.ireturn, 1) := by decide +kernel
theorem dX5_choose_31 : decode cX5_choose 31 = .ok (.aload_n 0, 1) := by decide +kernel
theorem dX5_choose_32 : decode cX5_choose 32 = .ok (.getfield 11, 3) := by decide +kernel
theorem dX5_choose_35 : decode cX5_choose 35 = .ok (.iload_n 2, 1) := by decide +kernel
theorem dX5_choose_36 : decode cX5_choose 36 = .ok (.aaload, 1) := by decide +kernel
theorem dX5_choose_37 : decode cX5_choose 37 = .ok (.astore 4, 2) := by decide +kernel
theorem dX5_choose_39 : decode cX5_choose 39 = .ok (.aload_n 0, 1) := by decide +kernel
theorem dX5_choose_40 : decode cX5_choose 40 = .ok (.iload_n 1, 1) := by decide +kernel
theorem dX5_choose_41 : decode cX5_choose 41 = .ok (.invokevirtual 291, 3) := by decide +kernel
theorem dX5_choose_44 : decode cX5_choose 44 = .ok (.ifCond .ne 11, 3) := by decide +kernel
theorem dX5_choose_47 : decode cX5_choose 47 = .ok (.aload 4, 2) := by decide +kernel
theorem dX5_choose_49 : decode cX5_choose 49 = .ok (.invokevirtual 91, 3) := by decide +kernel
theorem dX5_choose_52 : decode cX5_choose 52 = .ok (.ifCond .eq 9, 3) := by decide +kernel
theorem dX5_choose_55 : decode cX5_choose 55 = .ok (.aload_n 0, 1) := by decide +kernel
theorem dX5_choose_56 : decode cX5_choose 56 = .ok (.iconst 1, 1) := by decide +kernel
theorem dX5_choose_57 : decode cX5_choose 57 = .ok (.invokevirtual 83, 3) := by decide +kernel
theorem dX5_choose_60 : decode cX5_choose 60 = .ok (.ireturn, 1) := by decide +kernel
theorem dX5_choose_61 : decode cX5_choose 61 = .ok (.aload 4, 2) := by decide +kernel
theorem dX5_choose_63 : decode cX5_choose 63 = .ok (.getfield 101, 3) := by decide +kernel
theorem dX5_choose_66 : decode cX5_choose 66 = .ok (.bipush 6, 2) := by decide +kernel
theorem dX5_choose_68 : decode cX5_choose 68 = .ok (.if_icmp .eq 9, 3) := by decide +kernel
theorem dX5_choose_71 : decode cX5_choose 71 = .ok (.aload_n 0, 1) := by decide +kernel
theorem dX5_choose_72 : decode cX5_choose 72 = .ok (.iconst 5, 1) := by decide +kernel
theorem dX5_choose_73 : decode cX5_choose 73 = .ok (.invokevirtual 83, 3) := by decide +kernel
theorem dX5_choose_76 : decode cX5_choose 76 = .ok (.ireturn, 1) := by decide +kernel
theorem dX5_choose_77 : decode cX5_choose 77 = .ok (.iconst 0, 1) := by decide +kernel
theorem dX5_choose_78 : decode cX5_choose 78 = .ok (.istore 5, 2) := by decide +kernel
theorem dX5_choose_80 : decode cX5_choose 80 = .ok (.iload 5, 2) := by decide +kernel
theorem dX5_choose_82 : decode cX5_choose 82 = .ok (.bipush 6, 2) := by decide +kernel
theorem dX5_choose_84 : decode cX5_choose 84 = .ok (.if_icmp .ge 33, 3) := by decide +kernel
theorem dX5_choose_87 : decode cX5_choose 87 = .ok (.aload 4, 2) := by decide +kernel
theorem dX5_choose_89 : decode cX5_choose 89 = .ok (.getfield 98, 3) := by decide +kernel
theorem dX5_choose_92 : decode cX5_choose 92 = .ok (.iload 5, 2) := by decide +kernel
theorem dX5_choose_94 : decode cX5_choose 94 = .ok (.iaload, 1) := by decide +kernel
theorem dX5_choose_95 : decode cX5_choose 95 = .ok (.iconst 0, 1) := by decide +kernel
theorem dX5_choose_96 : decode cX5_choose 96 = .ok (.sipush 999, 3) := by decide +kernel
theorem dX5_choose_99 : decode cX5_choose 99 = .ok (.invokestatic 135, 3) := by decide +kernel
theorem dX5_choose_102 : decode cX5_choose 102 = .ok (.ifCond .ne 9, 3) := by decide +kernel
theorem dX5_choose_105 : decode cX5_choose 105 = .ok (.aload_n 0, 1) := by decide +kernel
theorem dX5_choose_106 : decode cX5_choose 106 = .ok (.iconst 3, 1) := by decide +kernel
theorem dX5_choose_107 : decode cX5_choose 107 = .ok (.invokevirtual 83, 3) := by decide +kernel
theorem dX5_choose_110 : decode cX5_choose 110 = .ok (.ireturn, 1) := by decide +kernel
theorem dX5_choose_111 : decode cX5_choose 111 = .ok (.iinc 5 1, 3) := by decide +kernel
theorem dX5_choose_114 : decode cX5_choose 114 = .ok (.goto (-34), 3) := by decide +kernel
theorem dX5_choose_117 : decode cX5_choose 117 = .ok (.aload_n 0, 1) := by decide +kernel
theorem dX5_choose_118 : decode cX5_choose 118 = .ok (.iload_n 1, 1) := by decide +kernel
theorem dX5_choose_119 : decode cX5_choose 119 = .ok (.invokevirtual 312, 3) := by decide +kernel
theorem dX5_choose_122 : decode cX5_choose 122 = .ok (.istore 5, 2) := by decide +kernel
theorem dX5_choose_124 : decode cX5_choose 124 = .ok (.iconst 1, 1) := by decide +kernel
theorem dX5_choose_125 : decode cX5_choose 125 = .ok (.istore 6, 2) := by decide +kernel
theorem dX5_choose_127 : decode cX5_choose 127 = .ok (.aload_n 0, 1) := by decide +kernel
theorem dX5_choose_128 : decode cX5_choose 128 = .ok (.iconst 1, 1) := by decide +kernel
theorem dX5_choose_129 : decode cX5_choose 129 = .ok (.invokevirtual 184, 3) := by decide +kernel
theorem dX5_choose_132 : decode cX5_choose 132 = .ok (.istore 7, 2) := by decide +kernel
theorem dX5_choose_134 : decode cX5_choose 134 = .ok (.iload 7, 2) := by decide +kernel
theorem dX5_choose_136 : decode cX5_choose 136 = .ok (.ifCond .le 16, 3) := by decide +kernel
theorem dX5_choose_139 : decode cX5_choose 139 = .ok (.iload 6, 2) := by decide +kernel
theorem dX5_choose_141 : decode cX5_choose 141 = .ok (.iload 5, 2) := by decide +kernel
theorem dX5_choose_143 : decode cX5_choose 143 = .ok (.imul, 1) := by decide +kernel
theorem dX5_choose_144 : decode cX5_choose 144 = .ok (.istore 6, 2) := by decide +kernel
theorem dX5_choose_146 : decode cX5_choose 146 = .ok (.iinc 7 (-1), 3) := by decide +kernel
theorem dX5_choose_149 : decode cX5_choose 149 = .ok (.goto (-15), 3) := by decide +kernel
theorem dX5_choose_152 : decode cX5_choose 152 = .ok (.iload 6, 2) := by decide +kernel
theorem dX5_choose_154 : decode cX5_choose 154 = .ok (.iload_n 3, 1) := by decide +kernel
theorem dX5_choose_155 : decode cX5_choose 155 = .ok (.if_icmp .le 6, 3) := by decide +kernel
theorem dX5_choose_158 : decode cX5_choose 158 = .ok (.bipush (-6), 2) := by decide +kernel
theorem dX5_choose_160 : decode cX5_choose 160 = .ok (.ireturn, 1) := by decide +kernel
theorem dX5_choose_161 : decode cX5_choose 161 = .ok (.aload_n 0, 1) := by decide +kernel
theorem dX5_choose_162 : decode cX5_choose 162 = .ok (.iload 6, 2) := by decide +kernel
theorem dX5_choose_164 : decode cX5_choose 164 = .ok (.iload 5, 2) := by decide +kernel
theorem dX5_choose_166 : decode cX5_choose 166 = .ok (.aload 4, 2) := by decide +kernel
theorem dX5_choose_168 : decode cX5_choose 168 = .ok (.invokevirtual 315, 3) := by decide +kernel
theorem dX5_choose_171 : decode cX5_choose 171 = .ok (.ireturn, 1) := by decide +kernel
theorem dX5_sniff_0 : decode cX5_sniff 0 = .ok (.iload_n 1, 1) := by decide +kernel
theorem dX5_sniff_1 : decode cX5_sniff 1 = .ok (.invokestatic 79, 3) := by decide +kernel
theorem dX5_sniff_4 : decode cX5_sniff 4 = .ok (.ifCond .eq 13, 3) := by decide +kernel
theorem dX5_sniff_7 : decode cX5_sniff 7 = .ok (.iload_n 2, 1) := by decide +kernel
theorem dX5_sniff_8 : decode cX5_sniff 8 = .ok (.iconst 0, 1) := by decide +kernel
theorem dX5_sniff_9 : decode cX5_sniff 9 = .ok (.bipush 99, 2) := by decide +kernel
theorem dX5_sniff_11 : decode cX5_sniff 11 = .ok (.invokestatic 135, 3) := by decide +kernel
theorem dX5_sniff_14 : decode cX5_sniff 14 = .ok (.ifCond .ne 5, 3) := by decide +kernel
theorem dX5_sniff_17 : decode cX5_sniff 17 = .ok (.iconst (-1), 1) := by decide +kernel
theorem dX5_sniff_18 : decode cX5_sniff 18 = .ok (.ireturn, 1) := by decide +kernel
theorem dX5_sniff_19 : decode cX5_sniff 19 = .ok (.aload_n 0, 1) := by decide +kernel
theorem dX5_sniff_20 : decode cX5_sniff 20 = .ok (.getfield 11, 3) := by decide +kernel
theorem dX5_sniff_23 : decode cX5_sniff 23 = .ok (.iload_n 1, 1) := by decide +kernel
theorem dX5_sniff_24 : decode cX5_sniff 24 = .ok (.aaload, 1) := by decide +kernel
theorem dX5_sniff_25 : decode cX5_sniff 25 = .ok (.astore_n 3, 1) := by decide +kernel
theorem dX5_sniff_26 : decode cX5_sniff 26 = .ok (.aload_n 3, 1) := by decide +kernel
theorem dX5_sniff_27 : decode cX5_sniff 27 = .ok (.invokevirtual 91, 3) := by decide +kernel
theorem dX5_sniff_30 : decode cX5_sniff 30 = .ok (.ifCond .eq 9, 3) := by decide +kernel
theorem dX5_sniff_33 : decode cX5_sniff 33 = .ok (.aload_n 0, 1) := by decide +kernel
theorem dX5_sniff_34 : decode cX5_sniff 34 = .ok (.iconst 1, 1) := by decide +kernel
theorem dX5_sniff_35 : decode cX5_sniff 35 = .ok (.invokevirtual 83, 3) := by decide +kernel
theorem dX5_sniff_38 : decode cX5_sniff 38 = .ok (.ireturn, 1) := by decide +kernel
theorem dX5_sniff_39 : decode cX5_sniff 39 = .ok (.aload_n 3, 1) := by decide +kernel
theorem dX5_sniff_40 : decode cX5_sniff 40 = .ok (.getfield 101, 3) := by decide +kernel
theorem dX5_sniff_43 : decode cX5_sniff 43 = .ok (.iconst 4, 1) := by decide +kernel
theorem dX5_sniff_44 : decode cX5_sniff 44 = .ok (.if_icmp .eq 9, 3) := by decide +kernel
theorem dX5_sniff_47 : decode cX5_sniff 47 = .ok (.aload_n 0, 1) := by decide +kernel
theorem dX5_sniff_48 : decode cX5_sniff 48 = .ok (.iconst 5, 1) := by decide +kernel
theorem dX5_sniff_49 : decode cX5_sniff 49 = .ok (.invokevirtual 83, 3) := by decide +kernel
theorem dX5_sniff_52 : decode cX5_sniff 52 = .ok (.ireturn, 1) := by decide +kernel
theorem dX5_sniff_53 : decode cX5_sniff 53 = .ok (.iconst 0, 1) := by decide +kernel
theorem dX5_sniff_54 : decode cX5_sniff 54 = .ok (.istore 4, 2) := by decide +kernel
theorem dX5_sniff_56 : decode cX5_sniff 56 = .ok (.iload 4, 2) := by decide +kernel
theorem dX5_sniff_58 : decode cX5_sniff 58 = .ok (.iconst 4, 1) := by decide +kernel
theorem dX5_sniff_59 : decode cX5_sniff 59 = .ok (.if_icmp .ge 32, 3) := by decide +kernel
theorem dX5_sniff_62 : decode cX5_sniff 62 = .ok (.aload_n 3, 1) := by decide +kernel
theorem dX5_sniff_63 : decode cX5_sniff 63 = .ok (.getfield 98, 3) := by decide +kernel
theorem dX5_sniff_66 : decode cX5_sniff 66 = .ok (.iload 4, 2) := by decide +kernel
theorem dX5_sniff_68 : decode cX5_sniff 68 = .ok (.iaload, 1) := by decide +kernel
theorem dX5_sniff_69 : decode cX5_sniff 69 = .ok (.iconst 0, 1) := by decide +kernel
theorem dX5_sniff_70 : decode cX5_sniff 70 = .ok (.sipush 9999, 3) := by decide +kernel
theorem dX5_sniff_73 : decode cX5_sniff 73 = .ok (.invokestatic 135, 3) := by decide +kernel
theorem dX5_sniff_76 : decode cX5_sniff 76 = .ok (.ifCond .ne 9, 3) := by decide +kernel
theorem dX5_sniff_79 : decode cX5_sniff 79 = .ok (.aload_n 0, 1) := by decide +kernel
theorem dX5_sniff_80 : decode cX5_sniff 80 = .ok (.iconst 3, 1) := by decide +kernel
theorem dX5_sniff_81 : decode cX5_sniff 81 = .ok (.invokevirtual 83, 3) := by decide +kernel
theorem dX5_sniff_84 : decode cX5_sniff 84 = .ok (.ireturn, 1) := by decide +kernel
theorem dX5_sniff_85 : decode cX5_sniff 85 = .ok (.iinc 4 1, 3) := by decide +kernel
theorem dX5_sniff_88 : decode cX5_sniff 88 = .ok (.goto (-32), 3) := by decide +kernel
theorem dX5_sniff_91 : decode cX5_sniff 91 = .ok (.iconst 0, 1) := by decide +kernel
theorem dX5_sniff_92 : decode cX5_sniff 92 = .ok (.istore 4, 2) := by decide +kernel
theorem dX5_sniff_94 : decode cX5_sniff 94 = .ok (.iconst 0, 1) := by decide +kernel
theorem dX5_sniff_95 : decode cX5_sniff 95 = .ok (.istore 5, 2) := by decide +kernel
theorem dX5_sniff_97 : decode cX5_sniff 97 = .ok (.iload 5, 2) := by decide +kernel
theorem dX5_sniff_99 : decode cX5_sniff 99 = .ok (.iconst 4, 1) := by decide +kernel
theorem dX5_sniff_100 : decode cX5_sniff 100 = .ok (.if_icmp .ge 28, 3) := by decide +kernel
theorem dX5_sniff_103 : decode cX5_sniff 103 = .ok (.iload 5, 2) := by decide +kernel
theorem dX5_sniff_105 : decode cX5_sniff 105 = .ok (.aload_n 3, 1) := by decide +kernel
theorem dX5_sniff_106 : decode cX5_sniff 106 = .ok (.iload_n 2, 1) := by decide +kernel
theorem dX5_sniff_107 : decode cX5_sniff 107 = .ok (.invokestatic 319, 3) := by decide +kernel
theorem dX5_sniff_110 : decode cX5_sniff 110 = .ok (.ifCond .eq 12, 3) := by decide +kernel
theorem dX5_sniff_113 : decode cX5_sniff 113 = .ok (.iload 4, 2) := by decide +kernel
theorem dX5_sniff_115 : decode cX5_sniff 115 = .ok (.iconst 1, 1) := by decide +kernel
theorem dX5_sniff_116 : decode cX5_sniff 116 = .ok (.iload 5, 2) := by decide +kernel
theorem dX5_sniff_118 : decode cX5_sniff 118 = .ok (.ishl, 1) := by decide +kernel
theorem dX5_sniff_119 : decode cX5_sniff 119 = .ok (.ior, 1) := by decide +kernel
theorem dX5_sniff_120 : decode cX5_sniff 120 = .ok (.istore 4, 2) := by decide +kernel
theorem dX5_sniff_122 : decode cX5_sniff 122 = .ok (.iinc 5 1, 3) := by decide +kernel
theorem dX5_sniff_125 : decode cX5_sniff 125 = .ok (.goto (-28), 3) := by decide +kernel
theorem dX5_sniff_128 : decode cX5_sniff 128 = .ok (.iload 4, 2) := by decide +kernel
theorem dX5_sniff_130 : decode cX5_sniff 130 = .ok (.ireturn, 1) := by decide +kernel
theorem dX5_asked_0 : decode cX5_asked 0 = .ok (.aload_n 0, 1) := by decide +kernel
theorem dX5_asked_1 : decode cX5_asked 1 = .ok (.getfield 64, 3) := by decide +kernel
theorem dX5_asked_4 : decode cX5_asked 4 = .ok (.ireturn, 1) := by decide +kernel
theorem dX5_upper_0 : decode cX5_upper 0 = .ok (.aload_n 0, 1) := by decide +kernel
theorem dX5_upper_1 : decode cX5_upper 1 = .ok (.getfield 67, 3) := by decide +kernel
theorem dX5_upper_4 : decode cX5_upper 4 = .ok (.lreturn, 1) := by decide +kernel
theorem dX5_lower_0 : decode cX5_lower 0 = .ok (.aload_n 0, 1) := by decide +kernel
theorem dX5_lower_1 : decode cX5_lower 1 = .ok (.getfield 71, 3) := by decide +kernel
theorem dX5_lower_4 : decode cX5_lower 4 = .ok (.lreturn, 1) := by decide +kernel
theorem dX5_count_0 : decode cX5_count 0 = .ok (.iload_n 1, 1) := by decide +kernel
theorem dX5_count_1 : decode cX5_count 1 = .ok (.tableswitch 78 0 5 #[39, 45, 51, 57, 62, 70], 39) := by decide +kernel
theorem dX5_count_40 : decode cX5_count 40 = .ok (.aload_n 0, 1) := by decide +kernel
theorem dX5_count_41 : decode cX5_count 41 = .ok (.iconst 0, 1) := by decide +kernel
theorem dX5_count_42 : decode cX5_count 42 = .ok (.invokevirtual 184, 3) := by decide +kernel
theorem dX5_count_45 : decode cX5_count 45 = .ok (.ireturn, 1) := by decide +kernel
theorem dX5_count_46 : decode cX5_count 46 = .ok (.aload_n 0, 1) := by decide +kernel
theorem dX5_count_47 : decode cX5_count 47 = .ok (.iconst 1, 1) := by decide +kernel
theorem dX5_count_48 : decode cX5_count 48 = .ok (.invokevirtual 184, 3) := by decide +kernel
theorem dX5_count_51 : decode cX5_count 51 = .ok (.ireturn, 1) := by decide +kernel
theorem dX5_count_52 : decode cX5_count 52 = .ok (.aload_n 0, 1) := by decide +kernel
theorem dX5_count_53 : decode cX5_count 53 = .ok (.iconst 2, 1) := by decide +kernel
theorem dX5_count_54 : decode cX5_count 54 = .ok (.invokevirtual 184, 3) := by decide +kernel
theorem dX5_count_57 : decode cX5_count 57 = .ok (.ireturn, 1) := by decide +kernel
theorem dX5_count_58 : decode cX5_count 58 = .ok (.aload_n 0, 1) := by decide +kernel
theorem dX5_count_59 : decode cX5_count 59 = .ok (.invokevirtual 323, 3) := by decide +kernel
theorem dX5_count_62 : decode cX5_count 62 = .ok (.ireturn, 1) := by decide +kernel
theorem dX5_count_63 : decode cX5_count 63 = .ok (.aload_n 0, 1) := by decide +kernel
theorem dX5_count_64 : decode cX5_count 64 = .ok (.getfield 11, 3) := by decide +kernel
theorem dX5_count_67 : decode cX5_count 67 = .ok (.invokestatic 326, 3) := by decide +kernel
theorem dX5_count_70 : decode cX5_count 70 = .ok (.ireturn, 1) := by decide +kernel
theorem dX5_count_71 : decode cX5_count 71 = .ok (.aload_n 0, 1) := by decide +kernel
theorem dX5_count_72 : decode cX5_count 72 = .ok (.getfield 15, 3) := by decide +kernel
theorem dX5_count_75 : decode cX5_count 75 = .ok (.invokestatic 326, 3) := by decide +kernel
theorem dX5_count_78 : decode cX5_count 78 = .ok (.ireturn, 1) := by decide +kernel
theorem dX5_count_79 : decode cX5_count 79 = .ok (.iconst (-1), 1) := by decide +kernel
theorem dX5_count_80 : decode cX5_count 80 = .ok (.ireturn, 1) := by decide +kernel
theorem dX5_finding_0 : decode cX5_finding 0 = .ok (.aload_n 0, 1) := by decide +kernel
theorem dX5_finding_1 : decode cX5_finding 1 = .ok (.getfield 60, 3) := by decide +kernel
theorem dX5_finding_4 : decode cX5_finding 4 = .ok (.ireturn, 1) := by decide +kernel
theorem dX5_findings_0 : decode cX5_findings 0 = .ok (.iload_n 1, 1) := by decide +kernel
theorem dX5_findings_1 : decode cX5_findings 1 = .ok (.iconst 1, 1) := by decide +kernel
theorem dX5_findings_2 : decode cX5_findings 2 = .ok (.iconst 5, 1) := by decide +kernel
theorem dX5_findings_3 : decode cX5_findings 3 = .ok (.invokestatic 135, 3) := by decide +kernel
theorem dX5_findings_6 : decode cX5_findings 6 = .ok (.ifCond .eq 12, 3) := by decide +kernel
theorem dX5_findings_9 : decode cX5_findings 9 = .ok (.aload_n 0, 1) := by decide +kernel
theorem dX5_findings_10 : decode cX5_findings 10 = .ok (.getfield 57, 3) := by decide +kernel
theorem dX5_findings_13 : decode cX5_findings 13 = .ok (.iload_n 1, 1) := by decide +kernel
theorem dX5_findings_14 : decode cX5_findings 14 = .ok (.iaload, 1) := by decide +kernel
theorem dX5_findings_15 : decode cX5_findings 15 = .ok (.goto 4, 3) := by decide +kernel
theorem dX5_findings_18 : decode cX5_findings 18 = .ok (.iconst (-1), 1) := by decide +kernel
theorem dX5_findings_19 : decode cX5_findings 19 = .ok (.ireturn, 1) := by decide +kernel
theorem dX5_digest_0 : decode cX5_digest 0 = .ok (.ldc2_w 330, 3) := by decide +kernel
theorem dX5_digest_3 : decode cX5_digest 3 = .ok (.lstore_n 1, 1) := by decide +kernel
theorem dX5_digest_4 : decode cX5_digest 4 = .ok (.iconst 0, 1) := by decide +kernel
theorem dX5_digest_5 : decode cX5_digest 5 = .ok (.istore_n 3, 1) := by decide +kernel
theorem dX5_digest_6 : decode cX5_digest 6 = .ok (.iload_n 3, 1) := by decide +kernel
theorem dX5_digest_7 : decode cX5_digest 7 = .ok (.iconst 5, 1) := by decide +kernel
theorem dX5_digest_8 : decode cX5_digest 8 = .ok (.if_icmp .gt 20, 3) := by decide +kernel
theorem dX5_digest_11 : decode cX5_digest 11 = .ok (.lload_n 1, 1) := by decide +kernel
theorem dX5_digest_12 : decode cX5_digest 12 = .ok (.aload_n 0, 1) := by decide +kernel
theorem dX5_digest_13 : decode cX5_digest 13 = .ok (.iload_n 3, 1) := by decide +kernel
theorem dX5_digest_14 : decode cX5_digest 14 = .ok (.invokevirtual 332, 3) := by decide +kernel
theorem dX5_digest_17 : decode cX5_digest 17 = .ok (.i2l, 1) := by decide +kernel
theorem dX5_digest_18 : decode cX5_digest 18 = .ok (.invokestatic 335, 3) := by decide +kernel
theorem dX5_digest_21 : decode cX5_digest 21 = .ok (.lstore_n 1, 1) := by decide +kernel
theorem dX5_digest_22 : decode cX5_digest 22 = .ok (.iinc 3 1, 3) := by decide +kernel
theorem dX5_digest_25 : decode cX5_digest 25 = .ok (.goto (-19), 3) := by decide +kernel
theorem dX5_digest_28 : decode cX5_digest 28 = .ok (.iconst 0, 1) := by decide +kernel
theorem dX5_digest_29 : decode cX5_digest 29 = .ok (.istore_n 3, 1) := by decide +kernel
theorem dX5_digest_30 : decode cX5_digest 30 = .ok (.iload_n 3, 1) := by decide +kernel
theorem dX5_digest_31 : decode cX5_digest 31 = .ok (.iconst 3, 1) := by decide +kernel
theorem dX5_digest_32 : decode cX5_digest 32 = .ok (.if_icmp .gt 21, 3) := by decide +kernel
theorem dX5_digest_35 : decode cX5_digest 35 = .ok (.lload_n 1, 1) := by decide +kernel
theorem dX5_digest_36 : decode cX5_digest 36 = .ok (.aload_n 0, 1) := by decide +kernel
theorem dX5_digest_37 : decode cX5_digest 37 = .ok (.getfield 37, 3) := by decide +kernel
theorem dX5_digest_40 : decode cX5_digest 40 = .ok (.iload_n 3, 1) := by decide +kernel
theorem dX5_digest_41 : decode cX5_digest 41 = .ok (.iaload, 1) := by decide +kernel
theorem dX5_digest_42 : decode cX5_digest 42 = .ok (.i2l, 1) := by decide +kernel
theorem dX5_digest_43 : decode cX5_digest 43 = .ok (.invokestatic 335, 3) := by decide +kernel
theorem dX5_digest_46 : decode cX5_digest 46 = .ok (.lstore_n 1, 1) := by decide +kernel
theorem dX5_digest_47 : decode cX5_digest 47 = .ok (.iinc 3 1, 3) := by decide +kernel
theorem dX5_digest_50 : decode cX5_digest 50 = .ok (.goto (-20), 3) := by decide +kernel
theorem dX5_digest_53 : decode cX5_digest 53 = .ok (.iconst 0, 1) := by decide +kernel
theorem dX5_digest_54 : decode cX5_digest 54 = .ok (.istore_n 3, 1) := by decide +kernel
theorem dX5_digest_55 : decode cX5_digest 55 = .ok (.iload_n 3, 1) := by decide +kernel
theorem dX5_digest_56 : decode cX5_digest 56 = .ok (.iconst 4, 1) := by decide +kernel
theorem dX5_digest_57 : decode cX5_digest 57 = .ok (.if_icmp .ge 30, 3) := by decide +kernel
theorem dX5_digest_60 : decode cX5_digest 60 = .ok (.aload_n 0, 1) := by decide +kernel
theorem dX5_digest_61 : decode cX5_digest 61 = .ok (.getfield 26, 3) := by decide +kernel
theorem dX5_digest_64 : decode cX5_digest 64 = .ok (.iload_n 3, 1) := by decide +kernel
theorem dX5_digest_65 : decode cX5_digest 65 = .ok (.aaload, 1) := by decide +kernel
theorem dX5_digest_66 : decode cX5_digest 66 = .ok (.lload_n 1, 1) := by decide +kernel
theorem dX5_digest_67 : decode cX5_digest 67 = .ok (.aload_n 0, 1) := by decide +kernel
theorem dX5_digest_68 : decode cX5_digest 68 = .ok (.getfield 30, 3) := by decide +kernel
theorem dX5_digest_71 : decode cX5_digest 71 = .ok (.iload_n 3, 1) := by decide +kernel
theorem dX5_digest_72 : decode cX5_digest 72 = .ok (.iaload, 1) := by decide +kernel
theorem dX5_digest_73 : decode cX5_digest 73 = .ok (.i2l, 1) := by decide +kernel
theorem dX5_digest_74 : decode cX5_digest 74 = .ok (.invokestatic 335, 3) := by decide +kernel
theorem dX5_digest_77 : decode cX5_digest 77 = .ok (.invokevirtual 338, 3) := by decide +kernel
theorem dX5_digest_80 : decode cX5_digest 80 = .ok (.lstore_n 1, 1) := by decide +kernel
theorem dX5_digest_81 : decode cX5_digest 81 = .ok (.iinc 3 1, 3) := by decide +kernel
theorem dX5_digest_84 : decode cX5_digest 84 = .ok (.goto (-29), 3) := by decide +kernel
theorem dX5_digest_87 : decode cX5_digest 87 = .ok (.iconst 0, 1) := by decide +kernel
theorem dX5_digest_88 : decode cX5_digest 88 = .ok (.istore_n 3, 1) := by decide +kernel
theorem dX5_digest_89 : decode cX5_digest 89 = .ok (.iload_n 3, 1) := by decide +kernel
theorem dX5_digest_90 : decode cX5_digest 90 = .ok (.bipush 6, 2) := by decide +kernel
theorem dX5_digest_92 : decode cX5_digest 92 = .ok (.if_icmp .ge 20, 3) := by decide +kernel
theorem dX5_digest_95 : decode cX5_digest 95 = .ok (.aload_n 0, 1) := by decide +kernel
theorem dX5_digest_96 : decode cX5_digest 96 = .ok (.getfield 20, 3) := by decide +kernel
theorem dX5_digest_99 : decode cX5_digest 99 = .ok (.iload_n 3, 1) := by decide +kernel
theorem dX5_digest_100 : decode cX5_digest 100 = .ok (.aaload, 1) := by decide +kernel
theorem dX5_digest_101 : decode cX5_digest 101 = .ok (.lload_n 1, 1) := by decide +kernel
theorem dX5_digest_102 : decode cX5_digest 102 = .ok (.invokevirtual 342, 3) := by decide +kernel
theorem dX5_digest_105 : decode cX5_digest 105 = .ok (.lstore_n 1, 1) := by decide +kernel
theorem dX5_digest_106 : decode cX5_digest 106 = .ok (.iinc 3 1, 3) := by decide +kernel
theorem dX5_digest_109 : decode cX5_digest 109 = .ok (.goto (-20), 3) := by decide +kernel
theorem dX5_digest_112 : decode cX5_digest 112 = .ok (.iconst 0, 1) := by decide +kernel
theorem dX5_digest_113 : decode cX5_digest 113 = .ok (.istore_n 3, 1) := by decide +kernel
theorem dX5_digest_114 : decode cX5_digest 114 = .ok (.iload_n 3, 1) := by decide +kernel
theorem dX5_digest_115 : decode cX5_digest 115 = .ok (.bipush 6, 2) := by decide +kernel
theorem dX5_digest_117 : decode cX5_digest 117 = .ok (.if_icmp .ge 20, 3) := by decide +kernel
theorem dX5_digest_120 : decode cX5_digest 120 = .ok (.aload_n 0, 1) := by decide +kernel
theorem dX5_digest_121 : decode cX5_digest 121 = .ok (.getfield 11, 3) := by decide +kernel
theorem dX5_digest_124 : decode cX5_digest 124 = .ok (.iload_n 3, 1) := by decide +kernel
theorem dX5_digest_125 : decode cX5_digest 125 = .ok (.aaload, 1) := by decide +kernel
theorem dX5_digest_126 : decode cX5_digest 126 = .ok (.lload_n 1, 1) := by decide +kernel
theorem dX5_digest_127 : decode cX5_digest 127 = .ok (.invokevirtual 343, 3) := by decide +kernel
theorem dX5_digest_130 : decode cX5_digest 130 = .ok (.lstore_n 1, 1) := by decide +kernel
theorem dX5_digest_131 : decode cX5_digest 131 = .ok (.iinc 3 1, 3) := by decide +kernel
theorem dX5_digest_134 : decode cX5_digest 134 = .ok (.goto (-20), 3) := by decide +kernel
theorem dX5_digest_137 : decode cX5_digest 137 = .ok (.iconst 0, 1) := by decide +kernel
theorem dX5_digest_138 : decode cX5_digest 138 = .ok (.istore_n 3, 1) := by decide +kernel
theorem dX5_digest_139 : decode cX5_digest 139 = .ok (.iload_n 3, 1) := by decide +kernel
theorem dX5_digest_140 : decode cX5_digest 140 = .ok (.iconst 4, 1) := by decide +kernel
theorem dX5_digest_141 : decode cX5_digest 141 = .ok (.if_icmp .ge 20, 3) := by decide +kernel
theorem dX5_digest_144 : decode cX5_digest 144 = .ok (.aload_n 0, 1) := by decide +kernel
theorem dX5_digest_145 : decode cX5_digest 145 = .ok (.getfield 15, 3) := by decide +kernel
theorem dX5_digest_148 : decode cX5_digest 148 = .ok (.iload_n 3, 1) := by decide +kernel
theorem dX5_digest_149 : decode cX5_digest 149 = .ok (.aaload, 1) := by decide +kernel
theorem dX5_digest_150 : decode cX5_digest 150 = .ok (.lload_n 1, 1) := by decide +kernel
theorem dX5_digest_151 : decode cX5_digest 151 = .ok (.invokevirtual 343, 3) := by decide +kernel
theorem dX5_digest_154 : decode cX5_digest 154 = .ok (.lstore_n 1, 1) := by decide +kernel
theorem dX5_digest_155 : decode cX5_digest 155 = .ok (.iinc 3 1, 3) := by decide +kernel
theorem dX5_digest_158 : decode cX5_digest 158 = .ok (.goto (-19), 3) := by decide +kernel
theorem dX5_digest_161 : decode cX5_digest 161 = .ok (.lload_n 1, 1) := by decide +kernel
theorem dX5_digest_162 : decode cX5_digest 162 = .ok (.lreturn, 1) := by decide +kernel
theorem dX5_within_0 : decode cX5_within 0 = .ok (.iload_n 0, 1) := by decide +kernel
theorem dX5_within_1 : decode cX5_within 1 = .ok (.iload_n 1, 1) := by decide +kernel
theorem dX5_within_2 : decode cX5_within 2 = .ok (.if_icmp .lt 12, 3) := by decide +kernel
theorem dX5_within_5 : decode cX5_within 5 = .ok (.iload_n 0, 1) := by decide +kernel
theorem dX5_within_6 : decode cX5_within 6 = .ok (.iload_n 2, 1) := by decide +kernel
theorem dX5_within_7 : decode cX5_within 7 = .ok (.if_icmp .gt 7, 3) := by decide +kernel
theorem dX5_within_10 : decode cX5_within 10 = .ok (.iconst 1, 1) := by decide +kernel
theorem dX5_within_11 : decode cX5_within 11 = .ok (.goto 4, 3) := by decide +kernel
theorem dX5_within_14 : decode cX5_within 14 = .ok (.iconst 0, 1) := by decide +kernel
theorem dX5_within_15 : decode cX5_within 15 = .ok (.ireturn, 1) := by decide +kernel
theorem dX5_isRow_0 : decode cX5_isRow 0 = .ok (.iload_n 0, 1) := by decide +kernel
theorem dX5_isRow_1 : decode cX5_isRow 1 = .ok (.iconst 0, 1) := by decide +kernel
theorem dX5_isRow_2 : decode cX5_isRow 2 = .ok (.iconst 5, 1) := by decide +kernel
theorem dX5_isRow_3 : decode cX5_isRow 3 = .ok (.invokestatic 135, 3) := by decide +kernel
theorem dX5_isRow_6 : decode cX5_isRow 6 = .ok (.ireturn, 1) := by decide +kernel
theorem dX5_isText_0 : decode cX5_isText 0 = .ok (.iload_n 0, 1) := by decide +kernel
theorem dX5_isText_1 : decode cX5_isText 1 = .ok (.iconst 0, 1) := by decide +kernel
theorem dX5_isText_2 : decode cX5_isText 2 = .ok (.iconst 3, 1) := by decide +kernel
theorem dX5_isText_3 : decode cX5_isText 3 = .ok (.invokestatic 135, 3) := by decide +kernel
theorem dX5_isText_6 : decode cX5_isText 6 = .ok (.ireturn, 1) := by decide +kernel
theorem dX5_isStuff_0 : decode cX5_isStuff 0 = .ok (.iload_n 0, 1) := by decide +kernel
theorem dX5_isStuff_1 : decode cX5_isStuff 1 = .ok (.iconst 0, 1) := by decide +kernel
theorem dX5_isStuff_2 : decode cX5_isStuff 2 = .ok (.iconst 5, 1) := by decide +kernel
theorem dX5_isStuff_3 : decode cX5_isStuff 3 = .ok (.invokestatic 135, 3) := by decide +kernel
theorem dX5_isStuff_6 : decode cX5_isStuff 6 = .ok (.ireturn, 1) := by decide +kernel
theorem dX5_isPlace_0 : decode cX5_isPlace 0 = .ok (.iload_n 0, 1) := by decide +kernel
theorem dX5_isPlace_1 : decode cX5_isPlace 1 = .ok (.iconst 0, 1) := by decide +kernel
theorem dX5_isPlace_2 : decode cX5_isPlace 2 = .ok (.iconst 3, 1) := by decide +kernel
theorem dX5_isPlace_3 : decode cX5_isPlace 3 = .ok (.invokestatic 135, 3) := by decide +kernel
theorem dX5_isPlace_6 : decode cX5_isPlace 6 = .ok (.ireturn, 1) := by decide +kernel
theorem dX5_isSet_0 : decode cX5_isSet 0 = .ok (.iload_n 0, 1) := by decide +kernel
theorem dX5_isSet_1 : decode cX5_isSet 1 = .ok (.iconst 0, 1) := by decide +kernel
theorem dX5_isSet_2 : decode cX5_isSet 2 = .ok (.bipush 63, 2) := by decide +kernel
theorem dX5_isSet_4 : decode cX5_isSet 4 = .ok (.invokestatic 135, 3) := by decide +kernel
theorem dX5_isSet_7 : decode cX5_isSet 7 = .ok (.ireturn, 1) := by decide +kernel
theorem dX5_areEnds_0 : decode cX5_areEnds 0 = .ok (.iload_n 0, 1) := by decide +kernel
theorem dX5_areEnds_1 : decode cX5_areEnds 1 = .ok (.iconst 0, 1) := by decide +kernel
theorem dX5_areEnds_2 : decode cX5_areEnds 2 = .ok (.bipush 20, 2) := by decide +kernel
theorem dX5_areEnds_4 : decode cX5_areEnds 4 = .ok (.invokestatic 135, 3) := by decide +kernel
theorem dX5_areEnds_7 : decode cX5_areEnds 7 = .ok (.ifCond .eq 18, 3) := by decide +kernel
theorem dX5_areEnds_10 : decode cX5_areEnds 10 = .ok (.iload_n 1, 1) := by decide +kernel
theorem dX5_areEnds_11 : decode cX5_areEnds 11 = .ok (.iconst 0, 1) := by decide +kernel
theorem dX5_areEnds_12 : decode cX5_areEnds 12 = .ok (.sipush 999, 3) := by decide +kernel
theorem dX5_areEnds_15 : decode cX5_areEnds 15 = .ok (.invokestatic 135, 3) := by decide +kernel
theorem dX5_areEnds_18 : decode cX5_areEnds 18 = .ok (.ifCond .eq 7, 3) := by decide +kernel
theorem dX5_areEnds_21 : decode cX5_areEnds 21 = .ok (.iconst 1, 1) := by decide +kernel
theorem dX5_areEnds_22 : decode cX5_areEnds 22 = .ok (.goto 4, 3) := by decide +kernel
theorem dX5_areEnds_25 : decode cX5_areEnds 25 = .ok (.iconst 0, 1) := by decide +kernel
theorem dX5_areEnds_26 : decode cX5_areEnds 26 = .ok (.ireturn, 1) := by decide +kernel
theorem dX5_found_0 : decode cX5_found 0 = .ok (.iload_n 1, 1) := by decide +kernel
theorem dX5_found_1 : decode cX5_found 1 = .ok (.iconst 1, 1) := by decide +kernel
theorem dX5_found_2 : decode cX5_found 2 = .ok (.iconst 5, 1) := by decide +kernel
theorem dX5_found_3 : decode cX5_found 3 = .ok (.invokestatic 135, 3) := by decide +kernel
theorem dX5_found_6 : decode cX5_found 6 = .ok (.ifCond .eq 18, 3) := by decide +kernel
theorem dX5_found_9 : decode cX5_found 9 = .ok (.aload_n 0, 1) := by decide +kernel
theorem dX5_found_10 : decode cX5_found 10 = .ok (.iload_n 1, 1) := by decide +kernel
theorem dX5_found_11 : decode cX5_found 11 = .ok (.putfield 60, 3) := by decide +kernel
theorem dX5_found_14 : decode cX5_found 14 = .ok (.aload_n 0, 1) := by decide +kernel
theorem dX5_found_15 : decode cX5_found 15 = .ok (.getfield 57, 3) := by decide +kernel
theorem dX5_found_18 : decode cX5_found 18 = .ok (.iload_n 1, 1) := by decide +kernel
theorem dX5_found_19 : decode cX5_found 19 = .ok (.dup2, 1) := by decide +kernel
theorem dX5_found_20 : decode cX5_found 20 = .ok (.iaload, 1) := by decide +kernel
theorem dX5_found_21 : decode cX5_found 21 = .ok (.iconst 1, 1) := by decide +kernel
theorem dX5_found_22 : decode cX5_found 22 = .ok (.iadd, 1) := by decide +kernel
theorem dX5_found_23 : decode cX5_found 23 = .ok (.iastore, 1) := by decide +kernel
theorem dX5_found_24 : decode cX5_found 24 = .ok (.bipush (-3), 2) := by decide +kernel
theorem dX5_found_26 : decode cX5_found 26 = .ok (.ireturn, 1) := by decide +kernel
theorem dX5_missed_0 : decode cX5_missed 0 = .ok (.iload_n 1, 1) := by decide +kernel
theorem dX5_missed_1 : decode cX5_missed 1 = .ok (.invokestatic 153, 3) := by decide +kernel
theorem dX5_missed_4 : decode cX5_missed 4 = .ok (.ifCond .eq 15, 3) := by decide +kernel
theorem dX5_missed_7 : decode cX5_missed 7 = .ok (.aload_n 0, 1) := by decide +kernel
theorem dX5_missed_8 : decode cX5_missed 8 = .ok (.getfield 26, 3) := by decide +kernel
theorem dX5_missed_11 : decode cX5_missed 11 = .ok (.iload_n 1, 1) := by decide +kernel
theorem dX5_missed_12 : decode cX5_missed 12 = .ok (.aaload, 1) := by decide +kernel
theorem dX5_missed_13 : decode cX5_missed 13 = .ok (.invokevirtual 159, 3) := by decide +kernel
theorem dX5_missed_16 : decode cX5_missed 16 = .ok (.ifCond .eq 5, 3) := by decide +kernel
theorem dX5_missed_19 : decode cX5_missed 19 = .ok (.iconst 1, 1) := by decide +kernel
theorem dX5_missed_20 : decode cX5_missed 20 = .ok (.ireturn, 1) := by decide +kernel
theorem dX5_missed_21 : decode cX5_missed 21 = .ok (.aload_n 0, 1) := by decide +kernel
theorem dX5_missed_22 : decode cX5_missed 22 = .ok (.getfield 26, 3) := by decide +kernel
theorem dX5_missed_25 : decode cX5_missed 25 = .ok (.iload_n 1, 1) := by decide +kernel
theorem dX5_missed_26 : decode cX5_missed 26 = .ok (.aaload, 1) := by decide +kernel
theorem dX5_missed_27 : decode cX5_missed 27 = .ok (.iload_n 2, 1) := by decide +kernel
theorem dX5_missed_28 : decode cX5_missed 28 = .ok (.invokevirtual 252, 3) := by decide +kernel
theorem dX5_missed_31 : decode cX5_missed 31 = .ok (.ifCond .eq 7, 3) := by decide +kernel
theorem dX5_missed_34 : decode cX5_missed 34 = .ok (.iconst 0, 1) := by decide +kernel
theorem dX5_missed_35 : decode cX5_missed 35 = .ok (.goto 4, 3) := by decide +kernel
theorem dX5_missed_38 : decode cX5_missed 38 = .ok (.iconst 3, 1) := by decide +kernel
theorem dX5_missed_39 : decode cX5_missed 39 = .ok (.ireturn, 1) := by decide +kernel
theorem dX5_lacksOneOf_0 : decode cX5_lacksOneOf 0 = .ok (.iconst 0, 1) := by decide +kernel
theorem dX5_lacksOneOf_1 : decode cX5_lacksOneOf 1 = .ok (.istore_n 2, 1) := by decide +kernel
theorem dX5_lacksOneOf_2 : decode cX5_lacksOneOf 2 = .ok (.iload_n 2, 1) := by decide +kernel
theorem dX5_lacksOneOf_3 : decode cX5_lacksOneOf 3 = .ok (.bipush 6, 2) := by decide +kernel
theorem dX5_lacksOneOf_5 : decode cX5_lacksOneOf 5 = .ok (.if_icmp .ge 31, 3) := by decide +kernel
theorem dX5_lacksOneOf_8 : decode cX5_lacksOneOf 8 = .ok (.iload_n 1, 1) := by decide +kernel
theorem dX5_lacksOneOf_9 : decode cX5_lacksOneOf 9 = .ok (.iload_n 2, 1) := by decide +kernel
theorem dX5_lacksOneOf_10 : decode cX5_lacksOneOf 10 = .ok (.invokestatic 344, 3) := by decide +kernel
theorem dX5_lacksOneOf_13 : decode cX5_lacksOneOf 13 = .ok (.ifCond .eq 17, 3) := by decide +kernel
theorem dX5_lacksOneOf_16 : decode cX5_lacksOneOf 16 = .ok (.aload_n 0, 1) := by decide +kernel
theorem dX5_lacksOneOf_17 : decode cX5_lacksOneOf 17 = .ok (.getfield 20, 3) := by decide +kernel
theorem dX5_lacksOneOf_20 : decode cX5_lacksOneOf 20 = .ok (.iload_n 2, 1) := by decide +kernel
theorem dX5_lacksOneOf_21 : decode cX5_lacksOneOf 21 = .ok (.aaload, 1) := by decide +kernel
theorem dX5_lacksOneOf_22 : decode cX5_lacksOneOf 22 = .ok (.invokevirtual 139, 3) := by decide +kernel
theorem dX5_lacksOneOf_25 : decode cX5_lacksOneOf 25 = .ok (.ifCond .eq 5, 3) := by decide +kernel
theorem dX5_lacksOneOf_28 : decode cX5_lacksOneOf 28 = .ok (.iconst 1, 1) := by decide +kernel
theorem dX5_lacksOneOf_29 : decode cX5_lacksOneOf 29 = .ok (.ireturn, 1) := by decide +kernel
theorem dX5_lacksOneOf_30 : decode cX5_lacksOneOf 30 = .ok (.iinc 2 1, 3) := by decide +kernel
theorem dX5_lacksOneOf_33 : decode cX5_lacksOneOf 33 = .ok (.goto (-31), 3) := by decide +kernel
theorem dX5_lacksOneOf_36 : decode cX5_lacksOneOf 36 = .ok (.iconst 0, 1) := by decide +kernel
theorem dX5_lacksOneOf_37 : decode cX5_lacksOneOf 37 = .ok (.ireturn, 1) := by decide +kernel
theorem dX5_holds_0 : decode cX5_holds 0 = .ok (.iload_n 0, 1) := by decide +kernel
theorem dX5_holds_1 : decode cX5_holds 1 = .ok (.iload_n 1, 1) := by decide +kernel
theorem dX5_holds_2 : decode cX5_holds 2 = .ok (.ishr, 1) := by decide +kernel
theorem dX5_holds_3 : decode cX5_holds 3 = .ok (.iconst 1, 1) := by decide +kernel
theorem dX5_holds_4 : decode cX5_holds 4 = .ok (.iand, 1) := by decide +kernel
theorem dX5_holds_5 : decode cX5_holds 5 = .ok (.ifCond .eq 7, 3) := by decide +kernel
theorem dX5_holds_8 : decode cX5_holds 8 = .ok (.iconst 1, 1) := by decide +kernel
theorem dX5_holds_9 : decode cX5_holds 9 = .ok (.goto 4, 3) := by decide +kernel
theorem dX5_holds_12 : decode cX5_holds 12 = .ok (.iconst 0, 1) := by decide +kernel
theorem dX5_holds_13 : decode cX5_holds 13 = .ok (.ireturn, 1) := by decide +kernel
theorem dX5_tell_0 : decode cX5_tell 0 = .ok (.lconst 1, 1) := by decide +kernel
theorem dX5_tell_1 : decode cX5_tell 1 = .ok (.lload_n 1, 1) := by decide +kernel
theorem dX5_tell_2 : decode cX5_tell 2 = .ok (.lload_n 3, 1) := by decide +kernel
theorem dX5_tell_3 : decode cX5_tell 3 = .ok (.invokestatic 347, 3) := by decide +kernel
theorem dX5_tell_6 : decode cX5_tell 6 = .ok (.invokestatic 350, 3) := by decide +kernel
theorem dX5_tell_9 : decode cX5_tell 9 = .ok (.lstore 5, 2) := by decide +kernel
theorem dX5_tell_11 : decode cX5_tell 11 = .ok (.aload_n 0, 1) := by decide +kernel
theorem dX5_tell_12 : decode cX5_tell 12 = .ok (.lload_n 1, 1) := by decide +kernel
theorem dX5_tell_13 : decode cX5_tell 13 = .ok (.lload 5, 2) := by decide +kernel
theorem dX5_tell_15 : decode cX5_tell 15 = .ok (.ldiv, 1) := by decide +kernel
theorem dX5_tell_16 : decode cX5_tell 16 = .ok (.putfield 67, 3) := by decide +kernel
theorem dX5_tell_19 : decode cX5_tell 19 = .ok (.aload_n 0, 1) := by decide +kernel
theorem dX5_tell_20 : decode cX5_tell 20 = .ok (.lload_n 3, 1) := by decide +kernel
theorem dX5_tell_21 : decode cX5_tell 21 = .ok (.lload 5, 2) := by decide +kernel
theorem dX5_tell_23 : decode cX5_tell 23 = .ok (.ldiv, 1) := by decide +kernel
theorem dX5_tell_24 : decode cX5_tell 24 = .ok (.putfield 71, 3) := by decide +kernel
theorem dX5_tell_27 : decode cX5_tell 27 = .ok (.return_, 1) := by decide +kernel
theorem dX5_countOfKind_0 : decode cX5_countOfKind 0 = .ok (.iconst 0, 1) := by decide +kernel
theorem dX5_countOfKind_1 : decode cX5_countOfKind 1 = .ok (.istore_n 2, 1) := by decide +kernel
theorem dX5_countOfKind_2 : decode cX5_countOfKind 2 = .ok (.iconst 0, 1) := by decide +kernel
theorem dX5_countOfKind_3 : decode cX5_countOfKind 3 = .ok (.istore_n 3, 1) := by decide +kernel
theorem dX5_countOfKind_4 : decode cX5_countOfKind 4 = .ok (.iload_n 3, 1) := by decide +kernel
theorem dX5_countOfKind_5 : decode cX5_countOfKind 5 = .ok (.iconst 4, 1) := by decide +kernel
theorem dX5_countOfKind_6 : decode cX5_countOfKind 6 = .ok (.if_icmp .ge 25, 3) := by decide +kernel
theorem dX5_countOfKind_9 : decode cX5_countOfKind 9 = .ok (.aload_n 0, 1) := by decide +kernel
theorem dX5_countOfKind_10 : decode cX5_countOfKind 10 = .ok (.getfield 26, 3) := by decide +kernel
theorem dX5_countOfKind_13 : decode cX5_countOfKind 13 = .ok (.iload_n 3, 1) := by decide +kernel
theorem dX5_countOfKind_14 : decode cX5_countOfKind 14 = .ok (.aaload, 1) := by decide +kernel
theorem dX5_countOfKind_15 : decode cX5_countOfKind 15 = .ok (.iload_n 1, 1) := by decide +kernel
theorem dX5_countOfKind_16 : decode cX5_countOfKind 16 = .ok (.invokevirtual 252, 3) := by decide +kernel
theorem dX5_countOfKind_19 : decode cX5_countOfKind 19 = .ok (.ifCond .eq 6, 3) := by decide +kernel
theorem dX5_countOfKind_22 : decode cX5_countOfKind 22 = .ok (.iinc 2 1, 3) := by decide +kernel
theorem dX5_countOfKind_25 : decode cX5_countOfKind 25 = .ok (.iinc 3 1, 3) := by decide +kernel
theorem dX5_countOfKind_28 : decode cX5_countOfKind 28 = .ok (.goto (-24), 3) := by decide +kernel
theorem dX5_countOfKind_31 : decode cX5_countOfKind 31 = .ok (.iload_n 2, 1) := by decide +kernel
theorem dX5_countOfKind_32 : decode cX5_countOfKind 32 = .ok (.ireturn, 1) := by decide +kernel
theorem dX5_countOfStuffs_0 : decode cX5_countOfStuffs 0 = .ok (.iconst 0, 1) := by decide +kernel
theorem dX5_countOfStuffs_1 : decode cX5_countOfStuffs 1 = .ok (.istore_n 1, 1) := by decide +kernel
theorem dX5_countOfStuffs_2 : decode cX5_countOfStuffs 2 = .ok (.iconst 0, 1) := by decide +kernel
theorem dX5_countOfStuffs_3 : decode cX5_countOfStuffs 3 = .ok (.istore_n 2, 1) := by decide +kernel
theorem dX5_countOfStuffs_4 : decode cX5_countOfStuffs 4 = .ok (.iload_n 2, 1) := by decide +kernel
theorem dX5_countOfStuffs_5 : decode cX5_countOfStuffs 5 = .ok (.bipush 6, 2) := by decide +kernel
theorem dX5_countOfStuffs_7 : decode cX5_countOfStuffs 7 = .ok (.if_icmp .ge 24, 3) := by decide +kernel
theorem dX5_countOfStuffs_10 : decode cX5_countOfStuffs 10 = .ok (.aload_n 0, 1) := by decide +kernel
theorem dX5_countOfStuffs_11 : decode cX5_countOfStuffs 11 = .ok (.getfield 20, 3) := by decide +kernel
theorem dX5_countOfStuffs_14 : decode cX5_countOfStuffs 14 = .ok (.iload_n 2, 1) := by decide +kernel
theorem dX5_countOfStuffs_15 : decode cX5_countOfStuffs 15 = .ok (.aaload, 1) := by decide +kernel
theorem dX5_countOfStuffs_16 : decode cX5_countOfStuffs 16 = .ok (.invokevirtual 139, 3) := by decide +kernel
theorem dX5_countOfStuffs_19 : decode cX5_countOfStuffs 19 = .ok (.ifCond .ne 6, 3) := by decide +kernel
theorem dX5_countOfStuffs_22 : decode cX5_countOfStuffs 22 = .ok (.iinc 1 1, 3) := by decide +kernel
theorem dX5_countOfStuffs_25 : decode cX5_countOfStuffs 25 = .ok (.iinc 2 1, 3) := by decide +kernel
theorem dX5_countOfStuffs_28 : decode cX5_countOfStuffs 28 = .ok (.goto (-24), 3) := by decide +kernel
theorem dX5_countOfStuffs_31 : decode cX5_countOfStuffs 31 = .ok (.iload_n 1, 1) := by decide +kernel
theorem dX5_countOfStuffs_32 : decode cX5_countOfStuffs 32 = .ok (.ireturn, 1) := by decide +kernel
theorem dX5_countOfRows_0 : decode cX5_countOfRows 0 = .ok (.iconst 0, 1) := by decide +kernel
theorem dX5_countOfRows_1 : decode cX5_countOfRows 1 = .ok (.istore_n 1, 1) := by decide +kernel
theorem dX5_countOfRows_2 : decode cX5_countOfRows 2 = .ok (.iconst 0, 1) := by decide +kernel
theorem dX5_countOfRows_3 : decode cX5_countOfRows 3 = .ok (.istore_n 2, 1) := by decide +kernel
theorem dX5_countOfRows_4 : decode cX5_countOfRows 4 = .ok (.iload_n 2, 1) := by decide +kernel
theorem dX5_countOfRows_5 : decode cX5_countOfRows 5 = .ok (.aload_n 0, 1) := by decide +kernel
theorem dX5_countOfRows_6 : decode cX5_countOfRows 6 = .ok (.arraylength, 1) := by decide +kernel
theorem dX5_countOfRows_7 : decode cX5_countOfRows 7 = .ok (.if_icmp .ge 21, 3) := by decide +kernel
theorem dX5_countOfRows_10 : decode cX5_countOfRows 10 = .ok (.aload_n 0, 1) := by decide +kernel
theorem dX5_countOfRows_11 : decode cX5_countOfRows 11 = .ok (.iload_n 2, 1) := by decide +kernel
theorem dX5_countOfRows_12 : decode cX5_countOfRows 12 = .ok (.aaload, 1) := by decide +kernel
theorem dX5_countOfRows_13 : decode cX5_countOfRows 13 = .ok (.invokevirtual 91, 3) := by decide +kernel
theorem dX5_countOfRows_16 : decode cX5_countOfRows 16 = .ok (.ifCond .ne 6, 3) := by decide +kernel
theorem dX5_countOfRows_19 : decode cX5_countOfRows 19 = .ok (.iinc 1 1, 3) := by decide +kernel
theorem dX5_countOfRows_22 : decode cX5_countOfRows 22 = .ok (.iinc 2 1, 3) := by decide +kernel
theorem dX5_countOfRows_25 : decode cX5_countOfRows 25 = .ok (.goto (-21), 3) := by decide +kernel
theorem dX5_countOfRows_28 : decode cX5_countOfRows 28 = .ok (.iload_n 1, 1) := by decide +kernel
theorem dX5_countOfRows_29 : decode cX5_countOfRows 29 = .ok (.ireturn, 1) := by decide +kernel
theorem dX5_mix_0 : decode cX5_mix 0 = .ok (.ldc2_w 352, 3) := by decide +kernel
theorem dX5_mix_3 : decode cX5_mix 3 = .ok (.lload_n 0, 1) := by decide +kernel
theorem dX5_mix_4 : decode cX5_mix 4 = .ok (.lmul, 1) := by decide +kernel
theorem dX5_mix_5 : decode cX5_mix 5 = .ok (.lload_n 2, 1) := by decide +kernel
theorem dX5_mix_6 : decode cX5_mix 6 = .ok (.ladd, 1) := by decide +kernel
theorem dX5_mix_7 : decode cX5_mix 7 = .ok (.lreturn, 1) := by decide +kernel
theorem dX5_cut_0 : decode cX5_cut 0 = .ok (.lload_n 2, 1) := by decide +kernel
theorem dX5_cut_1 : decode cX5_cut 1 = .ok (.lconst 1, 1) := by decide +kernel
theorem dX5_cut_2 : decode cX5_cut 2 = .ok (.lcmp, 1) := by decide +kernel
theorem dX5_cut_3 : decode cX5_cut 3 = .ok (.ifCond .ge 7, 3) := by decide +kernel
theorem dX5_cut_6 : decode cX5_cut 6 = .ok (.lconst 0, 1) := by decide +kernel
theorem dX5_cut_7 : decode cX5_cut 7 = .ok (.goto 6, 3) := by decide +kernel
theorem dX5_cut_10 : decode cX5_cut 10 = .ok (.lload_n 0, 1) := by decide +kernel
theorem dX5_cut_11 : decode cX5_cut 11 = .ok (.lload_n 2, 1) := by decide +kernel
theorem dX5_cut_12 : decode cX5_cut 12 = .ok (.ldiv, 1) := by decide +kernel
theorem dX5_cut_13 : decode cX5_cut 13 = .ok (.lreturn, 1) := by decide +kernel
theorem dX5_commonDivisor_0 : decode cX5_commonDivisor 0 = .ok (.lload_n 0, 1) := by decide +kernel
theorem dX5_commonDivisor_1 : decode cX5_commonDivisor 1 = .ok (.lstore 4, 2) := by decide +kernel
theorem dX5_commonDivisor_3 : decode cX5_commonDivisor 3 = .ok (.lload_n 2, 1) := by decide +kernel
theorem dX5_commonDivisor_4 : decode cX5_commonDivisor 4 = .ok (.lstore 6, 2) := by decide +kernel
theorem dX5_commonDivisor_6 : decode cX5_commonDivisor 6 = .ok (.iconst 0, 1) := by decide +kernel
theorem dX5_commonDivisor_7 : decode cX5_commonDivisor 7 = .ok (.istore 8, 2) := by decide +kernel
theorem dX5_commonDivisor_9 : decode cX5_commonDivisor 9 = .ok (.iload 8, 2) := by decide +kernel
theorem dX5_commonDivisor_11 : decode cX5_commonDivisor 11 = .ok (.sipush 200, 3) := by decide +kernel
theorem dX5_commonDivisor_14 : decode cX5_commonDivisor 14 = .ok (.if_icmp .ge 31, 3) := by decide +kernel
theorem dX5_commonDivisor_17 : decode cX5_commonDivisor 17 = .ok (.lload 6, 2) := by decide +kernel
theorem dX5_commonDivisor_19 : decode cX5_commonDivisor 19 = .ok (.lconst 0, 1) := by decide +kernel
theorem dX5_commonDivisor_20 : decode cX5_commonDivisor 20 = .ok (.lcmp, 1) := by decide +kernel
theorem dX5_commonDivisor_21 : decode cX5_commonDivisor 21 = .ok (.ifCond .eq 24, 3) := by decide +kernel
theorem dX5_commonDivisor_24 : decode cX5_commonDivisor 24 = .ok (.lload 4, 2) := by decide +kernel
theorem dX5_commonDivisor_26 : decode cX5_commonDivisor 26 = .ok (.lload 6, 2) := by decide +kernel
theorem dX5_commonDivisor_28 : decode cX5_commonDivisor 28 = .ok (.lrem, 1) := by decide +kernel
theorem dX5_commonDivisor_29 : decode cX5_commonDivisor 29 = .ok (.lstore 9, 2) := by decide +kernel
theorem dX5_commonDivisor_31 : decode cX5_commonDivisor 31 = .ok (.lload 6, 2) := by decide +kernel
theorem dX5_commonDivisor_33 : decode cX5_commonDivisor 33 = .ok (.lstore 4, 2) := by decide +kernel
theorem dX5_commonDivisor_35 : decode cX5_commonDivisor 35 = .ok (.lload 9, 2) := by decide +kernel
theorem dX5_commonDivisor_37 : decode cX5_commonDivisor 37 = .ok (.lstore 6, 2) := by decide +kernel
theorem dX5_commonDivisor_39 : decode cX5_commonDivisor 39 = .ok (.iinc 8 1, 3) := by decide +kernel
theorem dX5_commonDivisor_42 : decode cX5_commonDivisor 42 = .ok (.goto (-33), 3) := by decide +kernel
theorem dX5_commonDivisor_45 : decode cX5_commonDivisor 45 = .ok (.lload 4, 2) := by decide +kernel
theorem dX5_commonDivisor_47 : decode cX5_commonDivisor 47 = .ok (.lreturn, 1) := by decide +kernel
theorem dX5_picks_0 : decode cX5_picks 0 = .ok (.iload_n 1, 1) := by decide +kernel
theorem dX5_picks_1 : decode cX5_picks 1 = .ok (.ifCond .lt 8, 3) := by decide +kernel
theorem dX5_picks_4 : decode cX5_picks 4 = .ok (.iload_n 1, 1) := by decide +kernel
theorem dX5_picks_5 : decode cX5_picks 5 = .ok (.iload_n 0, 1) := by decide +kernel
theorem dX5_picks_6 : decode cX5_picks 6 = .ok (.if_icmp .le 5, 3) := by decide +kernel
theorem dX5_picks_9 : decode cX5_picks 9 = .ok (.lconst 0, 1) := by decide +kernel
theorem dX5_picks_10 : decode cX5_picks 10 = .ok (.lreturn, 1) := by decide +kernel
theorem dX5_picks_11 : decode cX5_picks 11 = .ok (.lconst 1, 1) := by decide +kernel
theorem dX5_picks_12 : decode cX5_picks 12 = .ok (.lstore_n 2, 1) := by decide +kernel
theorem dX5_picks_13 : decode cX5_picks 13 = .ok (.iconst 0, 1) := by decide +kernel
theorem dX5_picks_14 : decode cX5_picks 14 = .ok (.istore 4, 2) := by decide +kernel
theorem dX5_picks_16 : decode cX5_picks 16 = .ok (.iload 4, 2) := by decide +kernel
theorem dX5_picks_18 : decode cX5_picks 18 = .ok (.iload_n 1, 1) := by decide +kernel
theorem dX5_picks_19 : decode cX5_picks 19 = .ok (.if_icmp .ge 23, 3) := by decide +kernel
theorem dX5_picks_22 : decode cX5_picks 22 = .ok (.lload_n 2, 1) := by decide +kernel
theorem dX5_picks_23 : decode cX5_picks 23 = .ok (.iload_n 0, 1) := by decide +kernel
theorem dX5_picks_24 : decode cX5_picks 24 = .ok (.iload 4, 2) := by decide +kernel
theorem dX5_picks_26 : decode cX5_picks 26 = .ok (.isub, 1) := by decide +kernel
theorem dX5_picks_27 : decode cX5_picks 27 = .ok (.i2l, 1) := by decide +kernel
theorem dX5_picks_28 : decode cX5_picks 28 = .ok (.lmul, 1) := by decide +kernel
theorem dX5_picks_29 : decode cX5_picks 29 = .ok (.iload 4, 2) := by decide +kernel
theorem dX5_picks_31 : decode cX5_picks 31 = .ok (.iconst 1, 1) := by decide +kernel
theorem dX5_picks_32 : decode cX5_picks 32 = .ok (.iadd, 1) := by decide +kernel
theorem dX5_picks_33 : decode cX5_picks 33 = .ok (.i2l, 1) := by decide +kernel
theorem dX5_picks_34 : decode cX5_picks 34 = .ok (.ldiv, 1) := by decide +kernel
theorem dX5_picks_35 : decode cX5_picks 35 = .ok (.lstore_n 2, 1) := by decide +kernel
theorem dX5_picks_36 : decode cX5_picks 36 = .ok (.iinc 4 1, 3) := by decide +kernel
theorem dX5_picks_39 : decode cX5_picks 39 = .ok (.goto (-23), 3) := by decide +kernel
theorem dX5_picks_42 : decode cX5_picks 42 = .ok (.lload_n 2, 1) := by decide +kernel
theorem dX5_picks_43 : decode cX5_picks 43 = .ok (.lreturn, 1) := by decide +kernel
theorem dX5_stuffOf_0 : decode cX5_stuffOf 0 = .ok (.aload_n 0, 1) := by decide +kernel
theorem dX5_stuffOf_1 : decode cX5_stuffOf 1 = .ok (.getfield 20, 3) := by decide +kernel
theorem dX5_stuffOf_4 : decode cX5_stuffOf 4 = .ok (.aload_n 1, 1) := by decide +kernel
theorem dX5_stuffOf_5 : decode cX5_stuffOf 5 = .ok (.getfield 354, 3) := by decide +kernel
theorem dX5_stuffOf_8 : decode cX5_stuffOf 8 = .ok (.invokestatic 121, 3) := by decide +kernel
theorem dX5_stuffOf_11 : decode cX5_stuffOf 11 = .ok (.ifCond .eq 10, 3) := by decide +kernel
theorem dX5_stuffOf_14 : decode cX5_stuffOf 14 = .ok (.aload_n 1, 1) := by decide +kernel
theorem dX5_stuffOf_15 : decode cX5_stuffOf 15 = .ok (.getfield 354, 3) := by decide +kernel
theorem dX5_stuffOf_18 : decode cX5_stuffOf 18 = .ok (.goto 4, 3) := by decide +kernel
theorem dX5_stuffOf_21 : decode cX5_stuffOf 21 = .ok (.iconst 0, 1) := by decide +kernel
theorem dX5_stuffOf_22 : decode cX5_stuffOf 22 = .ok (.aaload, 1) := by decide +kernel
theorem dX5_stuffOf_23 : decode cX5_stuffOf 23 = .ok (.areturn, 1) := by decide +kernel
theorem dX5_layOut_0 : decode cX5_layOut 0 = .ok (.iconst 0, 1) := by decide +kernel
theorem dX5_layOut_1 : decode cX5_layOut 1 = .ok (.istore_n 1, 1) := by decide +kernel
theorem dX5_layOut_2 : decode cX5_layOut 2 = .ok (.iload_n 1, 1) := by decide +kernel
theorem dX5_layOut_3 : decode cX5_layOut 3 = .ok (.iconst 4, 1) := by decide +kernel
theorem dX5_layOut_4 : decode cX5_layOut 4 = .ok (.if_icmp .ge 36, 3) := by decide +kernel
theorem dX5_layOut_7 : decode cX5_layOut 7 = .ok (.aload_n 0, 1) := by decide +kernel
theorem dX5_layOut_8 : decode cX5_layOut 8 = .ok (.getfield 26, 3) := by decide +kernel
theorem dX5_layOut_11 : decode cX5_layOut 11 = .ok (.iload_n 1, 1) := by decide +kernel
theorem dX5_layOut_12 : decode cX5_layOut 12 = .ok (.aaload, 1) := by decide +kernel
theorem dX5_layOut_13 : decode cX5_layOut 13 = .ok (.astore_n 2, 1) := by decide +kernel
theorem dX5_layOut_14 : decode cX5_layOut 14 = .ok (.aload_n 0, 1) := by decide +kernel
theorem dX5_layOut_15 : decode cX5_layOut 15 = .ok (.getfield 50, 3) := by decide +kernel
theorem dX5_layOut_18 : decode cX5_layOut 18 = .ok (.iload_n 1, 1) := by decide +kernel
theorem dX5_layOut_19 : decode cX5_layOut 19 = .ok (.aload_n 2, 1) := by decide +kernel
theorem dX5_layOut_20 : decode cX5_layOut 20 = .ok (.aload_n 0, 1) := by decide +kernel
theorem dX5_layOut_21 : decode cX5_layOut 21 = .ok (.getfield 30, 3) := by decide +kernel
theorem dX5_layOut_24 : decode cX5_layOut 24 = .ok (.iload_n 1, 1) := by decide +kernel
theorem dX5_layOut_25 : decode cX5_layOut 25 = .ok (.iaload, 1) := by decide +kernel
theorem dX5_layOut_26 : decode cX5_layOut 26 = .ok (.aload_n 0, 1) := by decide +kernel
theorem dX5_layOut_27 : decode cX5_layOut 27 = .ok (.aload_n 2, 1) := by decide +kernel
theorem dX5_layOut_28 : decode cX5_layOut 28 = .ok (.invokevirtual 228, 3) := by decide +kernel
theorem dX5_layOut_31 : decode cX5_layOut 31 = .ok (.invokevirtual 357, 3) := by decide +kernel
theorem dX5_layOut_34 : decode cX5_layOut 34 = .ok (.iinc 1 1, 3) := by decide +kernel
theorem dX5_layOut_37 : decode cX5_layOut 37 = .ok (.goto (-35), 3) := by decide +kernel
theorem dX5_layOut_40 : decode cX5_layOut 40 = .ok (.aload_n 0, 1) := by decide +kernel
theorem dX5_layOut_41 : decode cX5_layOut 41 = .ok (.getfield 50, 3) := by decide +kernel
theorem dX5_layOut_44 : decode cX5_layOut 44 = .ok (.aload_n 0, 1) := by decide +kernel
theorem dX5_layOut_45 : decode cX5_layOut 45 = .ok (.getfield 37, 3) := by decide +kernel
theorem dX5_layOut_48 : decode cX5_layOut 48 = .ok (.iconst 0, 1) := by decide +kernel
theorem dX5_layOut_49 : decode cX5_layOut 49 = .ok (.iaload, 1) := by decide +kernel
theorem dX5_layOut_50 : decode cX5_layOut 50 = .ok (.putfield 361, 3) := by decide +kernel
theorem dX5_layOut_53 : decode cX5_layOut 53 = .ok (.aload_n 0, 1) := by decide +kernel
theorem dX5_layOut_54 : decode cX5_layOut 54 = .ok (.getfield 50, 3) := by decide +kernel
theorem dX5_layOut_57 : decode cX5_layOut 57 = .ok (.aload_n 0, 1) := by decide +kernel
theorem dX5_layOut_58 : decode cX5_layOut 58 = .ok (.getfield 37, 3) := by decide +kernel
theorem dX5_layOut_61 : decode cX5_layOut 61 = .ok (.iconst 1, 1) := by decide +kernel
theorem dX5_layOut_62 : decode cX5_layOut 62 = .ok (.iaload, 1) := by decide +kernel
theorem dX5_layOut_63 : decode cX5_layOut 63 = .ok (.putfield 364, 3) := by decide +kernel
theorem dX5_layOut_66 : decode cX5_layOut 66 = .ok (.aload_n 0, 1) := by decide +kernel
theorem dX5_layOut_67 : decode cX5_layOut 67 = .ok (.getfield 50, 3) := by decide +kernel
theorem dX5_layOut_70 : decode cX5_layOut 70 = .ok (.aload_n 0, 1) := by decide +kernel
theorem dX5_layOut_71 : decode cX5_layOut 71 = .ok (.getfield 37, 3) := by decide +kernel
theorem dX5_layOut_74 : decode cX5_layOut 74 = .ok (.iconst 2, 1) := by decide +kernel
theorem dX5_layOut_75 : decode cX5_layOut 75 = .ok (.iaload, 1) := by decide +kernel
theorem dX5_layOut_76 : decode cX5_layOut 76 = .ok (.putfield 367, 3) := by decide +kernel
theorem dX5_layOut_79 : decode cX5_layOut 79 = .ok (.return_, 1) := by decide +kernel
theorem dX5_settleAsIs_0 : decode cX5_settleAsIs 0 = .ok (.aload_n 0, 1) := by decide +kernel
theorem dX5_settleAsIs_1 : decode cX5_settleAsIs 1 = .ok (.invokevirtual 303, 3) := by decide +kernel
theorem dX5_settleAsIs_4 : decode cX5_settleAsIs 4 = .ok (.aload_n 0, 1) := by decide +kernel
theorem dX5_settleAsIs_5 : decode cX5_settleAsIs 5 = .ok (.getfield 50, 3) := by decide +kernel
theorem dX5_settleAsIs_8 : decode cX5_settleAsIs 8 = .ok (.invokevirtual 309, 3) := by decide +kernel
theorem dX5_settleAsIs_11 : decode cX5_settleAsIs 11 = .ok (.return_, 1) := by decide +kernel
theorem dX5_settleAtEnd_0 : decode cX5_settleAtEnd 0 = .ok (.aload_n 0, 1) := by decide +kernel
theorem dX5_settleAtEnd_1 : decode cX5_settleAtEnd 1 = .ok (.invokevirtual 303, 3) := by decide +kernel
theorem dX5_settleAtEnd_4 : decode cX5_settleAtEnd 4 = .ok (.iconst 0, 1) := by decide +kernel
theorem dX5_settleAtEnd_5 : decode cX5_settleAtEnd 5 = .ok (.istore 4, 2) := by decide +kernel
theorem dX5_settleAtEnd_7 : decode cX5_settleAtEnd 7 = .ok (.iload 4, 2) := by decide +kernel
theorem dX5_settleAtEnd_9 : decode cX5_settleAtEnd 9 = .ok (.iconst 4, 1) := by decide +kernel
theorem dX5_settleAtEnd_10 : decode cX5_settleAtEnd 10 = .ok (.if_icmp .ge 50, 3) := by decide +kernel
theorem dX5_settleAtEnd_13 : decode cX5_settleAtEnd 13 = .ok (.aload_n 0, 1) := by decide +kernel
theorem dX5_settleAtEnd_14 : decode cX5_settleAtEnd 14 = .ok (.getfield 50, 3) := by decide +kernel
theorem dX5_settleAtEnd_17 : decode cX5_settleAtEnd 17 = .ok (.getfield 212, 3) := by decide +kernel
theorem dX5_settleAtEnd_20 : decode cX5_settleAtEnd 20 = .ok (.iload 4, 2) := by decide +kernel
theorem dX5_settleAtEnd_22 : decode cX5_settleAtEnd 22 = .ok (.baload, 1) := by decide +kernel
theorem dX5_settleAtEnd_23 : decode cX5_settleAtEnd 23 = .ok (.ifCond .eq 31, 3) := by decide +kernel
theorem dX5_settleAtEnd_26 : decode cX5_settleAtEnd 26 = .ok (.aload_n 0, 1) := by decide +kernel
theorem dX5_settleAtEnd_27 : decode cX5_settleAtEnd 27 = .ok (.getfield 50, 3) := by decide +kernel
theorem dX5_settleAtEnd_30 : decode cX5_settleAtEnd 30 = .ok (.getfield 370, 3) := by decide +kernel
theorem dX5_settleAtEnd_33 : decode cX5_settleAtEnd 33 = .ok (.iload 4, 2) := by decide +kernel
theorem dX5_settleAtEnd_35 : decode cX5_settleAtEnd 35 = .ok (.dup2, 1) := by decide +kernel
theorem dX5_settleAtEnd_36 : decode cX5_settleAtEnd 36 = .ok (.iaload, 1) := by decide +kernel
theorem dX5_settleAtEnd_37 : decode cX5_settleAtEnd 37 = .ok (.iload_n 1, 1) := by decide +kernel
theorem dX5_settleAtEnd_38 : decode cX5_settleAtEnd 38 = .ok (.iload 4, 2) := by decide +kernel
theorem dX5_settleAtEnd_40 : decode cX5_settleAtEnd 40 = .ok (.invokestatic 344, 3) := by decide +kernel
theorem dX5_settleAtEnd_43 : decode cX5_settleAtEnd 43 = .ok (.ifCond .eq 7, 3) := by decide +kernel
theorem dX5_settleAtEnd_46 : decode cX5_settleAtEnd 46 = .ok (.iload_n 2, 1) := by decide +kernel
theorem dX5_settleAtEnd_47 : decode cX5_settleAtEnd 47 = .ok (.goto 5, 3) := by decide +kernel
theorem dX5_settleAtEnd_50 : decode cX5_settleAtEnd 50 = .ok (.iload_n 2, 1) := by decide +kernel
theorem dX5_settleAtEnd_51 : decode cX5_settleAtEnd 51 = .ok (.ineg, 1) := by decide +kernel
theorem dX5_settleAtEnd_52 : decode cX5_settleAtEnd 52 = .ok (.iadd, 1) := by decide +kernel
theorem dX5_settleAtEnd_53 : decode cX5_settleAtEnd 53 = .ok (.iastore, 1) := by decide +kernel
theorem dX5_settleAtEnd_54 : decode cX5_settleAtEnd 54 = .ok (.iinc 4 1, 3) := by decide +kernel
theorem dX5_settleAtEnd_57 : decode cX5_settleAtEnd 57 = .ok (.goto (-50), 3) := by decide +kernel
theorem dX5_settleAtEnd_60 : decode cX5_settleAtEnd 60 = .ok (.aload_n 0, 1) := by decide +kernel
theorem dX5_settleAtEnd_61 : decode cX5_settleAtEnd 61 = .ok (.getfield 50, 3) := by decide +kernel
theorem dX5_settleAtEnd_64 : decode cX5_settleAtEnd 64 = .ok (.iconst 0, 1) := by decide +kernel
theorem dX5_settleAtEnd_65 : decode cX5_settleAtEnd 65 = .ok (.aload_n 0, 1) := by decide +kernel
theorem dX5_settleAtEnd_66 : decode cX5_settleAtEnd 66 = .ok (.getfield 50, 3) := by decide +kernel
theorem dX5_settleAtEnd_69 : decode cX5_settleAtEnd 69 = .ok (.getfield 361, 3) := by decide +kernel
theorem dX5_settleAtEnd_72 : decode cX5_settleAtEnd 72 = .ok (.iload_n 1, 1) := by decide +kernel
theorem dX5_settleAtEnd_73 : decode cX5_settleAtEnd 73 = .ok (.iconst 4, 1) := by decide +kernel
theorem dX5_settleAtEnd_74 : decode cX5_settleAtEnd 74 = .ok (.invokestatic 344, 3) := by decide +kernel
theorem dX5_settleAtEnd_77 : decode cX5_settleAtEnd 77 = .ok (.ifCond .eq 7, 3) := by decide +kernel
theorem dX5_settleAtEnd_80 : decode cX5_settleAtEnd 80 = .ok (.iload_n 3, 1) := by decide +kernel
theorem dX5_settleAtEnd_81 : decode cX5_settleAtEnd 81 = .ok (.goto 5, 3) := by decide +kernel
theorem dX5_settleAtEnd_84 : decode cX5_settleAtEnd 84 = .ok (.iload_n 3, 1) := by decide +kernel
theorem dX5_settleAtEnd_85 : decode cX5_settleAtEnd 85 = .ok (.ineg, 1) := by decide +kernel
theorem dX5_settleAtEnd_86 : decode cX5_settleAtEnd 86 = .ok (.iadd, 1) := by decide +kernel
theorem dX5_settleAtEnd_87 : decode cX5_settleAtEnd 87 = .ok (.invokestatic 272, 3) := by decide +kernel
theorem dX5_settleAtEnd_90 : decode cX5_settleAtEnd 90 = .ok (.putfield 361, 3) := by decide +kernel
theorem dX5_settleAtEnd_93 : decode cX5_settleAtEnd 93 = .ok (.aload_n 0, 1) := by decide +kernel
theorem dX5_settleAtEnd_94 : decode cX5_settleAtEnd 94 = .ok (.getfield 50, 3) := by decide +kernel
theorem dX5_settleAtEnd_97 : decode cX5_settleAtEnd 97 = .ok (.invokevirtual 309, 3) := by decide +kernel
theorem dX5_settleAtEnd_100 : decode cX5_settleAtEnd 100 = .ok (.return_, 1) := by decide +kernel
theorem dX5_remove_0 : decode cX5_remove 0 = .ok (.iload_n 1, 1) := by decide +kernel
theorem dX5_remove_1 : decode cX5_remove 1 = .ok (.iconst 1, 1) := by decide +kernel
theorem dX5_remove_2 : decode cX5_remove 2 = .ok (.if_icmp .ne 15, 3) := by decide +kernel
theorem dX5_remove_5 : decode cX5_remove 5 = .ok (.aload_n 0, 1) := by decide +kernel
theorem dX5_remove_6 : decode cX5_remove 6 = .ok (.getfield 50, 3) := by decide +kernel
theorem dX5_remove_9 : decode cX5_remove 9 = .ok (.bipush 20, 2) := by decide +kernel
theorem dX5_remove_11 : decode cX5_remove 11 = .ok (.putfield 364, 3) := by decide +kernel
theorem dX5_remove_14 : decode cX5_remove 14 = .ok (.goto 71, 3) := by decide +kernel
theorem dX5_remove_17 : decode cX5_remove 17 = .ok (.iload_n 1, 1) := by decide +kernel
theorem dX5_remove_18 : decode cX5_remove 18 = .ok (.iconst 2, 1) := by decide +kernel
theorem dX5_remove_19 : decode cX5_remove 19 = .ok (.if_icmp .ne 19, 3) := by decide +kernel
theorem dX5_remove_22 : decode cX5_remove 22 = .ok (.aload_n 0, 1) := by decide +kernel
theorem dX5_remove_23 : decode cX5_remove 23 = .ok (.getfield 50, 3) := by decide +kernel
theorem dX5_remove_26 : decode cX5_remove 26 = .ok (.dup, 1) := by decide +kernel
theorem dX5_remove_27 : decode cX5_remove 27 = .ok (.getfield 367, 3) := by decide +kernel
theorem dX5_remove_30 : decode cX5_remove 30 = .ok (.iconst 2, 1) := by decide +kernel
theorem dX5_remove_31 : decode cX5_remove 31 = .ok (.idiv, 1) := by decide +kernel
theorem dX5_remove_32 : decode cX5_remove 32 = .ok (.putfield 367, 3) := by decide +kernel
theorem dX5_remove_35 : decode cX5_remove 35 = .ok (.goto 50, 3) := by decide +kernel
theorem dX5_remove_38 : decode cX5_remove 38 = .ok (.iconst 0, 1) := by decide +kernel
theorem dX5_remove_39 : decode cX5_remove 39 = .ok (.istore_n 2, 1) := by decide +kernel
theorem dX5_remove_40 : decode cX5_remove 40 = .ok (.iload_n 2, 1) := by decide +kernel
theorem dX5_remove_41 : decode cX5_remove 41 = .ok (.iconst 4, 1) := by decide +kernel
theorem dX5_remove_42 : decode cX5_remove 42 = .ok (.if_icmp .ge 43, 3) := by decide +kernel
theorem dX5_remove_45 : decode cX5_remove 45 = .ok (.aload_n 0, 1) := by decide +kernel
theorem dX5_remove_46 : decode cX5_remove 46 = .ok (.getfield 50, 3) := by decide +kernel
theorem dX5_remove_49 : decode cX5_remove 49 = .ok (.getfield 212, 3) := by decide +kernel
theorem dX5_remove_52 : decode cX5_remove 52 = .ok (.iload_n 2, 1) := by decide +kernel
theorem dX5_remove_53 : decode cX5_remove 53 = .ok (.baload, 1) := by decide +kernel
theorem dX5_remove_54 : decode cX5_remove 54 = .ok (.ifCond .eq 25, 3) := by decide +kernel
theorem dX5_remove_57 : decode cX5_remove 57 = .ok (.aload_n 0, 1) := by decide +kernel
theorem dX5_remove_58 : decode cX5_remove 58 = .ok (.getfield 50, 3) := by decide +kernel
theorem dX5_remove_61 : decode cX5_remove 61 = .ok (.getfield 370, 3) := by decide +kernel
theorem dX5_remove_64 : decode cX5_remove 64 = .ok (.iload_n 2, 1) := by decide +kernel
theorem dX5_remove_65 : decode cX5_remove 65 = .ok (.dup2, 1) := by decide +kernel
theorem dX5_remove_66 : decode cX5_remove 66 = .ok (.iaload, 1) := by decide +kernel
theorem dX5_remove_67 : decode cX5_remove 67 = .ok (.iload_n 1, 1) := by decide +kernel
theorem dX5_remove_68 : decode cX5_remove 68 = .ok (.aload_n 0, 1) := by decide +kernel
theorem dX5_remove_69 : decode cX5_remove 69 = .ok (.getfield 26, 3) := by decide +kernel
theorem dX5_remove_72 : decode cX5_remove 72 = .ok (.iload_n 2, 1) := by decide +kernel
theorem dX5_remove_73 : decode cX5_remove 73 = .ok (.aaload, 1) := by decide +kernel
theorem dX5_remove_74 : decode cX5_remove 74 = .ok (.invokestatic 373, 3) := by decide +kernel
theorem dX5_remove_77 : decode cX5_remove 77 = .ok (.iadd, 1) := by decide +kernel
theorem dX5_remove_78 : decode cX5_remove 78 = .ok (.iastore, 1) := by decide +kernel
theorem dX5_remove_79 : decode cX5_remove 79 = .ok (.iinc 2 1, 3) := by decide +kernel
theorem dX5_remove_82 : decode cX5_remove 82 = .ok (.goto (-42), 3) := by decide +kernel
theorem dX5_remove_85 : decode cX5_remove 85 = .ok (.return_, 1) := by decide +kernel
theorem dX5_lostBy_0 : decode cX5_lostBy 0 = .ok (.iload_n 0, 1) := by decide +kernel
theorem dX5_lostBy_1 : decode cX5_lostBy 1 = .ok (.ifCond .ne 17, 3) := by decide +kernel
theorem dX5_lostBy_4 : decode cX5_lostBy 4 = .ok (.iconst 0, 1) := by decide +kernel
theorem dX5_lostBy_5 : decode cX5_lostBy 5 = .ok (.aload_n 1, 1) := by decide +kernel
theorem dX5_lostBy_6 : decode cX5_lostBy 6 = .ok (.invokevirtual 170, 3) := by decide +kernel
theorem dX5_lostBy_9 : decode cX5_lostBy 9 = .ok (.aload_n 1, 1) := by decide +kernel
theorem dX5_lostBy_10 : decode cX5_lostBy 10 = .ok (.getfield 174, 3) := by decide +kernel
theorem dX5_lostBy_13 : decode cX5_lostBy 13 = .ok (.isub, 1) := by decide +kernel
theorem dX5_lostBy_14 : decode cX5_lostBy 14 = .ok (.invokestatic 272, 3) := by decide +kernel
theorem dX5_lostBy_17 : decode cX5_lostBy 17 = .ok (.ireturn, 1) := by decide +kernel
theorem dX5_lostBy_18 : decode cX5_lostBy 18 = .ok (.aload_n 1, 1) := by decide +kernel
theorem dX5_lostBy_19 : decode cX5_lostBy 19 = .ok (.getfield 258, 3) := by decide +kernel
theorem dX5_lostBy_22 : decode cX5_lostBy 22 = .ok (.aload_n 1, 1) := by decide +kernel
theorem dX5_lostBy_23 : decode cX5_lostBy 23 = .ok (.invokevirtual 170, 3) := by decide +kernel
theorem dX5_lostBy_26 : decode cX5_lostBy 26 = .ok (.isub, 1) := by decide +kernel
theorem dX5_lostBy_27 : decode cX5_lostBy 27 = .ok (.ireturn, 1) := by decide +kernel
theorem dX5_spread_0 : decode cX5_spread 0 = .ok (.ldc2_w 377, 3) := by decide +kernel
theorem dX5_spread_3 : decode cX5_spread 3 = .ok (.lstore_n 3, 1) := by decide +kernel
theorem dX5_spread_4 : decode cX5_spread 4 = .ok (.lconst 0, 1) := by decide +kernel
theorem dX5_spread_5 : decode cX5_spread 5 = .ok (.lstore 5, 2) := by decide +kernel
theorem dX5_spread_7 : decode cX5_spread 7 = .ok (.iconst 0, 1) := by decide +kernel
theorem dX5_spread_8 : decode cX5_spread 8 = .ok (.istore 7, 2) := by decide +kernel
theorem dX5_spread_10 : decode cX5_spread 10 = .ok (.iload 7, 2) := by decide +kernel
theorem dX5_spread_12 : decode cX5_spread 12 = .ok (.bipush 6, 2) := by decide +kernel
theorem dX5_spread_14 : decode cX5_spread 14 = .ok (.if_icmp .ge 50, 3) := by decide +kernel
theorem dX5_spread_17 : decode cX5_spread 17 = .ok (.iload_n 1, 1) := by decide +kernel
theorem dX5_spread_18 : decode cX5_spread 18 = .ok (.iload 7, 2) := by decide +kernel
theorem dX5_spread_20 : decode cX5_spread 20 = .ok (.invokestatic 344, 3) := by decide +kernel
theorem dX5_spread_23 : decode cX5_spread 23 = .ok (.ifCond .ne 6, 3) := by decide +kernel
theorem dX5_spread_26 : decode cX5_spread 26 = .ok (.goto 32, 3) := by decide +kernel
theorem dX5_spread_29 : decode cX5_spread 29 = .ok (.aload_n 0, 1) := by decide +kernel
theorem dX5_spread_30 : decode cX5_spread 30 = .ok (.getfield 20, 3) := by decide +kernel
theorem dX5_spread_33 : decode cX5_spread 33 = .ok (.iload 7, 2) := by decide +kernel
theorem dX5_spread_35 : decode cX5_spread 35 = .ok (.aaload, 1) := by decide +kernel
theorem dX5_spread_36 : decode cX5_spread 36 = .ok (.iload_n 2, 1) := by decide +kernel
theorem dX5_spread_37 : decode cX5_spread 37 = .ok (.invokevirtual 143, 3) := by decide +kernel
theorem dX5_spread_40 : decode cX5_spread 40 = .ok (.lstore 8, 2) := by decide +kernel
theorem dX5_spread_42 : decode cX5_spread 42 = .ok (.lload_n 3, 1) := by decide +kernel
theorem dX5_spread_43 : decode cX5_spread 43 = .ok (.lload 8, 2) := by decide +kernel
theorem dX5_spread_45 : decode cX5_spread 45 = .ok (.invokestatic 379, 3) := by decide +kernel
theorem dX5_spread_48 : decode cX5_spread 48 = .ok (.lstore_n 3, 1) := by decide +kernel
theorem dX5_spread_49 : decode cX5_spread 49 = .ok (.lload 5, 2) := by decide +kernel
theorem dX5_spread_51 : decode cX5_spread 51 = .ok (.lload 8, 2) := by decide +kernel
theorem dX5_spread_53 : decode cX5_spread 53 = .ok (.invokestatic 350, 3) := by decide +kernel
theorem dX5_spread_56 : decode cX5_spread 56 = .ok (.lstore 5, 2) := by decide +kernel
theorem dX5_spread_58 : decode cX5_spread 58 = .ok (.iinc 7 1, 3) := by decide +kernel
theorem dX5_spread_61 : decode cX5_spread 61 = .ok (.goto (-51), 3) := by decide +kernel
theorem dX5_spread_64 : decode cX5_spread 64 = .ok (.lload 5, 2) := by decide +kernel
theorem dX5_spread_66 : decode cX5_spread 66 = .ok (.lload_n 3, 1) := by decide +kernel
theorem dX5_spread_67 : decode cX5_spread 67 = .ok (.lsub, 1) := by decide +kernel
theorem dX5_spread_68 : decode cX5_spread 68 = .ok (.lreturn, 1) := by decide +kernel
theorem dX5_listMembers_0 : decode cX5_listMembers 0 = .ok (.iconst 0, 1) := by decide +kernel
theorem dX5_listMembers_1 : decode cX5_listMembers 1 = .ok (.istore_n 2, 1) := by decide +kernel
theorem dX5_listMembers_2 : decode cX5_listMembers 2 = .ok (.iconst 0, 1) := by decide +kernel
theorem dX5_listMembers_3 : decode cX5_listMembers 3 = .ok (.istore_n 3, 1) := by decide +kernel
theorem dX5_listMembers_4 : decode cX5_listMembers 4 = .ok (.iload_n 3, 1) := by decide +kernel
theorem dX5_listMembers_5 : decode cX5_listMembers 5 = .ok (.bipush 6, 2) := by decide +kernel
theorem dX5_listMembers_7 : decode cX5_listMembers 7 = .ok (.if_icmp .ge 27, 3) := by decide +kernel
theorem dX5_listMembers_10 : decode cX5_listMembers 10 = .ok (.iload_n 1, 1) := by decide +kernel
theorem dX5_listMembers_11 : decode cX5_listMembers 11 = .ok (.iload_n 3, 1) := by decide +kernel
theorem dX5_listMembers_12 : decode cX5_listMembers 12 = .ok (.invokestatic 344, 3) := by decide +kernel
theorem dX5_listMembers_15 : decode cX5_listMembers 15 = .ok (.ifCond .eq 13, 3) := by decide +kernel
theorem dX5_listMembers_18 : decode cX5_listMembers 18 = .ok (.aload_n 0, 1) := by decide +kernel
theorem dX5_listMembers_19 : decode cX5_listMembers 19 = .ok (.getfield 54, 3) := by decide +kernel
theorem dX5_listMembers_22 : decode cX5_listMembers 22 = .ok (.iload_n 2, 1) := by decide +kernel
theorem dX5_listMembers_23 : decode cX5_listMembers 23 = .ok (.iinc 2 1, 3) := by decide +kernel
theorem dX5_listMembers_26 : decode cX5_listMembers 26 = .ok (.iload_n 3, 1) := by decide +kernel
theorem dX5_listMembers_27 : decode cX5_listMembers 27 = .ok (.iastore, 1) := by decide +kernel
theorem dX5_listMembers_28 : decode cX5_listMembers 28 = .ok (.iinc 3 1, 3) := by decide +kernel
theorem dX5_listMembers_31 : decode cX5_listMembers 31 = .ok (.goto (-27), 3) := by decide +kernel
theorem dX5_listMembers_34 : decode cX5_listMembers 34 = .ok (.iload_n 2, 1) := by decide +kernel
theorem dX5_listMembers_35 : decode cX5_listMembers 35 = .ok (.ireturn, 1) := by decide +kernel
theorem dX5_cheapest_0 : decode cX5_cheapest 0 = .ok (.aload_n 0, 1) := by decide +kernel
theorem dX5_cheapest_1 : decode cX5_cheapest 1 = .ok (.invokevirtual 303, 3) := by decide +kernel
theorem dX5_cheapest_4 : decode cX5_cheapest 4 = .ok (.ldc_w 267, 3) := by decide +kernel
theorem dX5_cheapest_7 : decode cX5_cheapest 7 = .ok (.istore 4, 2) := by decide +kernel
theorem dX5_cheapest_9 : decode cX5_cheapest 9 = .ok (.iconst 0, 1) := by decide +kernel
theorem dX5_cheapest_10 : decode cX5_cheapest 10 = .ok (.istore 5, 2) := by decide +kernel
theorem dX5_cheapest_12 : decode cX5_cheapest 12 = .ok (.iconst 0, 1) := by decide +kernel
theorem dX5_cheapest_13 : decode cX5_cheapest 13 = .ok (.istore 6, 2) := by decide +kernel
theorem dX5_cheapest_15 : decode cX5_cheapest 15 = .ok (.iload 6, 2) := by decide +kernel
theorem dX5_cheapest_17 : decode cX5_cheapest 17 = .ok (.iload_n 1, 1) := by decide +kernel
theorem dX5_cheapest_18 : decode cX5_cheapest 18 = .ok (.if_icmp .ge 62, 3) := by decide +kernel
theorem dX5_cheapest_21 : decode cX5_cheapest 21 = .ok (.aload_n 0, 1) := by decide +kernel
theorem dX5_cheapest_22 : decode cX5_cheapest 22 = .ok (.iload 6, 2) := by decide +kernel
theorem dX5_cheapest_24 : decode cX5_cheapest 24 = .ok (.iload_n 2, 1) := by decide +kernel
theorem dX5_cheapest_25 : decode cX5_cheapest 25 = .ok (.invokevirtual 381, 3) := by decide +kernel
theorem dX5_cheapest_28 : decode cX5_cheapest 28 = .ok (.istore 7, 2) := by decide +kernel
theorem dX5_cheapest_30 : decode cX5_cheapest 30 = .ok (.aload_n 0, 1) := by decide +kernel
theorem dX5_cheapest_31 : decode cX5_cheapest 31 = .ok (.iload 7, 2) := by decide +kernel
theorem dX5_cheapest_33 : decode cX5_cheapest 33 = .ok (.aload_n 3, 1) := by decide +kernel
theorem dX5_cheapest_34 : decode cX5_cheapest 34 = .ok (.invokevirtual 384, 3) := by decide +kernel
theorem dX5_cheapest_37 : decode cX5_cheapest 37 = .ok (.istore 8, 2) := by decide +kernel
theorem dX5_cheapest_39 : decode cX5_cheapest 39 = .ok (.iload 8, 2) := by decide +kernel
theorem dX5_cheapest_41 : decode cX5_cheapest 41 = .ok (.iload 4, 2) := by decide +kernel
theorem dX5_cheapest_43 : decode cX5_cheapest 43 = .ok (.if_icmp .lt 6, 3) := by decide +kernel
theorem dX5_cheapest_46 : decode cX5_cheapest 46 = .ok (.goto 28, 3) := by decide +kernel
theorem dX5_cheapest_49 : decode cX5_cheapest 49 = .ok (.aload_n 0, 1) := by decide +kernel
theorem dX5_cheapest_50 : decode cX5_cheapest 50 = .ok (.getfield 50, 3) := by decide +kernel
theorem dX5_cheapest_53 : decode cX5_cheapest 53 = .ok (.invokevirtual 309, 3) := by decide +kernel
theorem dX5_cheapest_56 : decode cX5_cheapest 56 = .ok (.aload_n 0, 1) := by decide +kernel
theorem dX5_cheapest_57 : decode cX5_cheapest 57 = .ok (.getfield 50, 3) := by decide +kernel
theorem dX5_cheapest_60 : decode cX5_cheapest 60 = .ok (.invokevirtual 209, 3) := by decide +kernel
theorem dX5_cheapest_63 : decode cX5_cheapest 63 = .ok (.ifCond .ne 11, 3) := by decide +kernel
theorem dX5_cheapest_66 : decode cX5_cheapest 66 = .ok (.iload 8, 2) := by decide +kernel
theorem dX5_cheapest_68 : decode cX5_cheapest 68 = .ok (.istore 4, 2) := by decide +kernel
theorem dX5_cheapest_70 : decode cX5_cheapest 70 = .ok (.iload 7, 2) := by decide +kernel
theorem dX5_cheapest_72 : decode cX5_cheapest 72 = .ok (.istore 5, 2) := by decide +kernel
theorem dX5_cheapest_74 : decode cX5_cheapest 74 = .ok (.iinc 6 1, 3) := by decide +kernel
theorem dX5_cheapest_77 : decode cX5_cheapest 77 = .ok (.goto (-62), 3) := by decide +kernel
theorem dX5_cheapest_80 : decode cX5_cheapest 80 = .ok (.iload 4, 2) := by decide +kernel
theorem dX5_cheapest_82 : decode cX5_cheapest 82 = .ok (.ldc_w 267, 3) := by decide +kernel
theorem dX5_cheapest_85 : decode cX5_cheapest 85 = .ok (.if_icmp .ne 6, 3) := by decide +kernel
theorem dX5_cheapest_88 : decode cX5_cheapest 88 = .ok (.bipush (-9), 2) := by decide +kernel
theorem dX5_cheapest_90 : decode cX5_cheapest 90 = .ok (.ireturn, 1) := by decide +kernel
theorem dX5_cheapest_91 : decode cX5_cheapest 91 = .ok (.aload_n 0, 1) := by decide +kernel
theorem dX5_cheapest_92 : decode cX5_cheapest 92 = .ok (.iload 5, 2) := by decide +kernel
theorem dX5_cheapest_94 : decode cX5_cheapest 94 = .ok (.putfield 64, 3) := by decide +kernel
theorem dX5_cheapest_97 : decode cX5_cheapest 97 = .ok (.iload 4, 2) := by decide +kernel
theorem dX5_cheapest_99 : decode cX5_cheapest 99 = .ok (.ireturn, 1) := by decide +kernel
theorem dX5_dealOut_0 : decode cX5_dealOut 0 = .ok (.iconst 0, 1) := by decide +kernel
theorem dX5_dealOut_1 : decode cX5_dealOut 1 = .ok (.istore_n 3, 1) := by decide +kernel
theorem dX5_dealOut_2 : decode cX5_dealOut 2 = .ok (.iload_n 1, 1) := by decide +kernel
theorem dX5_dealOut_3 : decode cX5_dealOut 3 = .ok (.istore 4, 2) := by decide +kernel
theorem dX5_dealOut_5 : decode cX5_dealOut 5 = .ok (.iconst 3, 1) := by decide +kernel
theorem dX5_dealOut_6 : decode cX5_dealOut 6 = .ok (.istore 5, 2) := by decide +kernel
theorem dX5_dealOut_8 : decode cX5_dealOut 8 = .ok (.iload 5, 2) := by decide +kernel
theorem dX5_dealOut_10 : decode cX5_dealOut 10 = .ok (.ifCond .lt 76, 3) := by decide +kernel
theorem dX5_dealOut_13 : decode cX5_dealOut 13 = .ok (.iload_n 3, 1) := by decide +kernel
theorem dX5_dealOut_14 : decode cX5_dealOut 14 = .ok (.bipush 10, 2) := by decide +kernel
theorem dX5_dealOut_16 : decode cX5_dealOut 16 = .ok (.imul, 1) := by decide +kernel
theorem dX5_dealOut_17 : decode cX5_dealOut 17 = .ok (.istore_n 3, 1) := by decide +kernel
theorem dX5_dealOut_18 : decode cX5_dealOut 18 = .ok (.aload_n 0, 1) := by decide +kernel
theorem dX5_dealOut_19 : decode cX5_dealOut 19 = .ok (.getfield 50, 3) := by decide +kernel
theorem dX5_dealOut_22 : decode cX5_dealOut 22 = .ok (.getfield 212, 3) := by decide +kernel
theorem dX5_dealOut_25 : decode cX5_dealOut 25 = .ok (.iload 5, 2) := by decide +kernel
theorem dX5_dealOut_27 : decode cX5_dealOut 27 = .ok (.baload, 1) := by decide +kernel
theorem dX5_dealOut_28 : decode cX5_dealOut 28 = .ok (.ifCond .eq 52, 3) := by decide +kernel
theorem dX5_dealOut_31 : decode cX5_dealOut 31 = .ok (.iload_n 2, 1) := by decide +kernel
theorem dX5_dealOut_32 : decode cX5_dealOut 32 = .ok (.iconst 1, 1) := by decide +kernel
theorem dX5_dealOut_33 : decode cX5_dealOut 33 = .ok (.if_icmp .ge 6, 3) := by decide +kernel
theorem dX5_dealOut_36 : decode cX5_dealOut 36 = .ok (.goto 44, 3) := by decide +kernel
theorem dX5_dealOut_39 : decode cX5_dealOut 39 = .ok (.aload_n 0, 1) := by decide +kernel
theorem dX5_dealOut_40 : decode cX5_dealOut 40 = .ok (.getfield 54, 3) := by decide +kernel
theorem dX5_dealOut_43 : decode cX5_dealOut 43 = .ok (.iload 4, 2) := by decide +kernel
theorem dX5_dealOut_45 : decode cX5_dealOut 45 = .ok (.iload_n 2, 1) := by decide +kernel
theorem dX5_dealOut_46 : decode cX5_dealOut 46 = .ok (.irem, 1) := by decide +kernel
theorem dX5_dealOut_47 : decode cX5_dealOut 47 = .ok (.iaload, 1) := by decide +kernel
theorem dX5_dealOut_48 : decode cX5_dealOut 48 = .ok (.istore 6, 2) := by decide +kernel
theorem dX5_dealOut_50 : decode cX5_dealOut 50 = .ok (.iload 4, 2) := by decide +kernel
theorem dX5_dealOut_52 : decode cX5_dealOut 52 = .ok (.iload_n 2, 1) := by decide +kernel
theorem dX5_dealOut_53 : decode cX5_dealOut 53 = .ok (.idiv, 1) := by decide +kernel
theorem dX5_dealOut_54 : decode cX5_dealOut 54 = .ok (.istore 4, 2) := by decide +kernel
theorem dX5_dealOut_56 : decode cX5_dealOut 56 = .ok (.aload_n 0, 1) := by decide +kernel
theorem dX5_dealOut_57 : decode cX5_dealOut 57 = .ok (.getfield 50, 3) := by decide +kernel
theorem dX5_dealOut_60 : decode cX5_dealOut 60 = .ok (.getfield 388, 3) := by decide +kernel
theorem dX5_dealOut_63 : decode cX5_dealOut 63 = .ok (.iload 5, 2) := by decide +kernel
theorem dX5_dealOut_65 : decode cX5_dealOut 65 = .ok (.aload_n 0, 1) := by decide +kernel
theorem dX5_dealOut_66 : decode cX5_dealOut 66 = .ok (.getfield 20, 3) := by decide +kernel
theorem dX5_dealOut_69 : decode cX5_dealOut 69 = .ok (.iload 6, 2) := by decide +kernel
theorem dX5_dealOut_71 : decode cX5_dealOut 71 = .ok (.aaload, 1) := by decide +kernel
theorem dX5_dealOut_72 : decode cX5_dealOut 72 = .ok (.aastore, 1) := by decide +kernel
theorem dX5_dealOut_73 : decode cX5_dealOut 73 = .ok (.iload_n 3, 1) := by decide +kernel
theorem dX5_dealOut_74 : decode cX5_dealOut 74 = .ok (.iload 6, 2) := by decide +kernel
theorem dX5_dealOut_76 : decode cX5_dealOut 76 = .ok (.iconst 1, 1) := by decide +kernel
theorem dX5_dealOut_77 : decode cX5_dealOut 77 = .ok (.iadd, 1) := by decide +kernel
theorem dX5_dealOut_78 : decode cX5_dealOut 78 = .ok (.iadd, 1) := by decide +kernel
theorem dX5_dealOut_79 : decode cX5_dealOut 79 = .ok (.istore_n 3, 1) := by decide +kernel
theorem dX5_dealOut_80 : decode cX5_dealOut 80 = .ok (.iinc 5 (-1), 3) := by decide +kernel
theorem dX5_dealOut_83 : decode cX5_dealOut 83 = .ok (.goto (-75), 3) := by decide +kernel
theorem dX5_dealOut_86 : decode cX5_dealOut 86 = .ok (.iload_n 3, 1) := by decide +kernel
theorem dX5_dealOut_87 : decode cX5_dealOut 87 = .ok (.ireturn, 1) := by decide +kernel
theorem dX5_priceOf_0 : decode cX5_priceOf 0 = .ok (.iconst 0, 1) := by decide +kernel
theorem dX5_priceOf_1 : decode cX5_priceOf 1 = .ok (.istore_n 3, 1) := by decide +kernel
theorem dX5_priceOf_2 : decode cX5_priceOf 2 = .ok (.iload_n 1, 1) := by decide +kernel
theorem dX5_priceOf_3 : decode cX5_priceOf 3 = .ok (.istore 4, 2) := by decide +kernel
theorem dX5_priceOf_5 : decode cX5_priceOf 5 = .ok (.iconst 0, 1) := by decide +kernel
theorem dX5_priceOf_6 : decode cX5_priceOf 6 = .ok (.istore 5, 2) := by decide +kernel
theorem dX5_priceOf_8 : decode cX5_priceOf 8 = .ok (.iload 5, 2) := by decide +kernel
theorem dX5_priceOf_10 : decode cX5_priceOf 10 = .ok (.iconst 4, 1) := by decide +kernel
theorem dX5_priceOf_11 : decode cX5_priceOf 11 = .ok (.if_icmp .ge 55, 3) := by decide +kernel
theorem dX5_priceOf_14 : decode cX5_priceOf 14 = .ok (.iload 4, 2) := by decide +kernel
theorem dX5_priceOf_16 : decode cX5_priceOf 16 = .ok (.bipush 10, 2) := by decide +kernel
theorem dX5_priceOf_18 : decode cX5_priceOf 18 = .ok (.irem, 1) := by decide +kernel
theorem dX5_priceOf_19 : decode cX5_priceOf 19 = .ok (.iconst 1, 1) := by decide +kernel
theorem dX5_priceOf_20 : decode cX5_priceOf 20 = .ok (.isub, 1) := by decide +kernel
theorem dX5_priceOf_21 : decode cX5_priceOf 21 = .ok (.istore 6, 2) := by decide +kernel
theorem dX5_priceOf_23 : decode cX5_priceOf 23 = .ok (.aload_n 2, 1) := by decide +kernel
theorem dX5_priceOf_24 : decode cX5_priceOf 24 = .ok (.iload 6, 2) := by decide +kernel
theorem dX5_priceOf_26 : decode cX5_priceOf 26 = .ok (.invokevirtual 95, 3) := by decide +kernel
theorem dX5_priceOf_29 : decode cX5_priceOf 29 = .ok (.ifCond .eq 24, 3) := by decide +kernel
theorem dX5_priceOf_32 : decode cX5_priceOf 32 = .ok (.iload_n 3, 1) := by decide +kernel
theorem dX5_priceOf_33 : decode cX5_priceOf 33 = .ok (.aload_n 2, 1) := by decide +kernel
theorem dX5_priceOf_34 : decode cX5_priceOf 34 = .ok (.getfield 98, 3) := by decide +kernel
theorem dX5_priceOf_37 : decode cX5_priceOf 37 = .ok (.iload 6, 2) := by decide +kernel
theorem dX5_priceOf_39 : decode cX5_priceOf 39 = .ok (.iaload, 1) := by decide +kernel
theorem dX5_priceOf_40 : decode cX5_priceOf 40 = .ok (.aload_n 0, 1) := by decide +kernel
theorem dX5_priceOf_41 : decode cX5_priceOf 41 = .ok (.getfield 26, 3) := by decide +kernel
theorem dX5_priceOf_44 : decode cX5_priceOf 44 = .ok (.iload 5, 2) := by decide +kernel
theorem dX5_priceOf_46 : decode cX5_priceOf 46 = .ok (.aaload, 1) := by decide +kernel
theorem dX5_priceOf_47 : decode cX5_priceOf 47 = .ok (.getfield 235, 3) := by decide +kernel
theorem dX5_priceOf_50 : decode cX5_priceOf 50 = .ok (.imul, 1) := by decide +kernel
theorem dX5_priceOf_51 : decode cX5_priceOf 51 = .ok (.iadd, 1) := by decide +kernel
theorem dX5_priceOf_52 : decode cX5_priceOf 52 = .ok (.istore_n 3, 1) := by decide +kernel
theorem dX5_priceOf_53 : decode cX5_priceOf 53 = .ok (.iload 4, 2) := by decide +kernel
theorem dX5_priceOf_55 : decode cX5_priceOf 55 = .ok (.bipush 10, 2) := by decide +kernel
theorem dX5_priceOf_57 : decode cX5_priceOf 57 = .ok (.idiv, 1) := by decide +kernel
theorem dX5_priceOf_58 : decode cX5_priceOf 58 = .ok (.istore 4, 2) := by decide +kernel
theorem dX5_priceOf_60 : decode cX5_priceOf 60 = .ok (.iinc 5 1, 3) := by decide +kernel
theorem dX5_priceOf_63 : decode cX5_priceOf 63 = .ok (.goto (-55), 3) := by decide +kernel
theorem dX5_priceOf_66 : decode cX5_priceOf 66 = .ok (.iload_n 3, 1) := by decide +kernel
theorem dX5_priceOf_67 : decode cX5_priceOf 67 = .ok (.ireturn, 1) := by decide +kernel
theorem dX5_couldLeakAt_0 : decode cX5_couldLeakAt 0 = .ok (.iconst 1, 1) := by decide +kernel
theorem dX5_couldLeakAt_1 : decode cX5_couldLeakAt 1 = .ok (.istore_n 3, 1) := by decide +kernel
theorem dX5_couldLeakAt_2 : decode cX5_couldLeakAt 2 = .ok (.iload_n 3, 1) := by decide +kernel
theorem dX5_couldLeakAt_3 : decode cX5_couldLeakAt 3 = .ok (.sipush 999, 3) := by decide +kernel
theorem dX5_couldLeakAt_6 : decode cX5_couldLeakAt 6 = .ok (.if_icmp .gt 21, 3) := by decide +kernel
theorem dX5_couldLeakAt_9 : decode cX5_couldLeakAt 9 = .ok (.iload_n 3, 1) := by decide +kernel
theorem dX5_couldLeakAt_10 : decode cX5_couldLeakAt 10 = .ok (.iload_n 0, 1) := by decide +kernel
theorem dX5_couldLeakAt_11 : decode cX5_couldLeakAt 11 = .ok (.aload_n 1, 1) := by decide +kernel
theorem dX5_couldLeakAt_12 : decode cX5_couldLeakAt 12 = .ok (.iload_n 2, 1) := by decide +kernel
theorem dX5_couldLeakAt_13 : decode cX5_couldLeakAt 13 = .ok (.invokestatic 389, 3) := by decide +kernel
theorem dX5_couldLeakAt_16 : decode cX5_couldLeakAt 16 = .ok (.ifCond .eq 5, 3) := by decide +kernel
theorem dX5_couldLeakAt_19 : decode cX5_couldLeakAt 19 = .ok (.iconst 1, 1) := by decide +kernel
theorem dX5_couldLeakAt_20 : decode cX5_couldLeakAt 20 = .ok (.ireturn, 1) := by decide +kernel
theorem dX5_couldLeakAt_21 : decode cX5_couldLeakAt 21 = .ok (.iinc 3 1, 3) := by decide +kernel
theorem dX5_couldLeakAt_24 : decode cX5_couldLeakAt 24 = .ok (.goto (-22), 3) := by decide +kernel
theorem dX5_couldLeakAt_27 : decode cX5_couldLeakAt 27 = .ok (.iconst 0, 1) := by decide +kernel
theorem dX5_couldLeakAt_28 : decode cX5_couldLeakAt 28 = .ok (.ireturn, 1) := by decide +kernel
theorem dX5_sniffsFit_0 : decode cX5_sniffsFit 0 = .ok (.iconst 0, 1) := by decide +kernel
theorem dX5_sniffsFit_1 : decode cX5_sniffsFit 1 = .ok (.istore 4, 2) := by decide +kernel
theorem dX5_sniffsFit_3 : decode cX5_sniffsFit 3 = .ok (.iload 4, 2) := by decide +kernel
theorem dX5_sniffsFit_5 : decode cX5_sniffsFit 5 = .ok (.iconst 4, 1) := by decide +kernel
theorem dX5_sniffsFit_6 : decode cX5_sniffsFit 6 = .ok (.if_icmp .ge 50, 3) := by decide +kernel
theorem dX5_sniffsFit_9 : decode cX5_sniffsFit 9 = .ok (.aload_n 2, 1) := by decide +kernel
theorem dX5_sniffsFit_10 : decode cX5_sniffsFit 10 = .ok (.iload 4, 2) := by decide +kernel
theorem dX5_sniffsFit_12 : decode cX5_sniffsFit 12 = .ok (.invokevirtual 95, 3) := by decide +kernel
theorem dX5_sniffsFit_15 : decode cX5_sniffsFit 15 = .ok (.ifCond .eq 41, 3) := by decide +kernel
theorem dX5_sniffsFit_18 : decode cX5_sniffsFit 18 = .ok (.iload_n 0, 1) := by decide +kernel
theorem dX5_sniffsFit_19 : decode cX5_sniffsFit 19 = .ok (.iload 4, 2) := by decide +kernel
theorem dX5_sniffsFit_21 : decode cX5_sniffsFit 21 = .ok (.iload_n 1, 1) := by decide +kernel
theorem dX5_sniffsFit_22 : decode cX5_sniffsFit 22 = .ok (.isub, 1) := by decide +kernel
theorem dX5_sniffsFit_23 : decode cX5_sniffsFit 23 = .ok (.invokestatic 393, 3) := by decide +kernel
theorem dX5_sniffsFit_26 : decode cX5_sniffsFit 26 = .ok (.iconst 1, 1) := by decide +kernel
theorem dX5_sniffsFit_27 : decode cX5_sniffsFit 27 = .ok (.iadd, 1) := by decide +kernel
theorem dX5_sniffsFit_28 : decode cX5_sniffsFit 28 = .ok (.idiv, 1) := by decide +kernel
theorem dX5_sniffsFit_29 : decode cX5_sniffsFit 29 = .ok (.istore 5, 2) := by decide +kernel
theorem dX5_sniffsFit_31 : decode cX5_sniffsFit 31 = .ok (.iload 5, 2) := by decide +kernel
theorem dX5_sniffsFit_33 : decode cX5_sniffsFit 33 = .ok (.aload_n 2, 1) := by decide +kernel
theorem dX5_sniffsFit_34 : decode cX5_sniffsFit 34 = .ok (.getfield 98, 3) := by decide +kernel
theorem dX5_sniffsFit_37 : decode cX5_sniffsFit 37 = .ok (.iload 4, 2) := by decide +kernel
theorem dX5_sniffsFit_39 : decode cX5_sniffsFit 39 = .ok (.iaload, 1) := by decide +kernel
theorem dX5_sniffsFit_40 : decode cX5_sniffsFit 40 = .ok (.isub, 1) := by decide +kernel
theorem dX5_sniffsFit_41 : decode cX5_sniffsFit 41 = .ok (.invokestatic 393, 3) := by decide +kernel
theorem dX5_sniffsFit_44 : decode cX5_sniffsFit 44 = .ok (.iload_n 3, 1) := by decide +kernel
theorem dX5_sniffsFit_45 : decode cX5_sniffsFit 45 = .ok (.if_icmp .le 5, 3) := by decide +kernel
theorem dX5_sniffsFit_48 : decode cX5_sniffsFit 48 = .ok (.iconst 0, 1) := by decide +kernel
theorem dX5_sniffsFit_49 : decode cX5_sniffsFit 49 = .ok (.ireturn, 1) := by decide +kernel
theorem dX5_sniffsFit_50 : decode cX5_sniffsFit 50 = .ok (.iinc 4 1, 3) := by decide +kernel
theorem dX5_sniffsFit_53 : decode cX5_sniffsFit 53 = .ok (.goto (-50), 3) := by decide +kernel
theorem dX5_sniffsFit_56 : decode cX5_sniffsFit 56 = .ok (.iconst 1, 1) := by decide +kernel
theorem dX5_sniffsFit_57 : decode cX5_sniffsFit 57 = .ok (.ireturn, 1) := by decide +kernel
theorem dX6_in_0 : decode cX6_in 0 = .ok (.iload_n 0, 1) := by decide +kernel
theorem dX6_in_1 : decode cX6_in 1 = .ok (.iload_n 1, 1) := by decide +kernel
theorem dX6_in_2 : decode cX6_in 2 = .ok (.if_icmp .lt 12, 3) := by decide +kernel
theorem dX6_in_5 : decode cX6_in 5 = .ok (.iload_n 0, 1) := by decide +kernel
theorem dX6_in_6 : decode cX6_in 6 = .ok (.iload_n 2, 1) := by decide +kernel
theorem dX6_in_7 : decode cX6_in 7 = .ok (.if_icmp .gt 7, 3) := by decide +kernel
theorem dX6_in_10 : decode cX6_in 10 = .ok (.iconst 1, 1) := by decide +kernel
theorem dX6_in_11 : decode cX6_in 11 = .ok (.goto 4, 3) := by decide +kernel
theorem dX6_in_14 : decode cX6_in 14 = .ok (.iconst 0, 1) := by decide +kernel
theorem dX6_in_15 : decode cX6_in 15 = .ok (.ireturn, 1) := by decide +kernel
theorem dX6_has_0 : decode cX6_has 0 = .ok (.iload_n 0, 1) := by decide +kernel
theorem dX6_has_1 : decode cX6_has 1 = .ok (.iload_n 1, 1) := by decide +kernel
theorem dX6_has_2 : decode cX6_has 2 = .ok (.ishr, 1) := by decide +kernel
theorem dX6_has_3 : decode cX6_has 3 = .ok (.iconst 1, 1) := by decide +kernel
theorem dX6_has_4 : decode cX6_has 4 = .ok (.iand, 1) := by decide +kernel
theorem dX6_has_5 : decode cX6_has 5 = .ok (.iconst 1, 1) := by decide +kernel
theorem dX6_has_6 : decode cX6_has 6 = .ok (.if_icmp .ne 7, 3) := by decide +kernel
theorem dX6_has_9 : decode cX6_has 9 = .ok (.iconst 1, 1) := by decide +kernel
theorem dX6_has_10 : decode cX6_has 10 = .ok (.goto 4, 3) := by decide +kernel
theorem dX6_has_13 : decode cX6_has 13 = .ok (.iconst 0, 1) := by decide +kernel
theorem dX6_has_14 : decode cX6_has 14 = .ok (.ireturn, 1) := by decide +kernel
theorem dX6_meets_0 : decode cX6_meets 0 = .ok (.aload_n 0, 1) := by decide +kernel
theorem dX6_meets_1 : decode cX6_meets 1 = .ok (.iload_n 1, 1) := by decide +kernel
theorem dX6_meets_2 : decode cX6_meets 2 = .ok (.putfield 101, 3) := by decide +kernel
theorem dX6_meets_5 : decode cX6_meets 5 = .ok (.aload_n 0, 1) := by decide +kernel
theorem dX6_meets_6 : decode cX6_meets 6 = .ok (.getfield 7, 3) := by decide +kernel
theorem dX6_meets_9 : decode cX6_meets 9 = .ok (.iload_n 1, 1) := by decide +kernel
theorem dX6_meets_10 : decode cX6_meets 10 = .ok (.dup2, 1) := by decide +kernel
theorem dX6_meets_11 : decode cX6_meets 11 = .ok (.iaload, 1) := by decide +kernel
theorem dX6_meets_12 : decode cX6_meets 12 = .ok (.iconst 1, 1) := by decide +kernel
theorem dX6_meets_13 : decode cX6_meets 13 = .ok (.iadd, 1) := by decide +kernel
theorem dX6_meets_14 : decode cX6_meets 14 = .ok (.iastore, 1) := by decide +kernel
theorem dX6_meets_15 : decode cX6_meets 15 = .ok (.bipush (-3), 2) := by decide +kernel
theorem dX6_meets_17 : decode cX6_meets 17 = .ok (.ireturn, 1) := by decide +kernel
theorem dX6_finding_0 : decode cX6_finding 0 = .ok (.aload_n 0, 1) := by decide +kernel
theorem dX6_finding_1 : decode cX6_finding 1 = .ok (.getfield 101, 3) := by decide +kernel
theorem dX6_finding_4 : decode cX6_finding 4 = .ok (.ireturn, 1) := by decide +kernel
theorem dX6_findings_0 : decode cX6_findings 0 = .ok (.iload_n 1, 1) := by decide +kernel
theorem dX6_findings_1 : decode cX6_findings 1 = .ok (.iconst 1, 1) := by decide +kernel
theorem dX6_findings_2 : decode cX6_findings 2 = .ok (.iconst 5, 1) := by decide +kernel
theorem dX6_findings_3 : decode cX6_findings 3 = .ok (.invokestatic 104, 3) := by decide +kernel
theorem dX6_findings_6 : decode cX6_findings 6 = .ok (.ifCond .eq 12, 3) := by decide +kernel
theorem dX6_findings_9 : decode cX6_findings 9 = .ok (.aload_n 0, 1) := by decide +kernel
theorem dX6_findings_10 : decode cX6_findings 10 = .ok (.getfield 7, 3) := by decide +kernel
theorem dX6_findings_13 : decode cX6_findings 13 = .ok (.iload_n 1, 1) := by decide +kernel
theorem dX6_findings_14 : decode cX6_findings 14 = .ok (.iaload, 1) := by decide +kernel
theorem dX6_findings_15 : decode cX6_findings 15 = .ok (.goto 4, 3) := by decide +kernel
theorem dX6_findings_18 : decode cX6_findings 18 = .ok (.iconst (-1), 1) := by decide +kernel
theorem dX6_findings_19 : decode cX6_findings 19 = .ok (.ireturn, 1) := by decide +kernel
theorem dX6_tells_0 : decode cX6_tells 0 = .ok (.aload_n 0, 1) := by decide +kernel
theorem dX6_tells_1 : decode cX6_tells 1 = .ok (.iload_n 1, 1) := by decide +kernel
theorem dX6_tells_2 : decode cX6_tells 2 = .ok (.putfield 108, 3) := by decide +kernel
theorem dX6_tells_5 : decode cX6_tells 5 = .ok (.iload_n 2, 1) := by decide +kernel
theorem dX6_tells_6 : decode cX6_tells 6 = .ok (.ireturn, 1) := by decide +kernel
theorem dX6_asked_0 : decode cX6_asked 0 = .ok (.aload_n 0, 1) := by decide +kernel
theorem dX6_asked_1 : decode cX6_asked 1 = .ok (.getfield 108, 3) := by decide +kernel
theorem dX6_asked_4 : decode cX6_asked 4 = .ok (.ireturn, 1) := by decide +kernel
theorem dX6_gcd_0 : decode cX6_gcd 0 = .ok (.lload_n 0, 1) := by decide +kernel
theorem dX6_gcd_1 : decode cX6_gcd 1 = .ok (.lconst 0, 1) := by decide +kernel
theorem dX6_gcd_2 : decode cX6_gcd 2 = .ok (.lcmp, 1) := by decide +kernel
theorem dX6_gcd_3 : decode cX6_gcd 3 = .ok (.ifCond .ge 8, 3) := by decide +kernel
theorem dX6_gcd_6 : decode cX6_gcd 6 = .ok (.lload_n 0, 1) := by decide +kernel
theorem dX6_gcd_7 : decode cX6_gcd 7 = .ok (.lneg, 1) := by decide +kernel
theorem dX6_gcd_8 : decode cX6_gcd 8 = .ok (.goto 4, 3) := by decide +kernel
theorem dX6_gcd_11 : decode cX6_gcd 11 = .ok (.lload_n 0, 1) := by decide +kernel
theorem dX6_gcd_12 : decode cX6_gcd 12 = .ok (.lstore 4, 2) := by decide +kernel
theorem dX6_gcd_14 : decode cX6_gcd 14 = .ok (.lload_n 2, 1) := by decide +kernel
theorem dX6_gcd_15 : decode cX6_gcd 15 = .ok (.lconst 0, 1) := by decide +kernel
theorem dX6_gcd_16 : decode cX6_gcd 16 = .ok (.lcmp, 1) := by decide +kernel
theorem dX6_gcd_17 : decode cX6_gcd 17 = .ok (.ifCond .ge 8, 3) := by decide +kernel
theorem dX6_gcd_20 : decode cX6_gcd 20 = .ok (.lload_n 2, 1) := by decide +kernel
theorem dX6_gcd_21 : decode cX6_gcd 21 = .ok (.lneg, 1) := by decide +kernel
theorem dX6_gcd_22 : decode cX6_gcd 22 = .ok (.goto 4, 3) := by decide +kernel
theorem dX6_gcd_25 : decode cX6_gcd 25 = .ok (.lload_n 2, 1) := by decide +kernel
theorem dX6_gcd_26 : decode cX6_gcd 26 = .ok (.lstore 6, 2) := by decide +kernel
theorem dX6_gcd_28 : decode cX6_gcd 28 = .ok (.lload 6, 2) := by decide +kernel
theorem dX6_gcd_30 : decode cX6_gcd 30 = .ok (.lconst 0, 1) := by decide +kernel
theorem dX6_gcd_31 : decode cX6_gcd 31 = .ok (.lcmp, 1) := by decide +kernel
theorem dX6_gcd_32 : decode cX6_gcd 32 = .ok (.ifCond .eq 21, 3) := by decide +kernel
theorem dX6_gcd_35 : decode cX6_gcd 35 = .ok (.lload 4, 2) := by decide +kernel
theorem dX6_gcd_37 : decode cX6_gcd 37 = .ok (.lload 6, 2) := by decide +kernel
theorem dX6_gcd_39 : decode cX6_gcd 39 = .ok (.lrem, 1) := by decide +kernel
theorem dX6_gcd_40 : decode cX6_gcd 40 = .ok (.lstore 8, 2) := by decide +kernel
theorem dX6_gcd_42 : decode cX6_gcd 42 = .ok (.lload 6, 2) := by decide +kernel
theorem dX6_gcd_44 : decode cX6_gcd 44 = .ok (.lstore 4, 2) := by decide +kernel
theorem dX6_gcd_46 : decode cX6_gcd 46 = .ok (.lload 8, 2) := by decide +kernel
theorem dX6_gcd_48 : decode cX6_gcd 48 = .ok (.lstore 6, 2) := by decide +kernel
theorem dX6_gcd_50 : decode cX6_gcd 50 = .ok (.goto (-22), 3) := by decide +kernel
theorem dX6_gcd_53 : decode cX6_gcd 53 = .ok (.lload 4, 2) := by decide +kernel
theorem dX6_gcd_55 : decode cX6_gcd 55 = .ok (.lreturn, 1) := by decide +kernel
theorem dX6_fraction_0 : decode cX6_fraction 0 = .ok (.lload_n 1, 1) := by decide +kernel
theorem dX6_fraction_1 : decode cX6_fraction 1 = .ok (.lload_n 3, 1) := by decide +kernel
theorem dX6_fraction_2 : decode cX6_fraction 2 = .ok (.invokestatic 111, 3) := by decide +kernel
theorem dX6_fraction_5 : decode cX6_fraction 5 = .ok (.lstore 6, 2) := by decide +kernel
theorem dX6_fraction_7 : decode cX6_fraction 7 = .ok (.aload_n 0, 1) := by decide +kernel
theorem dX6_fraction_8 : decode cX6_fraction 8 = .ok (.lload_n 1, 1) := by decide +kernel
theorem dX6_fraction_9 : decode cX6_fraction 9 = .ok (.lload 6, 2) := by decide +kernel
theorem dX6_fraction_11 : decode cX6_fraction 11 = .ok (.ldiv, 1) := by decide +kernel
theorem dX6_fraction_12 : decode cX6_fraction 12 = .ok (.putfield 115, 3) := by decide +kernel
theorem dX6_fraction_15 : decode cX6_fraction 15 = .ok (.aload_n 0, 1) := by decide +kernel
theorem dX6_fraction_16 : decode cX6_fraction 16 = .ok (.lload_n 3, 1) := by decide +kernel
theorem dX6_fraction_17 : decode cX6_fraction 17 = .ok (.lload 6, 2) := by decide +kernel
theorem dX6_fraction_19 : decode cX6_fraction 19 = .ok (.ldiv, 1) := by decide +kernel
theorem dX6_fraction_20 : decode cX6_fraction 20 = .ok (.putfield 93, 3) := by decide +kernel
theorem dX6_fraction_23 : decode cX6_fraction 23 = .ok (.iload 5, 2) := by decide +kernel
theorem dX6_fraction_25 : decode cX6_fraction 25 = .ok (.ireturn, 1) := by decide +kernel
theorem dX6_upper_0 : decode cX6_upper 0 = .ok (.aload_n 0, 1) := by decide +kernel
theorem dX6_upper_1 : decode cX6_upper 1 = .ok (.getfield 115, 3) := by decide +kernel
theorem dX6_upper_4 : decode cX6_upper 4 = .ok (.lreturn, 1) := by decide +kernel
theorem dX6_lower_0 : decode cX6_lower 0 = .ok (.aload_n 0, 1) := by decide +kernel
theorem dX6_lower_1 : decode cX6_lower 1 = .ok (.getfield 93, 3) := by decide +kernel
theorem dX6_lower_4 : decode cX6_lower 4 = .ok (.lreturn, 1) := by decide +kernel
theorem dX6_isRow_0 : decode cX6_isRow 0 = .ok (.iload_n 0, 1) := by decide +kernel
theorem dX6_isRow_1 : decode cX6_isRow 1 = .ok (.iconst 0, 1) := by decide +kernel
theorem dX6_isRow_2 : decode cX6_isRow 2 = .ok (.iconst 5, 1) := by decide +kernel
theorem dX6_isRow_3 : decode cX6_isRow 3 = .ok (.invokestatic 104, 3) := by decide +kernel
theorem dX6_isRow_6 : decode cX6_isRow 6 = .ok (.ireturn, 1) := by decide +kernel
theorem dX6_rowAt_0 : decode cX6_rowAt 0 = .ok (.aload_n 0, 1) := by decide +kernel
theorem dX6_rowAt_1 : decode cX6_rowAt 1 = .ok (.getfield 16, 3) := by decide +kernel
theorem dX6_rowAt_4 : decode cX6_rowAt 4 = .ok (.bipush 40, 2) := by decide +kernel
theorem dX6_rowAt_6 : decode cX6_rowAt 6 = .ok (.iload_n 1, 1) := by decide +kernel
theorem dX6_rowAt_7 : decode cX6_rowAt 7 = .ok (.imul, 1) := by decide +kernel
theorem dX6_rowAt_8 : decode cX6_rowAt 8 = .ok (.iload_n 2, 1) := by decide +kernel
theorem dX6_rowAt_9 : decode cX6_rowAt 9 = .ok (.iadd, 1) := by decide +kernel
theorem dX6_rowAt_10 : decode cX6_rowAt 10 = .ok (.iaload, 1) := by decide +kernel
theorem dX6_rowAt_11 : decode cX6_rowAt 11 = .ok (.ireturn, 1) := by decide +kernel
theorem dX6_row_0 : decode cX6_row 0 = .ok (.iload_n 1, 1) := by decide +kernel
theorem dX6_row_1 : decode cX6_row 1 = .ok (.invokestatic 118, 3) := by decide +kernel
theorem dX6_row_4 : decode cX6_row 4 = .ok (.ifCond .eq 9, 3) := by decide +kernel
theorem dX6_row_7 : decode cX6_row 7 = .ok (.iload_n 2, 1) := by decide +kernel
theorem dX6_row_8 : decode cX6_row 8 = .ok (.bipush 40, 2) := by decide +kernel
theorem dX6_row_10 : decode cX6_row 10 = .ok (.if_icmp .le 5, 3) := by decide +kernel
theorem dX6_row_13 : decode cX6_row 13 = .ok (.iconst (-1), 1) := by decide +kernel
theorem dX6_row_14 : decode cX6_row 14 = .ok (.ireturn, 1) := by decide +kernel
theorem dX6_row_15 : decode cX6_row 15 = .ok (.iload_n 2, 1) := by decide +kernel
theorem dX6_row_16 : decode cX6_row 16 = .ok (.ifCond .ge 9, 3) := by decide +kernel
theorem dX6_row_19 : decode cX6_row 19 = .ok (.aload_n 0, 1) := by decide +kernel
theorem dX6_row_20 : decode cX6_row 20 = .ok (.iconst 5, 1) := by decide +kernel
theorem dX6_row_21 : decode cX6_row 21 = .ok (.invokevirtual 122, 3) := by decide +kernel
theorem dX6_row_24 : decode cX6_row 24 = .ok (.ireturn, 1) := by decide +kernel
theorem dX6_row_25 : decode cX6_row 25 = .ok (.aload_n 0, 1) := by decide +kernel
theorem dX6_row_26 : decode cX6_row 26 = .ok (.getfield 13, 3) := by decide +kernel
theorem dX6_row_29 : decode cX6_row 29 = .ok (.iload_n 1, 1) := by decide +kernel
theorem dX6_row_30 : decode cX6_row 30 = .ok (.iload_n 2, 1) := by decide +kernel
theorem dX6_row_31 : decode cX6_row 31 = .ok (.iastore, 1) := by decide +kernel
theorem dX6_row_32 : decode cX6_row 32 = .ok (.iconst 0, 1) := by decide +kernel
theorem dX6_row_33 : decode cX6_row 33 = .ok (.istore_n 3, 1) := by decide +kernel
theorem dX6_row_34 : decode cX6_row 34 = .ok (.iload_n 3, 1) := by decide +kernel
theorem dX6_row_35 : decode cX6_row 35 = .ok (.bipush 40, 2) := by decide +kernel
theorem dX6_row_37 : decode cX6_row 37 = .ok (.if_icmp .ge 21, 3) := by decide +kernel
theorem dX6_row_40 : decode cX6_row 40 = .ok (.aload_n 0, 1) := by decide +kernel
theorem dX6_row_41 : decode cX6_row 41 = .ok (.getfield 16, 3) := by decide +kernel
theorem dX6_row_44 : decode cX6_row 44 = .ok (.bipush 40, 2) := by decide +kernel
theorem dX6_row_46 : decode cX6_row 46 = .ok (.iload_n 1, 1) := by decide +kernel
theorem dX6_row_47 : decode cX6_row 47 = .ok (.imul, 1) := by decide +kernel
theorem dX6_row_48 : decode cX6_row 48 = .ok (.iload_n 3, 1) := by decide +kernel
theorem dX6_row_49 : decode cX6_row 49 = .ok (.iadd, 1) := by decide +kernel
theorem dX6_row_50 : decode cX6_row 50 = .ok (.iconst 0, 1) := by decide +kernel
theorem dX6_row_51 : decode cX6_row 51 = .ok (.iastore, 1) := by decide +kernel
theorem dX6_row_52 : decode cX6_row 52 = .ok (.iinc 3 1, 3) := by decide +kernel
theorem dX6_row_55 : decode cX6_row 55 = .ok (.goto (-21), 3) := by decide +kernel
theorem dX6_row_58 : decode cX6_row 58 = .ok (.iload_n 2, 1) := by decide +kernel
theorem dX6_row_59 : decode cX6_row 59 = .ok (.ireturn, 1) := by decide +kernel
theorem dX6_lay_0 : decode cX6_lay 0 = .ok (.iload_n 1, 1) := by decide +kernel
theorem dX6_lay_1 : decode cX6_lay 1 = .ok (.invokestatic 118, 3) := by decide +kernel
theorem dX6_lay_4 : decode cX6_lay 4 = .ok (.ifCond .ne 5, 3) := by decide +kernel
theorem dX6_lay_7 : decode cX6_lay 7 = .ok (.iconst (-1), 1) := by decide +kernel
theorem dX6_lay_8 : decode cX6_lay 8 = .ok (.ireturn, 1) := by decide +kernel
theorem dX6_lay_9 : decode cX6_lay 9 = .ok (.aload_n 0, 1) := by decide +kernel
theorem dX6_lay_10 : decode cX6_lay 10 = .ok (.getfield 13, 3) := by decide +kernel
theorem dX6_lay_13 : decode cX6_lay 13 = .ok (.iload_n 1, 1) := by decide +kernel
theorem dX6_lay_14 : decode cX6_lay 14 = .ok (.iaload, 1) := by decide +kernel
theorem dX6_lay_15 : decode cX6_lay 15 = .ok (.ifCond .ge 9, 3) := by decide +kernel
theorem dX6_lay_18 : decode cX6_lay 18 = .ok (.aload_n 0, 1) := by decide +kernel
theorem dX6_lay_19 : decode cX6_lay 19 = .ok (.iconst 1, 1) := by decide +kernel
theorem dX6_lay_20 : decode cX6_lay 20 = .ok (.invokevirtual 122, 3) := by decide +kernel
theorem dX6_lay_23 : decode cX6_lay 23 = .ok (.ireturn, 1) := by decide +kernel
theorem dX6_lay_24 : decode cX6_lay 24 = .ok (.iload_n 2, 1) := by decide +kernel
theorem dX6_lay_25 : decode cX6_lay 25 = .ok (.iconst 0, 1) := by decide +kernel
theorem dX6_lay_26 : decode cX6_lay 26 = .ok (.aload_n 0, 1) := by decide +kernel
theorem dX6_lay_27 : decode cX6_lay 27 = .ok (.getfield 13, 3) := by decide +kernel
theorem dX6_lay_30 : decode cX6_lay 30 = .ok (.iload_n 1, 1) := by decide +kernel
theorem dX6_lay_31 : decode cX6_lay 31 = .ok (.iaload, 1) := by decide +kernel
theorem dX6_lay_32 : decode cX6_lay 32 = .ok (.iconst 1, 1) := by decide +kernel
theorem dX6_lay_33 : decode cX6_lay 33 = .ok (.isub, 1) := by decide +kernel
theorem dX6_lay_34 : decode cX6_lay 34 = .ok (.invokestatic 104, 3) := by decide +kernel
theorem dX6_lay_37 : decode cX6_lay 37 = .ok (.ifCond .ne 9, 3) := by decide +kernel
theorem dX6_lay_40 : decode cX6_lay 40 = .ok (.aload_n 0, 1) := by decide +kernel
theorem dX6_lay_41 : decode cX6_lay 41 = .ok (.iconst 2, 1) := by decide +kernel
theorem dX6_lay_42 : decode cX6_lay 42 = .ok (.invokevirtual 122, 3) := by decide +kernel
theorem dX6_lay_45 : decode cX6_lay 45 = .ok (.ireturn, 1) := by decide +kernel
theorem dX6_lay_46 : decode cX6_lay 46 = .ok (.aload_n 0, 1) := by decide +kernel
theorem dX6_lay_47 : decode cX6_lay 47 = .ok (.iload_n 1, 1) := by decide +kernel
theorem dX6_lay_48 : decode cX6_lay 48 = .ok (.iload_n 2, 1) := by decide +kernel
theorem dX6_lay_49 : decode cX6_lay 49 = .ok (.invokevirtual 126, 3) := by decide +kernel
theorem dX6_lay_52 : decode cX6_lay 52 = .ok (.istore 4, 2) := by decide +kernel
theorem dX6_lay_54 : decode cX6_lay 54 = .ok (.aload_n 0, 1) := by decide +kernel
theorem dX6_lay_55 : decode cX6_lay 55 = .ok (.getfield 16, 3) := by decide +kernel
theorem dX6_lay_58 : decode cX6_lay 58 = .ok (.bipush 40, 2) := by decide +kernel
theorem dX6_lay_60 : decode cX6_lay 60 = .ok (.iload_n 1, 1) := by decide +kernel
theorem dX6_lay_61 : decode cX6_lay 61 = .ok (.imul, 1) := by decide +kernel
theorem dX6_lay_62 : decode cX6_lay 62 = .ok (.iload_n 2, 1) := by decide +kernel
theorem dX6_lay_63 : decode cX6_lay 63 = .ok (.iadd, 1) := by decide +kernel
theorem dX6_lay_64 : decode cX6_lay 64 = .ok (.iload_n 3, 1) := by decide +kernel
theorem dX6_lay_65 : decode cX6_lay 65 = .ok (.iastore, 1) := by decide +kernel
theorem dX6_lay_66 : decode cX6_lay 66 = .ok (.aload_n 0, 1) := by decide +kernel
theorem dX6_lay_67 : decode cX6_lay 67 = .ok (.iload 4, 2) := by decide +kernel
theorem dX6_lay_69 : decode cX6_lay 69 = .ok (.iconst 1, 1) := by decide +kernel
theorem dX6_lay_70 : decode cX6_lay 70 = .ok (.invokevirtual 130, 3) := by decide +kernel
theorem dX6_lay_73 : decode cX6_lay 73 = .ok (.ireturn, 1) := by decide +kernel
theorem dX6_tear_0 : decode cX6_tear 0 = .ok (.iload_n 1, 1) := by decide +kernel
theorem dX6_tear_1 : decode cX6_tear 1 = .ok (.invokestatic 118, 3) := by decide +kernel
theorem dX6_tear_4 : decode cX6_tear 4 = .ok (.ifCond .ne 5, 3) := by decide +kernel
theorem dX6_tear_7 : decode cX6_tear 7 = .ok (.iconst (-1), 1) := by decide +kernel
theorem dX6_tear_8 : decode cX6_tear 8 = .ok (.ireturn, 1) := by decide +kernel
theorem dX6_tear_9 : decode cX6_tear 9 = .ok (.aload_n 0, 1) := by decide +kernel
theorem dX6_tear_10 : decode cX6_tear 10 = .ok (.getfield 13, 3) := by decide +kernel
theorem dX6_tear_13 : decode cX6_tear 13 = .ok (.iload_n 1, 1) := by decide +kernel
theorem dX6_tear_14 : decode cX6_tear 14 = .ok (.iaload, 1) := by decide +kernel
theorem dX6_tear_15 : decode cX6_tear 15 = .ok (.ifCond .ge 9, 3) := by decide +kernel
theorem dX6_tear_18 : decode cX6_tear 18 = .ok (.aload_n 0, 1) := by decide +kernel
theorem dX6_tear_19 : decode cX6_tear 19 = .ok (.iconst 1, 1) := by decide +kernel
theorem dX6_tear_20 : decode cX6_tear 20 = .ok (.invokevirtual 122, 3) := by decide +kernel
theorem dX6_tear_23 : decode cX6_tear 23 = .ok (.ireturn, 1) := by decide +kernel
theorem dX6_tear_24 : decode cX6_tear 24 = .ok (.aload_n 0, 1) := by decide +kernel
theorem dX6_tear_25 : decode cX6_tear 25 = .ok (.getfield 13, 3) := by decide +kernel
theorem dX6_tear_28 : decode cX6_tear 28 = .ok (.iload_n 1, 1) := by decide +kernel
theorem dX6_tear_29 : decode cX6_tear 29 = .ok (.iconst (-1), 1) := by decide +kernel
theorem dX6_tear_30 : decode cX6_tear 30 = .ok (.iastore, 1) := by decide +kernel
theorem dX6_tear_31 : decode cX6_tear 31 = .ok (.iconst 1, 1) := by decide +kernel
theorem dX6_tear_32 : decode cX6_tear 32 = .ok (.ireturn, 1) := by decide +kernel
theorem dX6_copy_0 : decode cX6_copy 0 = .ok (.iload_n 1, 1) := by decide +kernel
theorem dX6_copy_1 : decode cX6_copy 1 = .ok (.invokestatic 118, 3) := by decide +kernel
theorem dX6_copy_4 : decode cX6_copy 4 = .ok (.ifCond .eq 10, 3) := by decide +kernel
theorem dX6_copy_7 : decode cX6_copy 7 = .ok (.iload_n 3, 1) := by decide +kernel
theorem dX6_copy_8 : decode cX6_copy 8 = .ok (.invokestatic 118, 3) := by decide +kernel
theorem dX6_copy_11 : decode cX6_copy 11 = .ok (.ifCond .ne 5, 3) := by decide +kernel
theorem dX6_copy_14 : decode cX6_copy 14 = .ok (.iconst (-1), 1) := by decide +kernel
theorem dX6_copy_15 : decode cX6_copy 15 = .ok (.ireturn, 1) := by decide +kernel
theorem dX6_copy_16 : decode cX6_copy 16 = .ok (.iload 5, 2) := by decide +kernel
theorem dX6_copy_18 : decode cX6_copy 18 = .ok (.ifCond .ge 9, 3) := by decide +kernel
theorem dX6_copy_21 : decode cX6_copy 21 = .ok (.aload_n 0, 1) := by decide +kernel
theorem dX6_copy_22 : decode cX6_copy 22 = .ok (.iconst 5, 1) := by decide +kernel
theorem dX6_copy_23 : decode cX6_copy 23 = .ok (.invokevirtual 122, 3) := by decide +kernel
theorem dX6_copy_26 : decode cX6_copy 26 = .ok (.ireturn, 1) := by decide +kernel
theorem dX6_copy_27 : decode cX6_copy 27 = .ok (.aload_n 0, 1) := by decide +kernel
theorem dX6_copy_28 : decode cX6_copy 28 = .ok (.getfield 13, 3) := by decide +kernel
theorem dX6_copy_31 : decode cX6_copy 31 = .ok (.iload_n 1, 1) := by decide +kernel
theorem dX6_copy_32 : decode cX6_copy 32 = .ok (.iaload, 1) := by decide +kernel
theorem dX6_copy_33 : decode cX6_copy 33 = .ok (.ifCond .lt 12, 3) := by decide +kernel
theorem dX6_copy_36 : decode cX6_copy 36 = .ok (.aload_n 0, 1) := by decide +kernel
theorem dX6_copy_37 : decode cX6_copy 37 = .ok (.getfield 13, 3) := by decide +kernel
theorem dX6_copy_40 : decode cX6_copy 40 = .ok (.iload_n 3, 1) := by decide +kernel
theorem dX6_copy_41 : decode cX6_copy 41 = .ok (.iaload, 1) := by decide +kernel
theorem dX6_copy_42 : decode cX6_copy 42 = .ok (.ifCond .ge 9, 3) := by decide +kernel
theorem dX6_copy_45 : decode cX6_copy 45 = .ok (.aload_n 0, 1) := by decide +kernel
theorem dX6_copy_46 : decode cX6_copy 46 = .ok (.iconst 1, 1) := by decide +kernel
theorem dX6_copy_47 : decode cX6_copy 47 = .ok (.invokevirtual 122, 3) := by decide +kernel
theorem dX6_copy_50 : decode cX6_copy 50 = .ok (.ireturn, 1) := by decide +kernel
theorem dX6_copy_51 : decode cX6_copy 51 = .ok (.iload_n 2, 1) := by decide +kernel
theorem dX6_copy_52 : decode cX6_copy 52 = .ok (.ifCond .lt 43, 3) := by decide +kernel
theorem dX6_copy_55 : decode cX6_copy 55 = .ok (.iload 4, 2) := by decide +kernel
theorem dX6_copy_57 : decode cX6_copy 57 = .ok (.ifCond .lt 38, 3) := by decide +kernel
theorem dX6_copy_60 : decode cX6_copy 60 = .ok (.iload_n 2, 1) := by decide +kernel
theorem dX6_copy_61 : decode cX6_copy 61 = .ok (.i2l, 1) := by decide +kernel
theorem dX6_copy_62 : decode cX6_copy 62 = .ok (.iload 5, 2) := by decide +kernel
theorem dX6_copy_64 : decode cX6_copy 64 = .ok (.i2l, 1) := by decide +kernel
theorem dX6_copy_65 : decode cX6_copy 65 = .ok (.ladd, 1) := by decide +kernel
theorem dX6_copy_66 : decode cX6_copy 66 = .ok (.aload_n 0, 1) := by decide +kernel
theorem dX6_copy_67 : decode cX6_copy 67 = .ok (.getfield 13, 3) := by decide +kernel
theorem dX6_copy_70 : decode cX6_copy 70 = .ok (.iload_n 1, 1) := by decide +kernel
theorem dX6_copy_71 : decode cX6_copy 71 = .ok (.iaload, 1) := by decide +kernel
theorem dX6_copy_72 : decode cX6_copy 72 = .ok (.i2l, 1) := by decide +kernel
theorem dX6_copy_73 : decode cX6_copy 73 = .ok (.lcmp, 1) := by decide +kernel
theorem dX6_copy_74 : decode cX6_copy 74 = .ok (.ifCond .gt 21, 3) := by decide +kernel
theorem dX6_copy_77 : decode cX6_copy 77 = .ok (.iload 4, 2) := by decide +kernel
theorem dX6_copy_79 : decode cX6_copy 79 = .ok (.i2l, 1) := by decide +kernel
theorem dX6_copy_80 : decode cX6_copy 80 = .ok (.iload 5, 2) := by decide +kernel
theorem dX6_copy_82 : decode cX6_copy 82 = .ok (.i2l, 1) := by decide +kernel
theorem dX6_copy_83 : decode cX6_copy 83 = .ok (.ladd, 1) := by decide +kernel
theorem dX6_copy_84 : decode cX6_copy 84 = .ok (.aload_n 0, 1) := by decide +kernel
theorem dX6_copy_85 : decode cX6_copy 85 = .ok (.getfield 13, 3) := by decide +kernel
theorem dX6_copy_88 : decode cX6_copy 88 = .ok (.iload_n 3, 1) := by decide +kernel
theorem dX6_copy_89 : decode cX6_copy 89 = .ok (.iaload, 1) := by decide +kernel
theorem dX6_copy_90 : decode cX6_copy 90 = .ok (.i2l, 1) := by decide +kernel
theorem dX6_copy_91 : decode cX6_copy 91 = .ok (.lcmp, 1) := by decide +kernel
theorem dX6_copy_92 : decode cX6_copy 92 = .ok (.ifCond .le 9, 3) := by decide +kernel
theorem dX6_copy_95 : decode cX6_copy 95 = .ok (.aload_n 0, 1) := by decide +kernel
theorem dX6_copy_96 : decode cX6_copy 96 = .ok (.iconst 2, 1) := by decide +kernel
theorem dX6_copy_97 : decode cX6_copy 97 = .ok (.invokevirtual 122, 3) := by decide +kernel
theorem dX6_copy_100 : decode cX6_copy 100 = .ok (.ireturn, 1) := by decide +kernel
theorem dX6_copy_101 : decode cX6_copy 101 = .ok (.iconst 0, 1) := by decide +kernel
theorem dX6_copy_102 : decode cX6_copy 102 = .ok (.istore 6, 2) := by decide +kernel
theorem dX6_copy_104 : decode cX6_copy 104 = .ok (.iload 6, 2) := by decide +kernel
theorem dX6_copy_106 : decode cX6_copy 106 = .ok (.iload 5, 2) := by decide +kernel
theorem dX6_copy_108 : decode cX6_copy 108 = .ok (.if_icmp .ge 25, 3) := by decide +kernel
theorem dX6_copy_111 : decode cX6_copy 111 = .ok (.aload_n 0, 1) := by decide +kernel
theorem dX6_copy_112 : decode cX6_copy 112 = .ok (.getfield 19, 3) := by decide +kernel
theorem dX6_copy_115 : decode cX6_copy 115 = .ok (.iload 6, 2) := by decide +kernel
theorem dX6_copy_117 : decode cX6_copy 117 = .ok (.aload_n 0, 1) := by decide +kernel
theorem dX6_copy_118 : decode cX6_copy 118 = .ok (.iload_n 1, 1) := by decide +kernel
theorem dX6_copy_119 : decode cX6_copy 119 = .ok (.iload_n 2, 1) := by decide +kernel
theorem dX6_copy_120 : decode cX6_copy 120 = .ok (.iload 6, 2) := by decide +kernel
theorem dX6_copy_122 : decode cX6_copy 122 = .ok (.iadd, 1) := by decide +kernel
theorem dX6_copy_123 : decode cX6_copy 123 = .ok (.invokevirtual 126, 3) := by decide +kernel
theorem dX6_copy_126 : decode cX6_copy 126 = .ok (.iastore, 1) := by decide +kernel
theorem dX6_copy_127 : decode cX6_copy 127 = .ok (.iinc 6 1, 3) := by decide +kernel
theorem dX6_copy_130 : decode cX6_copy 130 = .ok (.goto (-26), 3) := by decide +kernel
theorem dX6_copy_133 : decode cX6_copy 133 = .ok (.iconst 0, 1) := by decide +kernel
theorem dX6_copy_134 : decode cX6_copy 134 = .ok (.istore 6, 2) := by decide +kernel
theorem dX6_copy_136 : decode cX6_copy 136 = .ok (.iload 6, 2) := by decide +kernel
theorem dX6_copy_138 : decode cX6_copy 138 = .ok (.iload 5, 2) := by decide +kernel
theorem dX6_copy_140 : decode cX6_copy 140 = .ok (.if_icmp .ge 31, 3) := by decide +kernel
theorem dX6_copy_143 : decode cX6_copy 143 = .ok (.aload_n 0, 1) := by decide +kernel
theorem dX6_copy_144 : decode cX6_copy 144 = .ok (.getfield 16, 3) := by decide +kernel
theorem dX6_copy_147 : decode cX6_copy 147 = .ok (.bipush 40, 2) := by decide +kernel
theorem dX6_copy_149 : decode cX6_copy 149 = .ok (.iload_n 3, 1) := by decide +kernel
theorem dX6_copy_150 : decode cX6_copy 150 = .ok (.imul, 1) := by decide +kernel
theorem dX6_copy_151 : decode cX6_copy 151 = .ok (.iload 4, 2) := by decide +kernel
theorem dX6_copy_153 : decode cX6_copy 153 = .ok (.iadd, 1) := by decide +kernel
theorem dX6_copy_154 : decode cX6_copy 154 = .ok (.iload 6, 2) := by decide +kernel
theorem dX6_copy_156 : decode cX6_copy 156 = .ok (.iadd, 1) := by decide +kernel
theorem dX6_copy_157 : decode cX6_copy 157 = .ok (.aload_n 0, 1) := by decide +kernel
theorem dX6_copy_158 : decode cX6_copy 158 = .ok (.getfield 19, 3) := by decide +kernel
theorem dX6_copy_161 : decode cX6_copy 161 = .ok (.iload 6, 2) := by decide +kernel
theorem dX6_copy_163 : decode cX6_copy 163 = .ok (.iaload, 1) := by decide +kernel
theorem dX6_copy_164 : decode cX6_copy 164 = .ok (.iastore, 1) := by decide +kernel
theorem dX6_copy_165 : decode cX6_copy 165 = .ok (.iinc 6 1, 3) := by decide +kernel
theorem dX6_copy_168 : decode cX6_copy 168 = .ok (.goto (-32), 3) := by decide +kernel
theorem dX6_copy_171 : decode cX6_copy 171 = .ok (.iconst 1, 1) := by decide +kernel
theorem dX6_copy_172 : decode cX6_copy 172 = .ok (.ireturn, 1) := by decide +kernel
theorem dX6_mean_0 : decode cX6_mean 0 = .ok (.iload_n 1, 1) := by decide +kernel
theorem dX6_mean_1 : decode cX6_mean 1 = .ok (.invokestatic 118, 3) := by decide +kernel
theorem dX6_mean_4 : decode cX6_mean 4 = .ok (.ifCond .ne 5, 3) := by decide +kernel
theorem dX6_mean_7 : decode cX6_mean 7 = .ok (.iconst (-1), 1) := by decide +kernel
theorem dX6_mean_8 : decode cX6_mean 8 = .ok (.ireturn, 1) := by decide +kernel
theorem dX6_mean_9 : decode cX6_mean 9 = .ok (.aload_n 0, 1) := by decide +kernel
theorem dX6_mean_10 : decode cX6_mean 10 = .ok (.getfield 13, 3) := by decide +kernel
theorem dX6_mean_13 : decode cX6_mean 13 = .ok (.iload_n 1, 1) := by decide +kernel
theorem dX6_mean_14 : decode cX6_mean 14 = .ok (.iaload, 1) := by decide +kernel
theorem dX6_mean_15 : decode cX6_mean 15 = .ok (.ifCond .ge 9, 3) := by decide +kernel
theorem dX6_mean_18 : decode cX6_mean 18 = .ok (.aload_n 0, 1) := by decide +kernel
theorem dX6_mean_19 : decode cX6_mean 19 = .ok (.iconst 1, 1) := by decide +kernel
theorem dX6_mean_20 : decode cX6_mean 20 = .ok (.invokevirtual 122, 3) := by decide +kernel
theorem dX6_mean_23 : decode cX6_mean 23 = .ok (.ireturn, 1) := by decide +kernel
theorem dX6_mean_24 : decode cX6_mean 24 = .ok (.aload_n 0, 1) := by decide +kernel
theorem dX6_mean_25 : decode cX6_mean 25 = .ok (.getfield 13, 3) := by decide +kernel
theorem dX6_mean_28 : decode cX6_mean 28 = .ok (.iload_n 1, 1) := by decide +kernel
theorem dX6_mean_29 : decode cX6_mean 29 = .ok (.iaload, 1) := by decide +kernel
theorem dX6_mean_30 : decode cX6_mean 30 = .ok (.ifCond .ne 9, 3) := by decide +kernel
theorem dX6_mean_33 : decode cX6_mean 33 = .ok (.aload_n 0, 1) := by decide +kernel
theorem dX6_mean_34 : decode cX6_mean 34 = .ok (.iconst 4, 1) := by decide +kernel
theorem dX6_mean_35 : decode cX6_mean 35 = .ok (.invokevirtual 122, 3) := by decide +kernel
theorem dX6_mean_38 : decode cX6_mean 38 = .ok (.ireturn, 1) := by decide +kernel
theorem dX6_mean_39 : decode cX6_mean 39 = .ok (.lconst 0, 1) := by decide +kernel
theorem dX6_mean_40 : decode cX6_mean 40 = .ok (.lstore_n 2, 1) := by decide +kernel
theorem dX6_mean_41 : decode cX6_mean 41 = .ok (.iconst 0, 1) := by decide +kernel
theorem dX6_mean_42 : decode cX6_mean 42 = .ok (.istore 4, 2) := by decide +kernel
theorem dX6_mean_44 : decode cX6_mean 44 = .ok (.iload 4, 2) := by decide +kernel
theorem dX6_mean_46 : decode cX6_mean 46 = .ok (.aload_n 0, 1) := by decide +kernel
theorem dX6_mean_47 : decode cX6_mean 47 = .ok (.getfield 13, 3) := by decide +kernel
theorem dX6_mean_50 : decode cX6_mean 50 = .ok (.iload_n 1, 1) := by decide +kernel
theorem dX6_mean_51 : decode cX6_mean 51 = .ok (.iaload, 1) := by decide +kernel
theorem dX6_mean_52 : decode cX6_mean 52 = .ok (.if_icmp .ge 20, 3) := by decide +kernel
theorem dX6_mean_55 : decode cX6_mean 55 = .ok (.lload_n 2, 1) := by decide +kernel
theorem dX6_mean_56 : decode cX6_mean 56 = .ok (.aload_n 0, 1) := by decide +kernel
theorem dX6_mean_57 : decode cX6_mean 57 = .ok (.iload_n 1, 1) := by decide +kernel
theorem dX6_mean_58 : decode cX6_mean 58 = .ok (.iload 4, 2) := by decide +kernel
theorem dX6_mean_60 : decode cX6_mean 60 = .ok (.invokevirtual 126, 3) := by decide +kernel
theorem dX6_mean_63 : decode cX6_mean 63 = .ok (.i2l, 1) := by decide +kernel
theorem dX6_mean_64 : decode cX6_mean 64 = .ok (.ladd, 1) := by decide +kernel
theorem dX6_mean_65 : decode cX6_mean 65 = .ok (.lstore_n 2, 1) := by decide +kernel
theorem dX6_mean_66 : decode cX6_mean 66 = .ok (.iinc 4 1, 3) := by decide +kernel
theorem dX6_mean_69 : decode cX6_mean 69 = .ok (.goto (-25), 3) := by decide +kernel
theorem dX6_mean_72 : decode cX6_mean 72 = .ok (.aload_n 0, 1) := by decide +kernel
theorem dX6_mean_73 : decode cX6_mean 73 = .ok (.lload_n 2, 1) := by decide +kernel
theorem dX6_mean_74 : decode cX6_mean 74 = .ok (.aload_n 0, 1) := by decide +kernel
theorem dX6_mean_75 : decode cX6_mean 75 = .ok (.getfield 13, 3) := by decide +kernel
theorem dX6_mean_78 : decode cX6_mean 78 = .ok (.iload_n 1, 1) := by decide +kernel
theorem dX6_mean_79 : decode cX6_mean 79 = .ok (.iaload, 1) := by decide +kernel
theorem dX6_mean_80 : decode cX6_mean 80 = .ok (.i2l, 1) := by decide +kernel
theorem dX6_mean_81 : decode cX6_mean 81 = .ok (.ldiv, 1) := by decide +kernel
theorem dX6_mean_82 : decode cX6_mean 82 = .ok (.l2i, 1) := by decide +kernel
theorem dX6_mean_83 : decode cX6_mean 83 = .ok (.iconst 1, 1) := by decide +kernel
theorem dX6_mean_84 : decode cX6_mean 84 = .ok (.invokevirtual 130, 3) := by decide +kernel
theorem dX6_mean_87 : decode cX6_mean 87 = .ok (.ireturn, 1) := by decide +kernel
theorem dX6_isText_0 : decode cX6_isText 0 = .ok (.iload_n 0, 1) := by decide +kernel
theorem dX6_isText_1 : decode cX6_isText 1 = .ok (.iconst 0, 1) := by decide +kernel
theorem dX6_isText_2 : decode cX6_isText 2 = .ok (.iconst 3, 1) := by decide +kernel
theorem dX6_isText_3 : decode cX6_isText 3 = .ok (.invokestatic 104, 3) := by decide +kernel
theorem dX6_isText_6 : decode cX6_isText 6 = .ok (.ireturn, 1) := by decide +kernel
theorem dX6_text_0 : decode cX6_text 0 = .ok (.iload_n 1, 1) := by decide +kernel
theorem dX6_text_1 : decode cX6_text 1 = .ok (.invokestatic 133, 3) := by decide +kernel
theorem dX6_text_4 : decode cX6_text 4 = .ok (.ifCond .eq 9, 3) := by decide +kernel
theorem dX6_text_7 : decode cX6_text 7 = .ok (.iload_n 2, 1) := by decide +kernel
theorem dX6_text_8 : decode cX6_text 8 = .ok (.bipush 60, 2) := by decide +kernel
theorem dX6_text_10 : decode cX6_text 10 = .ok (.if_icmp .le 5, 3) := by decide +kernel
theorem dX6_text_13 : decode cX6_text 13 = .ok (.iconst (-1), 1) := by decide +kernel
theorem dX6_text_14 : decode cX6_text 14 = .ok (.ireturn, 1) := by decide +kernel
theorem dX6_text_15 : decode cX6_text 15 = .ok (.iload_n 2, 1) := by decide +kernel
theorem dX6_text_16 : decode cX6_text 16 = .ok (.ifCond .ge 9, 3) := by decide +kernel
theorem dX6_text_19 : decode cX6_text 19 = .ok (.aload_n 0, 1) := by decide +kernel
theorem dX6_text_20 : decode cX6_text 20 = .ok (.iconst 5, 1) := by decide +kernel
theorem dX6_text_21 : decode cX6_text 21 = .ok (.invokevirtual 122, 3) := by decide +kernel
theorem dX6_text_24 : decode cX6_text 24 = .ok (.ireturn, 1) := by decide +kernel
theorem dX6_text_25 : decode cX6_text 25 = .ok (.aload_n 0, 1) := by decide +kernel
theorem dX6_text_26 : decode cX6_text 26 = .ok (.getfield 22, 3) := by decide +kernel
theorem dX6_text_29 : decode cX6_text 29 = .ok (.iload_n 1, 1) := by decide +kernel
theorem dX6_text_30 : decode cX6_text 30 = .ok (.iload_n 2, 1) := by decide +kernel
theorem dX6_text_31 : decode cX6_text 31 = .ok (.iastore, 1) := by decide +kernel
theorem dX6_text_32 : decode cX6_text 32 = .ok (.iconst 0, 1) := by decide +kernel
theorem dX6_text_33 : decode cX6_text 33 = .ok (.istore_n 3, 1) := by decide +kernel
theorem dX6_text_34 : decode cX6_text 34 = .ok (.iload_n 3, 1) := by decide +kernel
theorem dX6_text_35 : decode cX6_text 35 = .ok (.bipush 60, 2) := by decide +kernel
theorem dX6_text_37 : decode cX6_text 37 = .ok (.if_icmp .ge 22, 3) := by decide +kernel
theorem dX6_text_40 : decode cX6_text 40 = .ok (.aload_n 0, 1) := by decide +kernel
theorem dX6_text_41 : decode cX6_text 41 = .ok (.getfield 25, 3) := by decide +kernel
theorem dX6_text_44 : decode cX6_text 44 = .ok (.bipush 60, 2) := by decide +kernel
theorem dX6_text_46 : decode cX6_text 46 = .ok (.iload_n 1, 1) := by decide +kernel
theorem dX6_text_47 : decode cX6_text 47 = .ok (.imul, 1) := by decide +kernel
theorem dX6_text_48 : decode cX6_text 48 = .ok (.iload_n 3, 1) := by decide +kernel
theorem dX6_text_49 : decode cX6_text 49 = .ok (.iadd, 1) := by decide +kernel
theorem dX6_text_50 : decode cX6_text 50 = .ok (.bipush 32, 2) := by decide +kernel
theorem dX6_text_52 : decode cX6_text 52 = .ok (.bastore, 1) := by decide +kernel
theorem dX6_text_53 : decode cX6_text 53 = .ok (.iinc 3 1, 3) := by decide +kernel
theorem dX6_text_56 : decode cX6_text 56 = .ok (.goto (-22), 3) := by decide +kernel
theorem dX6_text_59 : decode cX6_text 59 = .ok (.iload_n 2, 1) := by decide +kernel
theorem dX6_text_60 : decode cX6_text 60 = .ok (.ireturn, 1) := by decide +kernel
theorem dX6_put_0 : decode cX6_put 0 = .ok (.iload_n 1, 1) := by decide +kernel
theorem dX6_put_1 : decode cX6_put 1 = .ok (.invokestatic 133, 3) := by decide +kernel
theorem dX6_put_4 : decode cX6_put 4 = .ok (.ifCond .ne 5, 3) := by decide +kernel
theorem dX6_put_7 : decode cX6_put 7 = .ok (.iconst (-1), 1) := by decide +kernel
theorem dX6_put_8 : decode cX6_put 8 = .ok (.ireturn, 1) := by decide +kernel
theorem dX6_put_9 : decode cX6_put 9 = .ok (.aload_n 0, 1) := by decide +kernel
theorem dX6_put_10 : decode cX6_put 10 = .ok (.getfield 22, 3) := by decide +kernel
theorem dX6_put_13 : decode cX6_put 13 = .ok (.iload_n 1, 1) := by decide +kernel
theorem dX6_put_14 : decode cX6_put 14 = .ok (.iaload, 1) := by decide +kernel
theorem dX6_put_15 : decode cX6_put 15 = .ok (.ifCond .ge 9, 3) := by decide +kernel
theorem dX6_put_18 : decode cX6_put 18 = .ok (.aload_n 0, 1) := by decide +kernel
theorem dX6_put_19 : decode cX6_put 19 = .ok (.iconst 1, 1) := by decide +kernel
theorem dX6_put_20 : decode cX6_put 20 = .ok (.invokevirtual 122, 3) := by decide +kernel
theorem dX6_put_23 : decode cX6_put 23 = .ok (.ireturn, 1) := by decide +kernel
theorem dX6_put_24 : decode cX6_put 24 = .ok (.iload_n 2, 1) := by decide +kernel
theorem dX6_put_25 : decode cX6_put 25 = .ok (.iconst 0, 1) := by decide +kernel
theorem dX6_put_26 : decode cX6_put 26 = .ok (.aload_n 0, 1) := by decide +kernel
theorem dX6_put_27 : decode cX6_put 27 = .ok (.getfield 22, 3) := by decide +kernel
theorem dX6_put_30 : decode cX6_put 30 = .ok (.iload_n 1, 1) := by decide +kernel
theorem dX6_put_31 : decode cX6_put 31 = .ok (.iaload, 1) := by decide +kernel
theorem dX6_put_32 : decode cX6_put 32 = .ok (.iconst 1, 1) := by decide +kernel
theorem dX6_put_33 : decode cX6_put 33 = .ok (.isub, 1) := by decide +kernel
theorem dX6_put_34 : decode cX6_put 34 = .ok (.invokestatic 104, 3) := by decide +kernel
theorem dX6_put_37 : decode cX6_put 37 = .ok (.ifCond .ne 9, 3) := by decide +kernel
theorem dX6_put_40 : decode cX6_put 40 = .ok (.aload_n 0, 1) := by decide +kernel
theorem dX6_put_41 : decode cX6_put 41 = .ok (.iconst 2, 1) := by decide +kernel
theorem dX6_put_42 : decode cX6_put 42 = .ok (.invokevirtual 122, 3) := by decide +kernel
theorem dX6_put_45 : decode cX6_put 45 = .ok (.ireturn, 1) := by decide +kernel
theorem dX6_put_46 : decode cX6_put 46 = .ok (.aload_n 0, 1) := by decide +kernel
theorem dX6_put_47 : decode cX6_put 47 = .ok (.getfield 25, 3) := by decide +kernel
theorem dX6_put_50 : decode cX6_put 50 = .ok (.bipush 60, 2) := by decide +kernel
theorem dX6_put_52 : decode cX6_put 52 = .ok (.iload_n 1, 1) := by decide +kernel
theorem dX6_put_53 : decode cX6_put 53 = .ok (.imul, 1) := by decide +kernel
theorem dX6_put_54 : decode cX6_put 54 = .ok (.iload_n 2, 1) := by decide +kernel
theorem dX6_put_55 : decode cX6_put 55 = .ok (.iadd, 1) := by decide +kernel
theorem dX6_put_56 : decode cX6_put 56 = .ok (.baload, 1) := by decide +kernel
theorem dX6_put_57 : decode cX6_put 57 = .ok (.istore 4, 2) := by decide +kernel
theorem dX6_put_59 : decode cX6_put 59 = .ok (.aload_n 0, 1) := by decide +kernel
theorem dX6_put_60 : decode cX6_put 60 = .ok (.getfield 25, 3) := by decide +kernel
theorem dX6_put_63 : decode cX6_put 63 = .ok (.bipush 60, 2) := by decide +kernel
theorem dX6_put_65 : decode cX6_put 65 = .ok (.iload_n 1, 1) := by decide +kernel
theorem dX6_put_66 : decode cX6_put 66 = .ok (.imul, 1) := by decide +kernel
theorem dX6_put_67 : decode cX6_put 67 = .ok (.iload_n 2, 1) := by decide +kernel
theorem dX6_put_68 : decode cX6_put 68 = .ok (.iadd, 1) := by decide +kernel
theorem dX6_put_69 : decode cX6_put 69 = .ok (.iload_n 3, 1) := by decide +kernel
theorem dX6_put_70 : decode cX6_put 70 = .ok (.i2b, 1) := by decide +kernel
theorem dX6_put_71 : decode cX6_put 71 = .ok (.bastore, 1) := by decide +kernel
theorem dX6_put_72 : decode cX6_put 72 = .ok (.sipush 1000, 3) := by decide +kernel
theorem dX6_put_75 : decode cX6_put 75 = .ok (.iload 4, 2) := by decide +kernel
theorem dX6_put_77 : decode cX6_put 77 = .ok (.iadd, 1) := by decide +kernel
theorem dX6_put_78 : decode cX6_put 78 = .ok (.ireturn, 1) := by decide +kernel
theorem dX6_byteAt_0 : decode cX6_byteAt 0 = .ok (.iload_n 2, 1) := by decide +kernel
theorem dX6_byteAt_1 : decode cX6_byteAt 1 = .ok (.aload_n 0, 1) := by decide +kernel
theorem dX6_byteAt_2 : decode cX6_byteAt 2 = .ok (.getfield 22, 3) := by decide +kernel
theorem dX6_byteAt_5 : decode cX6_byteAt 5 = .ok (.iload_n 1, 1) := by decide +kernel
theorem dX6_byteAt_6 : decode cX6_byteAt 6 = .ok (.iaload, 1) := by decide +kernel
theorem dX6_byteAt_7 : decode cX6_byteAt 7 = .ok (.if_icmp .ge 17, 3) := by decide +kernel
theorem dX6_byteAt_10 : decode cX6_byteAt 10 = .ok (.aload_n 0, 1) := by decide +kernel
theorem dX6_byteAt_11 : decode cX6_byteAt 11 = .ok (.getfield 25, 3) := by decide +kernel
theorem dX6_byteAt_14 : decode cX6_byteAt 14 = .ok (.bipush 60, 2) := by decide +kernel
theorem dX6_byteAt_16 : decode cX6_byteAt 16 = .ok (.iload_n 1, 1) := by decide +kernel
theorem dX6_byteAt_17 : decode cX6_byteAt 17 = .ok (.imul, 1) := by decide +kernel
theorem dX6_byteAt_18 : decode cX6_byteAt 18 = .ok (.iload_n 2, 1) := by decide +kernel
theorem dX6_byteAt_19 : decode cX6_byteAt 19 = .ok (.iadd, 1) := by decide +kernel
theorem dX6_byteAt_20 : decode cX6_byteAt 20 = .ok (.baload, 1) := by decide +kernel
theorem dX6_byteAt_21 : decode cX6_byteAt 21 = .ok (.goto 4, 3) := by decide +kernel
theorem dX6_byteAt_24 : decode cX6_byteAt 24 = .ok (.iconst 0, 1) := by decide +kernel
theorem dX6_byteAt_25 : decode cX6_byteAt 25 = .ok (.ireturn, 1) := by decide +kernel
theorem dX6_readNumber_0 : decode cX6_readNumber 0 = .ok (.aload_n 0, 1) := by decide +kernel
theorem dX6_readNumber_1 : decode cX6_readNumber 1 = .ok (.getfield 136, 3) := by decide +kernel
theorem dX6_readNumber_4 : decode cX6_readNumber 4 = .ok (.istore_n 3, 1) := by decide +kernel
theorem dX6_readNumber_5 : decode cX6_readNumber 5 = .ok (.aload_n 0, 1) := by decide +kernel
theorem dX6_readNumber_6 : decode cX6_readNumber 6 = .ok (.iconst 0, 1) := by decide +kernel
theorem dX6_readNumber_7 : decode cX6_readNumber 7 = .ok (.putfield 139, 3) := by decide +kernel
theorem dX6_readNumber_10 : decode cX6_readNumber 10 = .ok (.aload_n 0, 1) := by decide +kernel
theorem dX6_readNumber_11 : decode cX6_readNumber 11 = .ok (.getfield 136, 3) := by decide +kernel
theorem dX6_readNumber_14 : decode cX6_readNumber 14 = .ok (.iload_n 3, 1) := by decide +kernel
theorem dX6_readNumber_15 : decode cX6_readNumber 15 = .ok (.iload_n 2, 1) := by decide +kernel
theorem dX6_readNumber_16 : decode cX6_readNumber 16 = .ok (.iadd, 1) := by decide +kernel
theorem dX6_readNumber_17 : decode cX6_readNumber 17 = .ok (.if_icmp .ge 59, 3) := by decide +kernel
theorem dX6_readNumber_20 : decode cX6_readNumber 20 = .ok (.aload_n 0, 1) := by decide +kernel
theorem dX6_readNumber_21 : decode cX6_readNumber 21 = .ok (.iload_n 1, 1) := by decide +kernel
theorem dX6_readNumber_22 : decode cX6_readNumber 22 = .ok (.aload_n 0, 1) := by decide +kernel
theorem dX6_readNumber_23 : decode cX6_readNumber 23 = .ok (.getfield 136, 3) := by decide +kernel
theorem dX6_readNumber_26 : decode cX6_readNumber 26 = .ok (.invokevirtual 142, 3) := by decide +kernel
theorem dX6_readNumber_29 : decode cX6_readNumber 29 = .ok (.bipush 48, 2) := by decide +kernel
theorem dX6_readNumber_31 : decode cX6_readNumber 31 = .ok (.bipush 57, 2) := by decide +kernel
theorem dX6_readNumber_33 : decode cX6_readNumber 33 = .ok (.invokestatic 104, 3) := by decide +kernel
theorem dX6_readNumber_36 : decode cX6_readNumber 36 = .ok (.ifCond .eq 40, 3) := by decide +kernel
theorem dX6_readNumber_39 : decode cX6_readNumber 39 = .ok (.aload_n 0, 1) := by decide +kernel
theorem dX6_readNumber_40 : decode cX6_readNumber 40 = .ok (.bipush 10, 2) := by decide +kernel
theorem dX6_readNumber_42 : decode cX6_readNumber 42 = .ok (.aload_n 0, 1) := by decide +kernel
theorem dX6_readNumber_43 : decode cX6_readNumber 43 = .ok (.getfield 139, 3) := by decide +kernel
theorem dX6_readNumber_46 : decode cX6_readNumber 46 = .ok (.imul, 1) := by decide +kernel
theorem dX6_readNumber_47 : decode cX6_readNumber 47 = .ok (.aload_n 0, 1) := by decide +kernel
theorem dX6_readNumber_48 : decode cX6_readNumber 48 = .ok (.iload_n 1, 1) := by decide +kernel
theorem dX6_readNumber_49 : decode cX6_readNumber 49 = .ok (.aload_n 0, 1) := by decide +kernel
theorem dX6_readNumber_50 : decode cX6_readNumber 50 = .ok (.getfield 136, 3) := by decide +kernel
theorem dX6_readNumber_53 : decode cX6_readNumber 53 = .ok (.invokevirtual 142, 3) := by decide +kernel
theorem dX6_readNumber_56 : decode cX6_readNumber 56 = .ok (.iadd, 1) := by decide +kernel
theorem dX6_readNumber_57 : decode cX6_readNumber 57 = .ok (.bipush 48, 2) := by decide +kernel
theorem dX6_readNumber_59 : decode cX6_readNumber 59 = .ok (.isub, 1) := by decide +kernel
theorem dX6_readNumber_60 : decode cX6_readNumber 60 = .ok (.putfield 139, 3) := by decide +kernel
theorem dX6_readNumber_63 : decode cX6_readNumber 63 = .ok (.aload_n 0, 1) := by decide +kernel
theorem dX6_readNumber_64 : decode cX6_readNumber 64 = .ok (.dup, 1) := by decide +kernel
theorem dX6_readNumber_65 : decode cX6_readNumber 65 = .ok (.getfield 136, 3) := by decide +kernel
theorem dX6_readNumber_68 : decode cX6_readNumber 68 = .ok (.iconst 1, 1) := by decide +kernel
theorem dX6_readNumber_69 : decode cX6_readNumber 69 = .ok (.iadd, 1) := by decide +kernel
theorem dX6_readNumber_70 : decode cX6_readNumber 70 = .ok (.putfield 136, 3) := by decide +kernel
theorem dX6_readNumber_73 : decode cX6_readNumber 73 = .ok (.goto (-63), 3) := by decide +kernel
theorem dX6_readNumber_76 : decode cX6_readNumber 76 = .ok (.aload_n 0, 1) := by decide +kernel
theorem dX6_readNumber_77 : decode cX6_readNumber 77 = .ok (.getfield 136, 3) := by decide +kernel
theorem dX6_readNumber_80 : decode cX6_readNumber 80 = .ok (.iload_n 3, 1) := by decide +kernel
theorem dX6_readNumber_81 : decode cX6_readNumber 81 = .ok (.if_icmp .le 7, 3) := by decide +kernel
theorem dX6_readNumber_84 : decode cX6_readNumber 84 = .ok (.iconst 1, 1) := by decide +kernel
theorem dX6_readNumber_85 : decode cX6_readNumber 85 = .ok (.goto 4, 3) := by decide +kernel
theorem dX6_readNumber_88 : decode cX6_readNumber 88 = .ok (.iconst 0, 1) := by decide +kernel
theorem dX6_readNumber_89 : decode cX6_readNumber 89 = .ok (.ireturn, 1) := by decide +kernel
theorem dX6_readPoint_0 : decode cX6_readPoint 0 = .ok (.aload_n 0, 1) := by decide +kernel
theorem dX6_readPoint_1 : decode cX6_readPoint 1 = .ok (.getfield 145, 3) := by decide +kernel
theorem dX6_readPoint_4 : decode cX6_readPoint 4 = .ok (.iconst 4, 1) := by decide +kernel
theorem dX6_readPoint_5 : decode cX6_readPoint 5 = .ok (.if_icmp .ne 5, 3) := by decide +kernel
theorem dX6_readPoint_8 : decode cX6_readPoint 8 = .ok (.iconst 0, 1) := by decide +kernel
theorem dX6_readPoint_9 : decode cX6_readPoint 9 = .ok (.ireturn, 1) := by decide +kernel
theorem dX6_readPoint_10 : decode cX6_readPoint 10 = .ok (.aload_n 0, 1) := by decide +kernel
theorem dX6_readPoint_11 : decode cX6_readPoint 11 = .ok (.dup, 1) := by decide +kernel
theorem dX6_readPoint_12 : decode cX6_readPoint 12 = .ok (.getfield 136, 3) := by decide +kernel
theorem dX6_readPoint_15 : decode cX6_readPoint 15 = .ok (.iconst 1, 1) := by decide +kernel
theorem dX6_readPoint_16 : decode cX6_readPoint 16 = .ok (.iadd, 1) := by decide +kernel
theorem dX6_readPoint_17 : decode cX6_readPoint 17 = .ok (.putfield 136, 3) := by decide +kernel
theorem dX6_readPoint_20 : decode cX6_readPoint 20 = .ok (.aload_n 0, 1) := by decide +kernel
theorem dX6_readPoint_21 : decode cX6_readPoint 21 = .ok (.getfield 145, 3) := by decide +kernel
theorem dX6_readPoint_24 : decode cX6_readPoint 24 = .ok (.istore_n 2, 1) := by decide +kernel
theorem dX6_readPoint_25 : decode cX6_readPoint 25 = .ok (.aload_n 0, 1) := by decide +kernel
theorem dX6_readPoint_26 : decode cX6_readPoint 26 = .ok (.iload_n 1, 1) := by decide +kernel
theorem dX6_readPoint_27 : decode cX6_readPoint 27 = .ok (.iconst 2, 1) := by decide +kernel
theorem dX6_readPoint_28 : decode cX6_readPoint 28 = .ok (.invokevirtual 148, 3) := by decide +kernel
theorem dX6_readPoint_31 : decode cX6_readPoint 31 = .ok (.ifCond .eq 25, 3) := by decide +kernel
theorem dX6_readPoint_34 : decode cX6_readPoint 34 = .ok (.aload_n 0, 1) := by decide +kernel
theorem dX6_readPoint_35 : decode cX6_readPoint 35 = .ok (.getfield 139, 3) := by decide +kernel
theorem dX6_readPoint_38 : decode cX6_readPoint 38 = .ok (.aload_n 0, 1) := by decide +kernel
theorem dX6_readPoint_39 : decode cX6_readPoint 39 = .ok (.getfield 54, 3) := by decide +kernel
theorem dX6_readPoint_42 : decode cX6_readPoint 42 = .ok (.iload_n 2, 1) := by decide +kernel
theorem dX6_readPoint_43 : decode cX6_readPoint 43 = .ok (.iaload, 1) := by decide +kernel
theorem dX6_readPoint_44 : decode cX6_readPoint 44 = .ok (.if_icmp .le 12, 3) := by decide +kernel
theorem dX6_readPoint_47 : decode cX6_readPoint 47 = .ok (.aload_n 0, 1) := by decide +kernel
theorem dX6_readPoint_48 : decode cX6_readPoint 48 = .ok (.getfield 139, 3) := by decide +kernel
theorem dX6_readPoint_51 : decode cX6_readPoint 51 = .ok (.bipush 20, 2) := by decide +kernel
theorem dX6_readPoint_53 : decode cX6_readPoint 53 = .ok (.if_icmp .le 5, 3) := by decide +kernel
theorem dX6_readPoint_56 : decode cX6_readPoint 56 = .ok (.iconst 0, 1) := by decide +kernel
theorem dX6_readPoint_57 : decode cX6_readPoint 57 = .ok (.ireturn, 1) := by decide +kernel
theorem dX6_readPoint_58 : decode cX6_readPoint 58 = .ok (.aload_n 0, 1) := by decide +kernel
theorem dX6_readPoint_59 : decode cX6_readPoint 59 = .ok (.getfield 54, 3) := by decide +kernel
theorem dX6_readPoint_62 : decode cX6_readPoint 62 = .ok (.iload_n 2, 1) := by decide +kernel
theorem dX6_readPoint_63 : decode cX6_readPoint 63 = .ok (.iconst 1, 1) := by decide +kernel
theorem dX6_readPoint_64 : decode cX6_readPoint 64 = .ok (.iadd, 1) := by decide +kernel
theorem dX6_readPoint_65 : decode cX6_readPoint 65 = .ok (.aload_n 0, 1) := by decide +kernel
theorem dX6_readPoint_66 : decode cX6_readPoint 66 = .ok (.getfield 139, 3) := by decide +kernel
theorem dX6_readPoint_69 : decode cX6_readPoint 69 = .ok (.iastore, 1) := by decide +kernel
theorem dX6_readPoint_70 : decode cX6_readPoint 70 = .ok (.aload_n 0, 1) := by decide +kernel
theorem dX6_readPoint_71 : decode cX6_readPoint 71 = .ok (.iload_n 1, 1) := by decide +kernel
theorem dX6_readPoint_72 : decode cX6_readPoint 72 = .ok (.aload_n 0, 1) := by decide +kernel
theorem dX6_readPoint_73 : decode cX6_readPoint 73 = .ok (.getfield 136, 3) := by decide +kernel
theorem dX6_readPoint_76 : decode cX6_readPoint 76 = .ok (.invokevirtual 142, 3) := by decide +kernel
theorem dX6_readPoint_79 : decode cX6_readPoint 79 = .ok (.bipush 58, 2) := by decide +kernel
theorem dX6_readPoint_81 : decode cX6_readPoint 81 = .ok (.if_icmp .eq 5, 3) := by decide +kernel
theorem dX6_readPoint_84 : decode cX6_readPoint 84 = .ok (.iconst 0, 1) := by decide +kernel
theorem dX6_readPoint_85 : decode cX6_readPoint 85 = .ok (.ireturn, 1) := by decide +kernel
theorem dX6_readPoint_86 : decode cX6_readPoint 86 = .ok (.aload_n 0, 1) := by decide +kernel
theorem dX6_readPoint_87 : decode cX6_readPoint 87 = .ok (.dup, 1) := by decide +kernel
theorem dX6_readPoint_88 : decode cX6_readPoint 88 = .ok (.getfield 136, 3) := by decide +kernel
theorem dX6_readPoint_91 : decode cX6_readPoint 91 = .ok (.iconst 1, 1) := by decide +kernel
theorem dX6_readPoint_92 : decode cX6_readPoint 92 = .ok (.iadd, 1) := by decide +kernel
theorem dX6_readPoint_93 : decode cX6_readPoint 93 = .ok (.putfield 136, 3) := by decide +kernel
theorem dX6_readPoint_96 : decode cX6_readPoint 96 = .ok (.aload_n 0, 1) := by decide +kernel
theorem dX6_readPoint_97 : decode cX6_readPoint 97 = .ok (.iload_n 1, 1) := by decide +kernel
theorem dX6_readPoint_98 : decode cX6_readPoint 98 = .ok (.iconst 3, 1) := by decide +kernel
theorem dX6_readPoint_99 : decode cX6_readPoint 99 = .ok (.invokevirtual 148, 3) := by decide +kernel
theorem dX6_readPoint_102 : decode cX6_readPoint 102 = .ok (.ifCond .eq 16, 3) := by decide +kernel
theorem dX6_readPoint_105 : decode cX6_readPoint 105 = .ok (.aload_n 0, 1) := by decide +kernel
theorem dX6_readPoint_106 : decode cX6_readPoint 106 = .ok (.getfield 139, 3) := by decide +kernel
theorem dX6_readPoint_109 : decode cX6_readPoint 109 = .ok (.aload_n 0, 1) := by decide +kernel
theorem dX6_readPoint_110 : decode cX6_readPoint 110 = .ok (.getfield 57, 3) := by decide +kernel
theorem dX6_readPoint_113 : decode cX6_readPoint 113 = .ok (.iload_n 2, 1) := by decide +kernel
theorem dX6_readPoint_114 : decode cX6_readPoint 114 = .ok (.iaload, 1) := by decide +kernel
theorem dX6_readPoint_115 : decode cX6_readPoint 115 = .ok (.if_icmp .gt 5, 3) := by decide +kernel
theorem dX6_readPoint_118 : decode cX6_readPoint 118 = .ok (.iconst 0, 1) := by decide +kernel
theorem dX6_readPoint_119 : decode cX6_readPoint 119 = .ok (.ireturn, 1) := by decide +kernel
theorem dX6_readPoint_120 : decode cX6_readPoint 120 = .ok (.aload_n 0, 1) := by decide +kernel
theorem dX6_readPoint_121 : decode cX6_readPoint 121 = .ok (.getfield 57, 3) := by decide +kernel
theorem dX6_readPoint_124 : decode cX6_readPoint 124 = .ok (.iload_n 2, 1) := by decide +kernel
theorem dX6_readPoint_125 : decode cX6_readPoint 125 = .ok (.iconst 1, 1) := by decide +kernel
theorem dX6_readPoint_126 : decode cX6_readPoint 126 = .ok (.iadd, 1) := by decide +kernel
theorem dX6_readPoint_127 : decode cX6_readPoint 127 = .ok (.aload_n 0, 1) := by decide +kernel
theorem dX6_readPoint_128 : decode cX6_readPoint 128 = .ok (.getfield 139, 3) := by decide +kernel
theorem dX6_readPoint_131 : decode cX6_readPoint 131 = .ok (.iastore, 1) := by decide +kernel
theorem dX6_readPoint_132 : decode cX6_readPoint 132 = .ok (.aload_n 0, 1) := by decide +kernel
theorem dX6_readPoint_133 : decode cX6_readPoint 133 = .ok (.dup, 1) := by decide +kernel
theorem dX6_readPoint_134 : decode cX6_readPoint 134 = .ok (.getfield 145, 3) := by decide +kernel
theorem dX6_readPoint_137 : decode cX6_readPoint 137 = .ok (.iconst 1, 1) := by decide +kernel
theorem dX6_readPoint_138 : decode cX6_readPoint 138 = .ok (.iadd, 1) := by decide +kernel
theorem dX6_readPoint_139 : decode cX6_readPoint 139 = .ok (.putfield 145, 3) := by decide +kernel
theorem dX6_readPoint_142 : decode cX6_readPoint 142 = .ok (.iconst 1, 1) := by decide +kernel
theorem dX6_readPoint_143 : decode cX6_readPoint 143 = .ok (.ireturn, 1) := by decide +kernel
theorem dX6_letterOf_0 : decode cX6_letterOf 0 = .ok (.iload_n 0, 1) := by decide +kernel
theorem dX6_letterOf_1 : decode cX6_letterOf 1 = .ok (.bipush 84, 2) := by decide +kernel
theorem dX6_letterOf_3 : decode cX6_letterOf 3 = .ok (.if_icmp .ne 7, 3) := by decide +kernel
theorem dX6_letterOf_6 : decode cX6_letterOf 6 = .ok (.iconst 0, 1) := by decide +kernel
theorem dX6_letterOf_7 : decode cX6_letterOf 7 = .ok (.goto 35, 3) := by decide +kernel
theorem dX6_letterOf_10 : decode cX6_letterOf 10 = .ok (.iload_n 0, 1) := by decide +kernel
theorem dX6_letterOf_11 : decode cX6_letterOf 11 = .ok (.bipush 67, 2) := by decide +kernel
theorem dX6_letterOf_13 : decode cX6_letterOf 13 = .ok (.if_icmp .ne 7, 3) := by decide +kernel
theorem dX6_letterOf_16 : decode cX6_letterOf 16 = .ok (.iconst 1, 1) := by decide +kernel
theorem dX6_letterOf_17 : decode cX6_letterOf 17 = .ok (.goto 25, 3) := by decide +kernel
theorem dX6_letterOf_20 : decode cX6_letterOf 20 = .ok (.iload_n 0, 1) := by decide +kernel
theorem dX6_letterOf_21 : decode cX6_letterOf 21 = .ok (.bipush 87, 2) := by decide +kernel
theorem dX6_letterOf_23 : decode cX6_letterOf 23 = .ok (.if_icmp .ne 7, 3) := by decide +kernel
theorem dX6_letterOf_26 : decode cX6_letterOf 26 = .ok (.iconst 2, 1) := by decide +kernel
theorem dX6_letterOf_27 : decode cX6_letterOf 27 = .ok (.goto 15, 3) := by decide +kernel
theorem dX6_letterOf_30 : decode cX6_letterOf 30 = .ok (.iload_n 0, 1) := by decide +kernel
theorem dX6_letterOf_31 : decode cX6_letterOf 31 = .ok (.bipush 71, 2) := by decide +kernel
theorem dX6_letterOf_33 : decode cX6_letterOf 33 = .ok (.if_icmp .ne 7, 3) := by decide +kernel
theorem dX6_letterOf_36 : decode cX6_letterOf 36 = .ok (.iconst 3, 1) := by decide +kernel
theorem dX6_letterOf_37 : decode cX6_letterOf 37 = .ok (.goto 5, 3) := by decide +kernel
theorem dX6_letterOf_40 : decode cX6_letterOf 40 = .ok (.bipush (-9), 2) := by decide +kernel
theorem dX6_letterOf_42 : decode cX6_letterOf 42 = .ok (.ireturn, 1) := by decide +kernel
theorem dX6_readItem_0 : decode cX6_readItem 0 = .ok (.aload_n 0, 1) := by decide +kernel
theorem dX6_readItem_1 : decode cX6_readItem 1 = .ok (.iload_n 1, 1) := by decide +kernel
theorem dX6_readItem_2 : decode cX6_readItem 2 = .ok (.aload_n 0, 1) := by decide +kernel
theorem dX6_readItem_3 : decode cX6_readItem 3 = .ok (.getfield 136, 3) := by decide +kernel
theorem dX6_readItem_6 : decode cX6_readItem 6 = .ok (.invokevirtual 142, 3) := by decide +kernel
theorem dX6_readItem_9 : decode cX6_readItem 9 = .ok (.bipush 80, 2) := by decide +kernel
theorem dX6_readItem_11 : decode cX6_readItem 11 = .ok (.if_icmp .ne 9, 3) := by decide +kernel
theorem dX6_readItem_14 : decode cX6_readItem 14 = .ok (.aload_n 0, 1) := by decide +kernel
theorem dX6_readItem_15 : decode cX6_readItem 15 = .ok (.iload_n 1, 1) := by decide +kernel
theorem dX6_readItem_16 : decode cX6_readItem 16 = .ok (.invokevirtual 152, 3) := by decide +kernel
theorem dX6_readItem_19 : decode cX6_readItem 19 = .ok (.ireturn, 1) := by decide +kernel
theorem dX6_readItem_20 : decode cX6_readItem 20 = .ok (.aload_n 0, 1) := by decide +kernel
theorem dX6_readItem_21 : decode cX6_readItem 21 = .ok (.iload_n 1, 1) := by decide +kernel
theorem dX6_readItem_22 : decode cX6_readItem 22 = .ok (.aload_n 0, 1) := by decide +kernel
theorem dX6_readItem_23 : decode cX6_readItem 23 = .ok (.getfield 136, 3) := by decide +kernel
theorem dX6_readItem_26 : decode cX6_readItem 26 = .ok (.invokevirtual 142, 3) := by decide +kernel
theorem dX6_readItem_29 : decode cX6_readItem 29 = .ok (.invokestatic 155, 3) := by decide +kernel
theorem dX6_readItem_32 : decode cX6_readItem 32 = .ok (.istore_n 2, 1) := by decide +kernel
theorem dX6_readItem_33 : decode cX6_readItem 33 = .ok (.iload_n 2, 1) := by decide +kernel
theorem dX6_readItem_34 : decode cX6_readItem 34 = .ok (.bipush (-9), 2) := by decide +kernel
theorem dX6_readItem_36 : decode cX6_readItem 36 = .ok (.if_icmp .ne 5, 3) := by decide +kernel
theorem dX6_readItem_39 : decode cX6_readItem 39 = .ok (.iconst 0, 1) := by decide +kernel
theorem dX6_readItem_40 : decode cX6_readItem 40 = .ok (.ireturn, 1) := by decide +kernel
theorem dX6_readItem_41 : decode cX6_readItem 41 = .ok (.aload_n 0, 1) := by decide +kernel
theorem dX6_readItem_42 : decode cX6_readItem 42 = .ok (.dup, 1) := by decide +kernel
theorem dX6_readItem_43 : decode cX6_readItem 43 = .ok (.getfield 136, 3) := by decide +kernel
theorem dX6_readItem_46 : decode cX6_readItem 46 = .ok (.iconst 1, 1) := by decide +kernel
theorem dX6_readItem_47 : decode cX6_readItem 47 = .ok (.iadd, 1) := by decide +kernel
theorem dX6_readItem_48 : decode cX6_readItem 48 = .ok (.putfield 136, 3) := by decide +kernel
theorem dX6_readItem_51 : decode cX6_readItem 51 = .ok (.iload_n 2, 1) := by decide +kernel
theorem dX6_readItem_52 : decode cX6_readItem 52 = .ok (.iconst 1, 1) := by decide +kernel
theorem dX6_readItem_53 : decode cX6_readItem 53 = .ok (.if_icmp .ne 21, 3) := by decide +kernel
theorem dX6_readItem_56 : decode cX6_readItem 56 = .ok (.aload_n 0, 1) := by decide +kernel
theorem dX6_readItem_57 : decode cX6_readItem 57 = .ok (.iload_n 1, 1) := by decide +kernel
theorem dX6_readItem_58 : decode cX6_readItem 58 = .ok (.aload_n 0, 1) := by decide +kernel
theorem dX6_readItem_59 : decode cX6_readItem 59 = .ok (.getfield 136, 3) := by decide +kernel
theorem dX6_readItem_62 : decode cX6_readItem 62 = .ok (.invokevirtual 142, 3) := by decide +kernel
theorem dX6_readItem_65 : decode cX6_readItem 65 = .ok (.bipush 45, 2) := by decide +kernel
theorem dX6_readItem_67 : decode cX6_readItem 67 = .ok (.if_icmp .ne 7, 3) := by decide +kernel
theorem dX6_readItem_70 : decode cX6_readItem 70 = .ok (.iconst 1, 1) := by decide +kernel
theorem dX6_readItem_71 : decode cX6_readItem 71 = .ok (.goto 4, 3) := by decide +kernel
theorem dX6_readItem_74 : decode cX6_readItem 74 = .ok (.iconst 0, 1) := by decide +kernel
theorem dX6_readItem_75 : decode cX6_readItem 75 = .ok (.istore_n 3, 1) := by decide +kernel
theorem dX6_readItem_76 : decode cX6_readItem 76 = .ok (.aload_n 0, 1) := by decide +kernel
theorem dX6_readItem_77 : decode cX6_readItem 77 = .ok (.dup, 1) := by decide +kernel
theorem dX6_readItem_78 : decode cX6_readItem 78 = .ok (.getfield 136, 3) := by decide +kernel
theorem dX6_readItem_81 : decode cX6_readItem 81 = .ok (.iload_n 3, 1) := by decide +kernel
theorem dX6_readItem_82 : decode cX6_readItem 82 = .ok (.ifCond .eq 7, 3) := by decide +kernel
theorem dX6_readItem_85 : decode cX6_readItem 85 = .ok (.iconst 1, 1) := by decide +kernel
theorem dX6_readItem_86 : decode cX6_readItem 86 = .ok (.goto 4, 3) := by decide +kernel
theorem dX6_readItem_89 : decode cX6_readItem 89 = .ok (.iconst 0, 1) := by decide +kernel
theorem dX6_readItem_90 : decode cX6_readItem 90 = .ok (.iadd, 1) := by decide +kernel
theorem dX6_readItem_91 : decode cX6_readItem 91 = .ok (.putfield 136, 3) := by decide +kernel
theorem dX6_readItem_94 : decode cX6_readItem 94 = .ok (.aload_n 0, 1) := by decide +kernel
theorem dX6_readItem_95 : decode cX6_readItem 95 = .ok (.iload_n 1, 1) := by decide +kernel
theorem dX6_readItem_96 : decode cX6_readItem 96 = .ok (.iconst 2, 1) := by decide +kernel
theorem dX6_readItem_97 : decode cX6_readItem 97 = .ok (.invokevirtual 148, 3) := by decide +kernel
theorem dX6_readItem_100 : decode cX6_readItem 100 = .ok (.ifCond .ne 5, 3) := by decide +kernel
theorem dX6_readItem_103 : decode cX6_readItem 103 = .ok (.iconst 0, 1) := by decide +kernel
theorem dX6_readItem_104 : decode cX6_readItem 104 = .ok (.ireturn, 1) := by decide +kernel
theorem dX6_readItem_105 : decode cX6_readItem 105 = .ok (.aload_n 0, 1) := by decide +kernel
theorem dX6_readItem_106 : decode cX6_readItem 106 = .ok (.getfield 60, 3) := by decide +kernel
theorem dX6_readItem_109 : decode cX6_readItem 109 = .ok (.iload_n 2, 1) := by decide +kernel
theorem dX6_readItem_110 : decode cX6_readItem 110 = .ok (.iload_n 3, 1) := by decide +kernel
theorem dX6_readItem_111 : decode cX6_readItem 111 = .ok (.ifCond .eq 11, 3) := by decide +kernel
theorem dX6_readItem_114 : decode cX6_readItem 114 = .ok (.aload_n 0, 1) := by decide +kernel
theorem dX6_readItem_115 : decode cX6_readItem 115 = .ok (.getfield 139, 3) := by decide +kernel
theorem dX6_readItem_118 : decode cX6_readItem 118 = .ok (.ineg, 1) := by decide +kernel
theorem dX6_readItem_119 : decode cX6_readItem 119 = .ok (.goto 7, 3) := by decide +kernel
theorem dX6_readItem_122 : decode cX6_readItem 122 = .ok (.aload_n 0, 1) := by decide +kernel
theorem dX6_readItem_123 : decode cX6_readItem 123 = .ok (.getfield 139, 3) := by decide +kernel
theorem dX6_readItem_126 : decode cX6_readItem 126 = .ok (.iastore, 1) := by decide +kernel
theorem dX6_readItem_127 : decode cX6_readItem 127 = .ok (.iconst 1, 1) := by decide +kernel
theorem dX6_readItem_128 : decode cX6_readItem 128 = .ok (.ireturn, 1) := by decide +kernel
theorem dX6_faultOf_0 : decode cX6_faultOf 0 = .ok (.aload_n 0, 1) := by decide +kernel
theorem dX6_faultOf_1 : decode cX6_faultOf 1 = .ok (.iconst 0, 1) := by decide +kernel
theorem dX6_faultOf_2 : decode cX6_faultOf 2 = .ok (.putfield 145, 3) := by decide +kernel
theorem dX6_faultOf_5 : decode cX6_faultOf 5 = .ok (.iconst 0, 1) := by decide +kernel
theorem dX6_faultOf_6 : decode cX6_faultOf 6 = .ok (.istore_n 2, 1) := by decide +kernel
theorem dX6_faultOf_7 : decode cX6_faultOf 7 = .ok (.iload_n 2, 1) := by decide +kernel
theorem dX6_faultOf_8 : decode cX6_faultOf 8 = .ok (.iconst 4, 1) := by decide +kernel
theorem dX6_faultOf_9 : decode cX6_faultOf 9 = .ok (.if_icmp .ge 26, 3) := by decide +kernel
theorem dX6_faultOf_12 : decode cX6_faultOf 12 = .ok (.aload_n 0, 1) := by decide +kernel
theorem dX6_faultOf_13 : decode cX6_faultOf 13 = .ok (.getfield 60, 3) := by decide +kernel
theorem dX6_faultOf_16 : decode cX6_faultOf 16 = .ok (.iload_n 2, 1) := by decide +kernel
theorem dX6_faultOf_17 : decode cX6_faultOf 17 = .ok (.iload_n 2, 1) := by decide +kernel
theorem dX6_faultOf_18 : decode cX6_faultOf 18 = .ok (.iconst 1, 1) := by decide +kernel
theorem dX6_faultOf_19 : decode cX6_faultOf 19 = .ok (.if_icmp .ne 8, 3) := by decide +kernel
theorem dX6_faultOf_22 : decode cX6_faultOf 22 = .ok (.bipush (-99), 2) := by decide +kernel
theorem dX6_faultOf_24 : decode cX6_faultOf 24 = .ok (.goto 4, 3) := by decide +kernel
theorem dX6_faultOf_27 : decode cX6_faultOf 27 = .ok (.iconst 0, 1) := by decide +kernel
theorem dX6_faultOf_28 : decode cX6_faultOf 28 = .ok (.iastore, 1) := by decide +kernel
theorem dX6_faultOf_29 : decode cX6_faultOf 29 = .ok (.iinc 2 1, 3) := by decide +kernel
theorem dX6_faultOf_32 : decode cX6_faultOf 32 = .ok (.goto (-25), 3) := by decide +kernel
theorem dX6_faultOf_35 : decode cX6_faultOf 35 = .ok (.aload_n 0, 1) := by decide +kernel
theorem dX6_faultOf_36 : decode cX6_faultOf 36 = .ok (.iconst 0, 1) := by decide +kernel
theorem dX6_faultOf_37 : decode cX6_faultOf 37 = .ok (.putfield 136, 3) := by decide +kernel
theorem dX6_faultOf_40 : decode cX6_faultOf 40 = .ok (.aload_n 0, 1) := by decide +kernel
theorem dX6_faultOf_41 : decode cX6_faultOf 41 = .ok (.getfield 136, 3) := by decide +kernel
theorem dX6_faultOf_44 : decode cX6_faultOf 44 = .ok (.aload_n 0, 1) := by decide +kernel
theorem dX6_faultOf_45 : decode cX6_faultOf 45 = .ok (.getfield 22, 3) := by decide +kernel
theorem dX6_faultOf_48 : decode cX6_faultOf 48 = .ok (.iload_n 1, 1) := by decide +kernel
theorem dX6_faultOf_49 : decode cX6_faultOf 49 = .ok (.iaload, 1) := by decide +kernel
theorem dX6_faultOf_50 : decode cX6_faultOf 50 = .ok (.if_icmp .ge 43, 3) := by decide +kernel
theorem dX6_faultOf_53 : decode cX6_faultOf 53 = .ok (.aload_n 0, 1) := by decide +kernel
theorem dX6_faultOf_54 : decode cX6_faultOf 54 = .ok (.iload_n 1, 1) := by decide +kernel
theorem dX6_faultOf_55 : decode cX6_faultOf 55 = .ok (.aload_n 0, 1) := by decide +kernel
theorem dX6_faultOf_56 : decode cX6_faultOf 56 = .ok (.getfield 136, 3) := by decide +kernel
theorem dX6_faultOf_59 : decode cX6_faultOf 59 = .ok (.invokevirtual 142, 3) := by decide +kernel
theorem dX6_faultOf_62 : decode cX6_faultOf 62 = .ok (.bipush 32, 2) := by decide +kernel
theorem dX6_faultOf_64 : decode cX6_faultOf 64 = .ok (.if_icmp .ne 16, 3) := by decide +kernel
theorem dX6_faultOf_67 : decode cX6_faultOf 67 = .ok (.aload_n 0, 1) := by decide +kernel
theorem dX6_faultOf_68 : decode cX6_faultOf 68 = .ok (.dup, 1) := by decide +kernel
theorem dX6_faultOf_69 : decode cX6_faultOf 69 = .ok (.getfield 136, 3) := by decide +kernel
theorem dX6_faultOf_72 : decode cX6_faultOf 72 = .ok (.iconst 1, 1) := by decide +kernel
theorem dX6_faultOf_73 : decode cX6_faultOf 73 = .ok (.iadd, 1) := by decide +kernel
theorem dX6_faultOf_74 : decode cX6_faultOf 74 = .ok (.putfield 136, 3) := by decide +kernel
theorem dX6_faultOf_77 : decode cX6_faultOf 77 = .ok (.goto (-37), 3) := by decide +kernel
theorem dX6_faultOf_80 : decode cX6_faultOf 80 = .ok (.aload_n 0, 1) := by decide +kernel
theorem dX6_faultOf_81 : decode cX6_faultOf 81 = .ok (.iload_n 1, 1) := by decide +kernel
theorem dX6_faultOf_82 : decode cX6_faultOf 82 = .ok (.invokevirtual 158, 3) := by decide +kernel
theorem dX6_faultOf_85 : decode cX6_faultOf 85 = .ok (.ifCond .ne (-45), 3) := by decide +kernel
theorem dX6_faultOf_88 : decode cX6_faultOf 88 = .ok (.aload_n 0, 1) := by decide +kernel
theorem dX6_faultOf_89 : decode cX6_faultOf 89 = .ok (.getfield 136, 3) := by decide +kernel
theorem dX6_faultOf_92 : decode cX6_faultOf 92 = .ok (.ireturn, 1) := by decide +kernel
theorem dX6_faultOf_93 : decode cX6_faultOf 93 = .ok (.aload_n 0, 1) := by decide +kernel
theorem dX6_faultOf_94 : decode cX6_faultOf 94 = .ok (.getfield 145, 3) := by decide +kernel
theorem dX6_faultOf_97 : decode cX6_faultOf 97 = .ok (.ifCond .ne 12, 3) := by decide +kernel
theorem dX6_faultOf_100 : decode cX6_faultOf 100 = .ok (.aload_n 0, 1) := by decide +kernel
theorem dX6_faultOf_101 : decode cX6_faultOf 101 = .ok (.getfield 22, 3) := by decide +kernel
theorem dX6_faultOf_104 : decode cX6_faultOf 104 = .ok (.iload_n 1, 1) := by decide +kernel
theorem dX6_faultOf_105 : decode cX6_faultOf 105 = .ok (.iaload, 1) := by decide +kernel
theorem dX6_faultOf_106 : decode cX6_faultOf 106 = .ok (.goto 5, 3) := by decide +kernel
theorem dX6_faultOf_109 : decode cX6_faultOf 109 = .ok (.bipush (-9), 2) := by decide +kernel
theorem dX6_faultOf_111 : decode cX6_faultOf 111 = .ok (.ireturn, 1) := by decide +kernel
theorem dX6_fault_0 : decode cX6_fault 0 = .ok (.iload_n 1, 1) := by decide +kernel
theorem dX6_fault_1 : decode cX6_fault 1 = .ok (.invokestatic 133, 3) := by decide +kernel
theorem dX6_fault_4 : decode cX6_fault 4 = .ok (.ifCond .ne 5, 3) := by decide +kernel
theorem dX6_fault_7 : decode cX6_fault 7 = .ok (.iconst (-1), 1) := by decide +kernel
theorem dX6_fault_8 : decode cX6_fault 8 = .ok (.ireturn, 1) := by decide +kernel
theorem dX6_fault_9 : decode cX6_fault 9 = .ok (.aload_n 0, 1) := by decide +kernel
theorem dX6_fault_10 : decode cX6_fault 10 = .ok (.getfield 22, 3) := by decide +kernel
theorem dX6_fault_13 : decode cX6_fault 13 = .ok (.iload_n 1, 1) := by decide +kernel
theorem dX6_fault_14 : decode cX6_fault 14 = .ok (.iaload, 1) := by decide +kernel
theorem dX6_fault_15 : decode cX6_fault 15 = .ok (.ifCond .ge 11, 3) := by decide +kernel
theorem dX6_fault_18 : decode cX6_fault 18 = .ok (.aload_n 0, 1) := by decide +kernel
theorem dX6_fault_19 : decode cX6_fault 19 = .ok (.iconst 1, 1) := by decide +kernel
theorem dX6_fault_20 : decode cX6_fault 20 = .ok (.invokevirtual 122, 3) := by decide +kernel
theorem dX6_fault_23 : decode cX6_fault 23 = .ok (.goto 8, 3) := by decide +kernel
theorem dX6_fault_26 : decode cX6_fault 26 = .ok (.aload_n 0, 1) := by decide +kernel
theorem dX6_fault_27 : decode cX6_fault 27 = .ok (.iload_n 1, 1) := by decide +kernel
theorem dX6_fault_28 : decode cX6_fault 28 = .ok (.invokevirtual 161, 3) := by decide +kernel
theorem dX6_fault_31 : decode cX6_fault 31 = .ok (.ireturn, 1) := by decide +kernel
theorem dX6_stuff_0 : decode cX6_stuff 0 = .ok (.iload_n 1, 1) := by decide +kernel
theorem dX6_stuff_1 : decode cX6_stuff 1 = .ok (.iconst 0, 1) := by decide +kernel
theorem dX6_stuff_2 : decode cX6_stuff 2 = .ok (.iconst 5, 1) := by decide +kernel
theorem dX6_stuff_3 : decode cX6_stuff 3 = .ok (.invokestatic 104, 3) := by decide +kernel
theorem dX6_stuff_6 : decode cX6_stuff 6 = .ok (.ifCond .eq 10, 3) := by decide +kernel
theorem dX6_stuff_9 : decode cX6_stuff 9 = .ok (.iload_n 2, 1) := by decide +kernel
theorem dX6_stuff_10 : decode cX6_stuff 10 = .ok (.invokestatic 133, 3) := by decide +kernel
theorem dX6_stuff_13 : decode cX6_stuff 13 = .ok (.ifCond .ne 5, 3) := by decide +kernel
theorem dX6_stuff_16 : decode cX6_stuff 16 = .ok (.iconst (-1), 1) := by decide +kernel
theorem dX6_stuff_17 : decode cX6_stuff 17 = .ok (.ireturn, 1) := by decide +kernel
theorem dX6_stuff_18 : decode cX6_stuff 18 = .ok (.aload_n 0, 1) := by decide +kernel
theorem dX6_stuff_19 : decode cX6_stuff 19 = .ok (.getfield 22, 3) := by decide +kernel
theorem dX6_stuff_22 : decode cX6_stuff 22 = .ok (.iload_n 2, 1) := by decide +kernel
theorem dX6_stuff_23 : decode cX6_stuff 23 = .ok (.iaload, 1) := by decide +kernel
theorem dX6_stuff_24 : decode cX6_stuff 24 = .ok (.ifCond .ge 9, 3) := by decide +kernel
theorem dX6_stuff_27 : decode cX6_stuff 27 = .ok (.aload_n 0, 1) := by decide +kernel
theorem dX6_stuff_28 : decode cX6_stuff 28 = .ok (.iconst 1, 1) := by decide +kernel
theorem dX6_stuff_29 : decode cX6_stuff 29 = .ok (.invokevirtual 122, 3) := by decide +kernel
theorem dX6_stuff_32 : decode cX6_stuff 32 = .ok (.ireturn, 1) := by decide +kernel
theorem dX6_stuff_33 : decode cX6_stuff 33 = .ok (.aload_n 0, 1) := by decide +kernel
theorem dX6_stuff_34 : decode cX6_stuff 34 = .ok (.iload_n 2, 1) := by decide +kernel
theorem dX6_stuff_35 : decode cX6_stuff 35 = .ok (.invokevirtual 161, 3) := by decide +kernel
theorem dX6_stuff_38 : decode cX6_stuff 38 = .ok (.bipush (-9), 2) := by decide +kernel
theorem dX6_stuff_40 : decode cX6_stuff 40 = .ok (.if_icmp .eq 6, 3) := by decide +kernel
theorem dX6_stuff_43 : decode cX6_stuff 43 = .ok (.bipush (-4), 2) := by decide +kernel
theorem dX6_stuff_45 : decode cX6_stuff 45 = .ok (.ireturn, 1) := by decide +kernel
theorem dX6_stuff_46 : decode cX6_stuff 46 = .ok (.aload_n 0, 1) := by decide +kernel
theorem dX6_stuff_47 : decode cX6_stuff 47 = .ok (.getfield 29, 3) := by decide +kernel
theorem dX6_stuff_50 : decode cX6_stuff 50 = .ok (.iload_n 1, 1) := by decide +kernel
theorem dX6_stuff_51 : decode cX6_stuff 51 = .ok (.iconst 1, 1) := by decide +kernel
theorem dX6_stuff_52 : decode cX6_stuff 52 = .ok (.bastore, 1) := by decide +kernel
theorem dX6_stuff_53 : decode cX6_stuff 53 = .ok (.aload_n 0, 1) := by decide +kernel
theorem dX6_stuff_54 : decode cX6_stuff 54 = .ok (.getfield 33, 3) := by decide +kernel
theorem dX6_stuff_57 : decode cX6_stuff 57 = .ok (.iload_n 1, 1) := by decide +kernel
theorem dX6_stuff_58 : decode cX6_stuff 58 = .ok (.aload_n 0, 1) := by decide +kernel
theorem dX6_stuff_59 : decode cX6_stuff 59 = .ok (.getfield 145, 3) := by decide +kernel
theorem dX6_stuff_62 : decode cX6_stuff 62 = .ok (.iastore, 1) := by decide +kernel
theorem dX6_stuff_63 : decode cX6_stuff 63 = .ok (.iconst 1, 1) := by decide +kernel
theorem dX6_stuff_64 : decode cX6_stuff 64 = .ok (.istore_n 3, 1) := by decide +kernel
theorem dX6_stuff_65 : decode cX6_stuff 65 = .ok (.iload_n 3, 1) := by decide +kernel
theorem dX6_stuff_66 : decode cX6_stuff 66 = .ok (.aload_n 0, 1) := by decide +kernel
theorem dX6_stuff_67 : decode cX6_stuff 67 = .ok (.getfield 145, 3) := by decide +kernel
theorem dX6_stuff_70 : decode cX6_stuff 70 = .ok (.if_icmp .gt 41, 3) := by decide +kernel
theorem dX6_stuff_73 : decode cX6_stuff 73 = .ok (.aload_n 0, 1) := by decide +kernel
theorem dX6_stuff_74 : decode cX6_stuff 74 = .ok (.getfield 36, 3) := by decide +kernel
theorem dX6_stuff_77 : decode cX6_stuff 77 = .ok (.iconst 5, 1) := by decide +kernel
theorem dX6_stuff_78 : decode cX6_stuff 78 = .ok (.iload_n 1, 1) := by decide +kernel
theorem dX6_stuff_79 : decode cX6_stuff 79 = .ok (.imul, 1) := by decide +kernel
theorem dX6_stuff_80 : decode cX6_stuff 80 = .ok (.iload_n 3, 1) := by decide +kernel
theorem dX6_stuff_81 : decode cX6_stuff 81 = .ok (.iadd, 1) := by decide +kernel
theorem dX6_stuff_82 : decode cX6_stuff 82 = .ok (.aload_n 0, 1) := by decide +kernel
theorem dX6_stuff_83 : decode cX6_stuff 83 = .ok (.getfield 54, 3) := by decide +kernel
theorem dX6_stuff_86 : decode cX6_stuff 86 = .ok (.iload_n 3, 1) := by decide +kernel
theorem dX6_stuff_87 : decode cX6_stuff 87 = .ok (.iaload, 1) := by decide +kernel
theorem dX6_stuff_88 : decode cX6_stuff 88 = .ok (.iastore, 1) := by decide +kernel
theorem dX6_stuff_89 : decode cX6_stuff 89 = .ok (.aload_n 0, 1) := by decide +kernel
theorem dX6_stuff_90 : decode cX6_stuff 90 = .ok (.getfield 39, 3) := by decide +kernel
theorem dX6_stuff_93 : decode cX6_stuff 93 = .ok (.iconst 5, 1) := by decide +kernel
theorem dX6_stuff_94 : decode cX6_stuff 94 = .ok (.iload_n 1, 1) := by decide +kernel
theorem dX6_stuff_95 : decode cX6_stuff 95 = .ok (.imul, 1) := by decide +kernel
theorem dX6_stuff_96 : decode cX6_stuff 96 = .ok (.iload_n 3, 1) := by decide +kernel
theorem dX6_stuff_97 : decode cX6_stuff 97 = .ok (.iadd, 1) := by decide +kernel
theorem dX6_stuff_98 : decode cX6_stuff 98 = .ok (.aload_n 0, 1) := by decide +kernel
theorem dX6_stuff_99 : decode cX6_stuff 99 = .ok (.getfield 57, 3) := by decide +kernel
theorem dX6_stuff_102 : decode cX6_stuff 102 = .ok (.iload_n 3, 1) := by decide +kernel
theorem dX6_stuff_103 : decode cX6_stuff 103 = .ok (.iaload, 1) := by decide +kernel
theorem dX6_stuff_104 : decode cX6_stuff 104 = .ok (.iastore, 1) := by decide +kernel
theorem dX6_stuff_105 : decode cX6_stuff 105 = .ok (.iinc 3 1, 3) := by decide +kernel
theorem dX6_stuff_108 : decode cX6_stuff 108 = .ok (.goto (-43), 3) := by decide +kernel
theorem dX6_stuff_111 : decode cX6_stuff 111 = .ok (.aload_n 0, 1) := by decide +kernel
theorem dX6_stuff_112 : decode cX6_stuff 112 = .ok (.getfield 42, 3) := by decide +kernel
theorem dX6_stuff_115 : decode cX6_stuff 115 = .ok (.iload_n 1, 1) := by decide +kernel
theorem dX6_stuff_116 : decode cX6_stuff 116 = .ok (.aload_n 0, 1) := by decide +kernel
theorem dX6_stuff_117 : decode cX6_stuff 117 = .ok (.getfield 60, 3) := by decide +kernel
theorem dX6_stuff_120 : decode cX6_stuff 120 = .ok (.iconst 0, 1) := by decide +kernel
theorem dX6_stuff_121 : decode cX6_stuff 121 = .ok (.iaload, 1) := by decide +kernel
theorem dX6_stuff_122 : decode cX6_stuff 122 = .ok (.iastore, 1) := by decide +kernel
theorem dX6_stuff_123 : decode cX6_stuff 123 = .ok (.aload_n 0, 1) := by decide +kernel
theorem dX6_stuff_124 : decode cX6_stuff 124 = .ok (.getfield 45, 3) := by decide +kernel
theorem dX6_stuff_127 : decode cX6_stuff 127 = .ok (.iload_n 1, 1) := by decide +kernel
theorem dX6_stuff_128 : decode cX6_stuff 128 = .ok (.aload_n 0, 1) := by decide +kernel
theorem dX6_stuff_129 : decode cX6_stuff 129 = .ok (.getfield 60, 3) := by decide +kernel
theorem dX6_stuff_132 : decode cX6_stuff 132 = .ok (.iconst 1, 1) := by decide +kernel
theorem dX6_stuff_133 : decode cX6_stuff 133 = .ok (.iaload, 1) := by decide +kernel
theorem dX6_stuff_134 : decode cX6_stuff 134 = .ok (.iastore, 1) := by decide +kernel
theorem dX6_stuff_135 : decode cX6_stuff 135 = .ok (.aload_n 0, 1) := by decide +kernel
theorem dX6_stuff_136 : decode cX6_stuff 136 = .ok (.getfield 48, 3) := by decide +kernel
theorem dX6_stuff_139 : decode cX6_stuff 139 = .ok (.iload_n 1, 1) := by decide +kernel
theorem dX6_stuff_140 : decode cX6_stuff 140 = .ok (.aload_n 0, 1) := by decide +kernel
theorem dX6_stuff_141 : decode cX6_stuff 141 = .ok (.getfield 60, 3) := by decide +kernel
theorem dX6_stuff_144 : decode cX6_stuff 144 = .ok (.iconst 2, 1) := by decide +kernel
theorem dX6_stuff_145 : decode cX6_stuff 145 = .ok (.iaload, 1) := by decide +kernel
theorem dX6_stuff_146 : decode cX6_stuff 146 = .ok (.iastore, 1) := by decide +kernel
theorem dX6_stuff_147 : decode cX6_stuff 147 = .ok (.aload_n 0, 1) := by decide +kernel
theorem dX6_stuff_148 : decode cX6_stuff 148 = .ok (.getfield 51, 3) := by decide +kernel
theorem dX6_stuff_151 : decode cX6_stuff 151 = .ok (.iload_n 1, 1) := by decide +kernel
theorem dX6_stuff_152 : decode cX6_stuff 152 = .ok (.aload_n 0, 1) := by decide +kernel
theorem dX6_stuff_153 : decode cX6_stuff 153 = .ok (.getfield 60, 3) := by decide +kernel
theorem dX6_stuff_156 : decode cX6_stuff 156 = .ok (.iconst 3, 1) := by decide +kernel
theorem dX6_stuff_157 : decode cX6_stuff 157 = .ok (.iaload, 1) := by decide +kernel
theorem dX6_stuff_158 : decode cX6_stuff 158 = .ok (.iastore, 1) := by decide +kernel
theorem dX6_stuff_159 : decode cX6_stuff 159 = .ok (.aload_n 0, 1) := by decide +kernel
theorem dX6_stuff_160 : decode cX6_stuff 160 = .ok (.getfield 145, 3) := by decide +kernel
theorem dX6_stuff_163 : decode cX6_stuff 163 = .ok (.ireturn, 1) := by decide +kernel
theorem dX6_stuffTells_0 : decode cX6_stuffTells 0 = .ok (.iload_n 2, 1) := by decide +kernel
theorem dX6_stuffTells_1 : decode cX6_stuffTells 1 = .ok (.ifCond .ne 12, 3) := by decide +kernel
theorem dX6_stuffTells_4 : decode cX6_stuffTells 4 = .ok (.aload_n 0, 1) := by decide +kernel
theorem dX6_stuffTells_5 : decode cX6_stuffTells 5 = .ok (.getfield 33, 3) := by decide +kernel
theorem dX6_stuffTells_8 : decode cX6_stuffTells 8 = .ok (.iload_n 1, 1) := by decide +kernel
theorem dX6_stuffTells_9 : decode cX6_stuffTells 9 = .ok (.iaload, 1) := by decide +kernel
theorem dX6_stuffTells_10 : decode cX6_stuffTells 10 = .ok (.goto 51, 3) := by decide +kernel
theorem dX6_stuffTells_13 : decode cX6_stuffTells 13 = .ok (.iload_n 2, 1) := by decide +kernel
theorem dX6_stuffTells_14 : decode cX6_stuffTells 14 = .ok (.iconst 1, 1) := by decide +kernel
theorem dX6_stuffTells_15 : decode cX6_stuffTells 15 = .ok (.if_icmp .ne 12, 3) := by decide +kernel
theorem dX6_stuffTells_18 : decode cX6_stuffTells 18 = .ok (.aload_n 0, 1) := by decide +kernel
theorem dX6_stuffTells_19 : decode cX6_stuffTells 19 = .ok (.getfield 42, 3) := by decide +kernel
theorem dX6_stuffTells_22 : decode cX6_stuffTells 22 = .ok (.iload_n 1, 1) := by decide +kernel
theorem dX6_stuffTells_23 : decode cX6_stuffTells 23 = .ok (.iaload, 1) := by decide +kernel
theorem dX6_stuffTells_24 : decode cX6_stuffTells 24 = .ok (.goto 37, 3) := by decide +kernel
theorem dX6_stuffTells_27 : decode cX6_stuffTells 27 = .ok (.iload_n 2, 1) := by decide +kernel
theorem dX6_stuffTells_28 : decode cX6_stuffTells 28 = .ok (.iconst 2, 1) := by decide +kernel
theorem dX6_stuffTells_29 : decode cX6_stuffTells 29 = .ok (.if_icmp .ne 12, 3) := by decide +kernel
theorem dX6_stuffTells_32 : decode cX6_stuffTells 32 = .ok (.aload_n 0, 1) := by decide +kernel
theorem dX6_stuffTells_33 : decode cX6_stuffTells 33 = .ok (.getfield 45, 3) := by decide +kernel
theorem dX6_stuffTells_36 : decode cX6_stuffTells 36 = .ok (.iload_n 1, 1) := by decide +kernel
theorem dX6_stuffTells_37 : decode cX6_stuffTells 37 = .ok (.iaload, 1) := by decide +kernel
theorem dX6_stuffTells_38 : decode cX6_stuffTells 38 = .ok (.goto 23, 3) := by decide +kernel
theorem dX6_stuffTells_41 : decode cX6_stuffTells 41 = .ok (.iload_n 2, 1) := by decide +kernel
theorem dX6_stuffTells_42 : decode cX6_stuffTells 42 = .ok (.iconst 3, 1) := by decide +kernel
theorem dX6_stuffTells_43 : decode cX6_stuffTells 43 = .ok (.if_icmp .ne 12, 3) := by decide +kernel
theorem dX6_stuffTells_46 : decode cX6_stuffTells 46 = .ok (.aload_n 0, 1) := by decide +kernel
theorem dX6_stuffTells_47 : decode cX6_stuffTells 47 = .ok (.getfield 48, 3) := by decide +kernel
theorem dX6_stuffTells_50 : decode cX6_stuffTells 50 = .ok (.iload_n 1, 1) := by decide +kernel
theorem dX6_stuffTells_51 : decode cX6_stuffTells 51 = .ok (.iaload, 1) := by decide +kernel
theorem dX6_stuffTells_52 : decode cX6_stuffTells 52 = .ok (.goto 9, 3) := by decide +kernel
theorem dX6_stuffTells_55 : decode cX6_stuffTells 55 = .ok (.aload_n 0, 1) := by decide +kernel
theorem dX6_stuffTells_56 : decode cX6_stuffTells 56 = .ok (.getfield 51, 3) := by decide +kernel
theorem dX6_stuffTells_59 : decode cX6_stuffTells 59 = .ok (.iload_n 1, 1) := by decide +kernel
theorem dX6_stuffTells_60 : decode cX6_stuffTells 60 = .ok (.iaload, 1) := by decide +kernel
theorem dX6_stuffTells_61 : decode cX6_stuffTells 61 = .ok (.ireturn, 1) := by decide +kernel
theorem dX6_needStuff_0 : decode cX6_needStuff 0 = .ok (.iload_n 2, 1) := by decide +kernel
theorem dX6_needStuff_1 : decode cX6_needStuff 1 = .ok (.iconst 0, 1) := by decide +kernel
theorem dX6_needStuff_2 : decode cX6_needStuff 2 = .ok (.iconst 5, 1) := by decide +kernel
theorem dX6_needStuff_3 : decode cX6_needStuff 3 = .ok (.invokestatic 104, 3) := by decide +kernel
theorem dX6_needStuff_6 : decode cX6_needStuff 6 = .ok (.ifCond .eq 7, 3) := by decide +kernel
theorem dX6_needStuff_9 : decode cX6_needStuff 9 = .ok (.iload_n 1, 1) := by decide +kernel
theorem dX6_needStuff_10 : decode cX6_needStuff 10 = .ok (.ifCond .ne 7, 3) := by decide +kernel
theorem dX6_needStuff_13 : decode cX6_needStuff 13 = .ok (.iconst (-1), 1) := by decide +kernel
theorem dX6_needStuff_14 : decode cX6_needStuff 14 = .ok (.goto 21, 3) := by decide +kernel
theorem dX6_needStuff_17 : decode cX6_needStuff 17 = .ok (.aload_n 0, 1) := by decide +kernel
theorem dX6_needStuff_18 : decode cX6_needStuff 18 = .ok (.getfield 29, 3) := by decide +kernel
theorem dX6_needStuff_21 : decode cX6_needStuff 21 = .ok (.iload_n 2, 1) := by decide +kernel
theorem dX6_needStuff_22 : decode cX6_needStuff 22 = .ok (.baload, 1) := by decide +kernel
theorem dX6_needStuff_23 : decode cX6_needStuff 23 = .ok (.ifCond .eq 7, 3) := by decide +kernel
theorem dX6_needStuff_26 : decode cX6_needStuff 26 = .ok (.iconst 0, 1) := by decide +kernel
theorem dX6_needStuff_27 : decode cX6_needStuff 27 = .ok (.goto 8, 3) := by decide +kernel
theorem dX6_needStuff_30 : decode cX6_needStuff 30 = .ok (.aload_n 0, 1) := by decide +kernel
theorem dX6_needStuff_31 : decode cX6_needStuff 31 = .ok (.iconst 1, 1) := by decide +kernel
theorem dX6_needStuff_32 : decode cX6_needStuff 32 = .ok (.invokevirtual 122, 3) := by decide +kernel
theorem dX6_needStuff_35 : decode cX6_needStuff 35 = .ok (.ireturn, 1) := by decide +kernel
theorem dX6_about_0 : decode cX6_about 0 = .ok (.aload_n 0, 1) := by decide +kernel
theorem dX6_about_1 : decode cX6_about 1 = .ok (.iload_n 2, 1) := by decide +kernel
theorem dX6_about_2 : decode cX6_about 2 = .ok (.iconst 0, 1) := by decide +kernel
theorem dX6_about_3 : decode cX6_about 3 = .ok (.iconst 4, 1) := by decide +kernel
theorem dX6_about_4 : decode cX6_about 4 = .ok (.invokestatic 104, 3) := by decide +kernel
theorem dX6_about_7 : decode cX6_about 7 = .ok (.iload_n 1, 1) := by decide +kernel
theorem dX6_about_8 : decode cX6_about 8 = .ok (.invokevirtual 164, 3) := by decide +kernel
theorem dX6_about_11 : decode cX6_about 11 = .ok (.istore_n 3, 1) := by decide +kernel
theorem dX6_about_12 : decode cX6_about 12 = .ok (.iload_n 3, 1) := by decide +kernel
theorem dX6_about_13 : decode cX6_about 13 = .ok (.ifCond .ge 7, 3) := by decide +kernel
theorem dX6_about_16 : decode cX6_about 16 = .ok (.iload_n 3, 1) := by decide +kernel
theorem dX6_about_17 : decode cX6_about 17 = .ok (.goto 14, 3) := by decide +kernel
theorem dX6_about_20 : decode cX6_about 20 = .ok (.aload_n 0, 1) := by decide +kernel
theorem dX6_about_21 : decode cX6_about 21 = .ok (.aload_n 0, 1) := by decide +kernel
theorem dX6_about_22 : decode cX6_about 22 = .ok (.iload_n 1, 1) := by decide +kernel
theorem dX6_about_23 : decode cX6_about 23 = .ok (.iload_n 2, 1) := by decide +kernel
theorem dX6_about_24 : decode cX6_about 24 = .ok (.invokevirtual 168, 3) := by decide +kernel
theorem dX6_about_27 : decode cX6_about 27 = .ok (.iconst 1, 1) := by decide +kernel
theorem dX6_about_28 : decode cX6_about 28 = .ok (.invokevirtual 130, 3) := by decide +kernel
theorem dX6_about_31 : decode cX6_about 31 = .ok (.ireturn, 1) := by decide +kernel
theorem dX6_lineOf_0 : decode cX6_lineOf 0 = .ok (.iconst 0, 1) := by decide +kernel
theorem dX6_lineOf_1 : decode cX6_lineOf 1 = .ok (.istore 6, 2) := by decide +kernel
theorem dX6_lineOf_3 : decode cX6_lineOf 3 = .ok (.iload 6, 2) := by decide +kernel
theorem dX6_lineOf_5 : decode cX6_lineOf 5 = .ok (.iconst 1, 1) := by decide +kernel
theorem dX6_lineOf_6 : decode cX6_lineOf 6 = .ok (.iadd, 1) := by decide +kernel
theorem dX6_lineOf_7 : decode cX6_lineOf 7 = .ok (.aload_n 0, 1) := by decide +kernel
theorem dX6_lineOf_8 : decode cX6_lineOf 8 = .ok (.getfield 33, 3) := by decide +kernel
theorem dX6_lineOf_11 : decode cX6_lineOf 11 = .ok (.iload_n 1, 1) := by decide +kernel
theorem dX6_lineOf_12 : decode cX6_lineOf 12 = .ok (.iaload, 1) := by decide +kernel
theorem dX6_lineOf_13 : decode cX6_lineOf 13 = .ok (.if_icmp .ge 31, 3) := by decide +kernel
theorem dX6_lineOf_16 : decode cX6_lineOf 16 = .ok (.aload_n 0, 1) := by decide +kernel
theorem dX6_lineOf_17 : decode cX6_lineOf 17 = .ok (.getfield 36, 3) := by decide +kernel
theorem dX6_lineOf_20 : decode cX6_lineOf 20 = .ok (.iconst 5, 1) := by decide +kernel
theorem dX6_lineOf_21 : decode cX6_lineOf 21 = .ok (.iload_n 1, 1) := by decide +kernel
theorem dX6_lineOf_22 : decode cX6_lineOf 22 = .ok (.imul, 1) := by decide +kernel
theorem dX6_lineOf_23 : decode cX6_lineOf 23 = .ok (.iload 6, 2) := by decide +kernel
theorem dX6_lineOf_25 : decode cX6_lineOf 25 = .ok (.iadd, 1) := by decide +kernel
theorem dX6_lineOf_26 : decode cX6_lineOf 26 = .ok (.iconst 1, 1) := by decide +kernel
theorem dX6_lineOf_27 : decode cX6_lineOf 27 = .ok (.iadd, 1) := by decide +kernel
theorem dX6_lineOf_28 : decode cX6_lineOf 28 = .ok (.iaload, 1) := by decide +kernel
theorem dX6_lineOf_29 : decode cX6_lineOf 29 = .ok (.i2l, 1) := by decide +kernel
theorem dX6_lineOf_30 : decode cX6_lineOf 30 = .ok (.lload 4, 2) := by decide +kernel
theorem dX6_lineOf_32 : decode cX6_lineOf 32 = .ok (.lmul, 1) := by decide +kernel
theorem dX6_lineOf_33 : decode cX6_lineOf 33 = .ok (.lload_n 2, 1) := by decide +kernel
theorem dX6_lineOf_34 : decode cX6_lineOf 34 = .ok (.lcmp, 1) := by decide +kernel
theorem dX6_lineOf_35 : decode cX6_lineOf 35 = .ok (.ifCond .gt 9, 3) := by decide +kernel
theorem dX6_lineOf_38 : decode cX6_lineOf 38 = .ok (.iinc 6 1, 3) := by decide +kernel
theorem dX6_lineOf_41 : decode cX6_lineOf 41 = .ok (.goto (-38), 3) := by decide +kernel
theorem dX6_lineOf_44 : decode cX6_lineOf 44 = .ok (.iload 6, 2) := by decide +kernel
theorem dX6_lineOf_46 : decode cX6_lineOf 46 = .ok (.ireturn, 1) := by decide +kernel
theorem dX6_run_0 : decode cX6_run 0 = .ok (.aload_n 0, 1) := by decide +kernel
theorem dX6_run_1 : decode cX6_run 1 = .ok (.getfield 36, 3) := by decide +kernel
theorem dX6_run_4 : decode cX6_run 4 = .ok (.iconst 5, 1) := by decide +kernel
theorem dX6_run_5 : decode cX6_run 5 = .ok (.iload_n 1, 1) := by decide +kernel
theorem dX6_run_6 : decode cX6_run 6 = .ok (.imul, 1) := by decide +kernel
theorem dX6_run_7 : decode cX6_run 7 = .ok (.iload_n 2, 1) := by decide +kernel
theorem dX6_run_8 : decode cX6_run 8 = .ok (.iadd, 1) := by decide +kernel
theorem dX6_run_9 : decode cX6_run 9 = .ok (.iconst 1, 1) := by decide +kernel
theorem dX6_run_10 : decode cX6_run 10 = .ok (.iadd, 1) := by decide +kernel
theorem dX6_run_11 : decode cX6_run 11 = .ok (.iaload, 1) := by decide +kernel
theorem dX6_run_12 : decode cX6_run 12 = .ok (.aload_n 0, 1) := by decide +kernel
theorem dX6_run_13 : decode cX6_run 13 = .ok (.getfield 36, 3) := by decide +kernel
theorem dX6_run_16 : decode cX6_run 16 = .ok (.iconst 5, 1) := by decide +kernel
theorem dX6_run_17 : decode cX6_run 17 = .ok (.iload_n 1, 1) := by decide +kernel
theorem dX6_run_18 : decode cX6_run 18 = .ok (.imul, 1) := by decide +kernel
theorem dX6_run_19 : decode cX6_run 19 = .ok (.iload_n 2, 1) := by decide +kernel
theorem dX6_run_20 : decode cX6_run 20 = .ok (.iadd, 1) := by decide +kernel
theorem dX6_run_21 : decode cX6_run 21 = .ok (.iaload, 1) := by decide +kernel
theorem dX6_run_22 : decode cX6_run 22 = .ok (.isub, 1) := by decide +kernel
theorem dX6_run_23 : decode cX6_run 23 = .ok (.ireturn, 1) := by decide +kernel
theorem dX6_rise_0 : decode cX6_rise 0 = .ok (.aload_n 0, 1) := by decide +kernel
theorem dX6_rise_1 : decode cX6_rise 1 = .ok (.getfield 39, 3) := by decide +kernel
theorem dX6_rise_4 : decode cX6_rise 4 = .ok (.iconst 5, 1) := by decide +kernel
theorem dX6_rise_5 : decode cX6_rise 5 = .ok (.iload_n 1, 1) := by decide +kernel
theorem dX6_rise_6 : decode cX6_rise 6 = .ok (.imul, 1) := by decide +kernel
theorem dX6_rise_7 : decode cX6_rise 7 = .ok (.iload_n 2, 1) := by decide +kernel
theorem dX6_rise_8 : decode cX6_rise 8 = .ok (.iadd, 1) := by decide +kernel
theorem dX6_rise_9 : decode cX6_rise 9 = .ok (.iconst 1, 1) := by decide +kernel
theorem dX6_rise_10 : decode cX6_rise 10 = .ok (.iadd, 1) := by decide +kernel
theorem dX6_rise_11 : decode cX6_rise 11 = .ok (.iaload, 1) := by decide +kernel
theorem dX6_rise_12 : decode cX6_rise 12 = .ok (.aload_n 0, 1) := by decide +kernel
theorem dX6_rise_13 : decode cX6_rise 13 = .ok (.getfield 39, 3) := by decide +kernel
theorem dX6_rise_16 : decode cX6_rise 16 = .ok (.iconst 5, 1) := by decide +kernel
theorem dX6_rise_17 : decode cX6_rise 17 = .ok (.iload_n 1, 1) := by decide +kernel
theorem dX6_rise_18 : decode cX6_rise 18 = .ok (.imul, 1) := by decide +kernel
theorem dX6_rise_19 : decode cX6_rise 19 = .ok (.iload_n 2, 1) := by decide +kernel
theorem dX6_rise_20 : decode cX6_rise 20 = .ok (.iadd, 1) := by decide +kernel
theorem dX6_rise_21 : decode cX6_rise 21 = .ok (.iaload, 1) := by decide +kernel
theorem dX6_rise_22 : decode cX6_rise 22 = .ok (.isub, 1) := by decide +kernel
theorem dX6_rise_23 : decode cX6_rise 23 = .ok (.ireturn, 1) := by decide +kernel
theorem dX6_layPush_0 : decode cX6_layPush 0 = .ok (.aload_n 0, 1) := by decide +kernel
theorem dX6_layPush_1 : decode cX6_layPush 1 = .ok (.iload_n 1, 1) := by decide +kernel
theorem dX6_layPush_2 : decode cX6_layPush 2 = .ok (.lload_n 2, 1) := by decide +kernel
theorem dX6_layPush_3 : decode cX6_layPush 3 = .ok (.lload 4, 2) := by decide +kernel
theorem dX6_layPush_5 : decode cX6_layPush 5 = .ok (.invokevirtual 171, 3) := by decide +kernel
theorem dX6_layPush_8 : decode cX6_layPush 8 = .ok (.istore 6, 2) := by decide +kernel
theorem dX6_layPush_10 : decode cX6_layPush 10 = .ok (.aload_n 0, 1) := by decide +kernel
theorem dX6_layPush_11 : decode cX6_layPush 11 = .ok (.iload_n 1, 1) := by decide +kernel
theorem dX6_layPush_12 : decode cX6_layPush 12 = .ok (.iload 6, 2) := by decide +kernel
theorem dX6_layPush_14 : decode cX6_layPush 14 = .ok (.invokevirtual 175, 3) := by decide +kernel
theorem dX6_layPush_17 : decode cX6_layPush 17 = .ok (.i2l, 1) := by decide +kernel
theorem dX6_layPush_18 : decode cX6_layPush 18 = .ok (.lstore 7, 2) := by decide +kernel
theorem dX6_layPush_20 : decode cX6_layPush 20 = .ok (.aload_n 0, 1) := by decide +kernel
theorem dX6_layPush_21 : decode cX6_layPush 21 = .ok (.aload_n 0, 1) := by decide +kernel
theorem dX6_layPush_22 : decode cX6_layPush 22 = .ok (.getfield 39, 3) := by decide +kernel
theorem dX6_layPush_25 : decode cX6_layPush 25 = .ok (.iconst 5, 1) := by decide +kernel
theorem dX6_layPush_26 : decode cX6_layPush 26 = .ok (.iload_n 1, 1) := by decide +kernel
theorem dX6_layPush_27 : decode cX6_layPush 27 = .ok (.imul, 1) := by decide +kernel
theorem dX6_layPush_28 : decode cX6_layPush 28 = .ok (.iload 6, 2) := by decide +kernel
theorem dX6_layPush_30 : decode cX6_layPush 30 = .ok (.iadd, 1) := by decide +kernel
theorem dX6_layPush_31 : decode cX6_layPush 31 = .ok (.iaload, 1) := by decide +kernel
theorem dX6_layPush_32 : decode cX6_layPush 32 = .ok (.i2l, 1) := by decide +kernel
theorem dX6_layPush_33 : decode cX6_layPush 33 = .ok (.lload 7, 2) := by decide +kernel
theorem dX6_layPush_35 : decode cX6_layPush 35 = .ok (.lmul, 1) := by decide +kernel
theorem dX6_layPush_36 : decode cX6_layPush 36 = .ok (.lload 4, 2) := by decide +kernel
theorem dX6_layPush_38 : decode cX6_layPush 38 = .ok (.lmul, 1) := by decide +kernel
theorem dX6_layPush_39 : decode cX6_layPush 39 = .ok (.lload_n 2, 1) := by decide +kernel
theorem dX6_layPush_40 : decode cX6_layPush 40 = .ok (.aload_n 0, 1) := by decide +kernel
theorem dX6_layPush_41 : decode cX6_layPush 41 = .ok (.getfield 36, 3) := by decide +kernel
theorem dX6_layPush_44 : decode cX6_layPush 44 = .ok (.iconst 5, 1) := by decide +kernel
theorem dX6_layPush_45 : decode cX6_layPush 45 = .ok (.iload_n 1, 1) := by decide +kernel
theorem dX6_layPush_46 : decode cX6_layPush 46 = .ok (.imul, 1) := by decide +kernel
theorem dX6_layPush_47 : decode cX6_layPush 47 = .ok (.iload 6, 2) := by decide +kernel
theorem dX6_layPush_49 : decode cX6_layPush 49 = .ok (.iadd, 1) := by decide +kernel
theorem dX6_layPush_50 : decode cX6_layPush 50 = .ok (.iaload, 1) := by decide +kernel
theorem dX6_layPush_51 : decode cX6_layPush 51 = .ok (.i2l, 1) := by decide +kernel
theorem dX6_layPush_52 : decode cX6_layPush 52 = .ok (.lload 4, 2) := by decide +kernel
theorem dX6_layPush_54 : decode cX6_layPush 54 = .ok (.lmul, 1) := by decide +kernel
theorem dX6_layPush_55 : decode cX6_layPush 55 = .ok (.lsub, 1) := by decide +kernel
theorem dX6_layPush_56 : decode cX6_layPush 56 = .ok (.aload_n 0, 1) := by decide +kernel
theorem dX6_layPush_57 : decode cX6_layPush 57 = .ok (.iload_n 1, 1) := by decide +kernel
theorem dX6_layPush_58 : decode cX6_layPush 58 = .ok (.iload 6, 2) := by decide +kernel
theorem dX6_layPush_60 : decode cX6_layPush 60 = .ok (.invokevirtual 178, 3) := by decide +kernel
theorem dX6_layPush_63 : decode cX6_layPush 63 = .ok (.i2l, 1) := by decide +kernel
theorem dX6_layPush_64 : decode cX6_layPush 64 = .ok (.lmul, 1) := by decide +kernel
theorem dX6_layPush_65 : decode cX6_layPush 65 = .ok (.ladd, 1) := by decide +kernel
theorem dX6_layPush_66 : decode cX6_layPush 66 = .ok (.putfield 181, 3) := by decide +kernel
theorem dX6_layPush_69 : decode cX6_layPush 69 = .ok (.aload_n 0, 1) := by decide +kernel
theorem dX6_layPush_70 : decode cX6_layPush 70 = .ok (.lload 7, 2) := by decide +kernel
theorem dX6_layPush_72 : decode cX6_layPush 72 = .ok (.lload 4, 2) := by decide +kernel
theorem dX6_layPush_74 : decode cX6_layPush 74 = .ok (.lmul, 1) := by decide +kernel
theorem dX6_layPush_75 : decode cX6_layPush 75 = .ok (.putfield 184, 3) := by decide +kernel
theorem dX6_layPush_78 : decode cX6_layPush 78 = .ok (.aload_n 0, 1) := by decide +kernel
theorem dX6_layPush_79 : decode cX6_layPush 79 = .ok (.getfield 181, 3) := by decide +kernel
theorem dX6_layPush_82 : decode cX6_layPush 82 = .ok (.aload_n 0, 1) := by decide +kernel
theorem dX6_layPush_83 : decode cX6_layPush 83 = .ok (.getfield 184, 3) := by decide +kernel
theorem dX6_layPush_86 : decode cX6_layPush 86 = .ok (.invokestatic 111, 3) := by decide +kernel
theorem dX6_layPush_89 : decode cX6_layPush 89 = .ok (.lstore 9, 2) := by decide +kernel
theorem dX6_layPush_91 : decode cX6_layPush 91 = .ok (.aload_n 0, 1) := by decide +kernel
theorem dX6_layPush_92 : decode cX6_layPush 92 = .ok (.dup, 1) := by decide +kernel
theorem dX6_layPush_93 : decode cX6_layPush 93 = .ok (.getfield 181, 3) := by decide +kernel
theorem dX6_layPush_96 : decode cX6_layPush 96 = .ok (.lload 9, 2) := by decide +kernel
theorem dX6_layPush_98 : decode cX6_layPush 98 = .ok (.ldiv, 1) := by decide +kernel
theorem dX6_layPush_99 : decode cX6_layPush 99 = .ok (.putfield 181, 3) := by decide +kernel
theorem dX6_layPush_102 : decode cX6_layPush 102 = .ok (.aload_n 0, 1) := by decide +kernel
theorem dX6_layPush_103 : decode cX6_layPush 103 = .ok (.dup, 1) := by decide +kernel
theorem dX6_layPush_104 : decode cX6_layPush 104 = .ok (.getfield 184, 3) := by decide +kernel
theorem dX6_layPush_107 : decode cX6_layPush 107 = .ok (.lload 9, 2) := by decide +kernel
theorem dX6_layPush_109 : decode cX6_layPush 109 = .ok (.ldiv, 1) := by decide +kernel
theorem dX6_layPush_110 : decode cX6_layPush 110 = .ok (.putfield 184, 3) := by decide +kernel
theorem dX6_layPush_113 : decode cX6_layPush 113 = .ok (.return_, 1) := by decide +kernel
theorem dX6_push_0 : decode cX6_push 0 = .ok (.aload_n 0, 1) := by decide +kernel
theorem dX6_push_1 : decode cX6_push 1 = .ok (.iload_n 2, 1) := by decide +kernel
theorem dX6_push_2 : decode cX6_push 2 = .ok (.iconst 0, 1) := by decide +kernel
theorem dX6_push_3 : decode cX6_push 3 = .ok (.bipush 99, 2) := by decide +kernel
theorem dX6_push_5 : decode cX6_push 5 = .ok (.invokestatic 104, 3) := by decide +kernel
theorem dX6_push_8 : decode cX6_push 8 = .ok (.iload_n 1, 1) := by decide +kernel
theorem dX6_push_9 : decode cX6_push 9 = .ok (.invokevirtual 164, 3) := by decide +kernel
theorem dX6_push_12 : decode cX6_push 12 = .ok (.istore_n 3, 1) := by decide +kernel
theorem dX6_push_13 : decode cX6_push 13 = .ok (.iload_n 3, 1) := by decide +kernel
theorem dX6_push_14 : decode cX6_push 14 = .ok (.ifCond .ge 5, 3) := by decide +kernel
theorem dX6_push_17 : decode cX6_push 17 = .ok (.iload_n 3, 1) := by decide +kernel
theorem dX6_push_18 : decode cX6_push 18 = .ok (.ireturn, 1) := by decide +kernel
theorem dX6_push_19 : decode cX6_push 19 = .ok (.aload_n 0, 1) := by decide +kernel
theorem dX6_push_20 : decode cX6_push 20 = .ok (.iload_n 1, 1) := by decide +kernel
theorem dX6_push_21 : decode cX6_push 21 = .ok (.iload_n 2, 1) := by decide +kernel
theorem dX6_push_22 : decode cX6_push 22 = .ok (.i2l, 1) := by decide +kernel
theorem dX6_push_23 : decode cX6_push 23 = .ok (.lconst 1, 1) := by decide +kernel
theorem dX6_push_24 : decode cX6_push 24 = .ok (.invokevirtual 187, 3) := by decide +kernel
theorem dX6_push_27 : decode cX6_push 27 = .ok (.aload_n 0, 1) := by decide +kernel
theorem dX6_push_28 : decode cX6_push 28 = .ok (.aload_n 0, 1) := by decide +kernel
theorem dX6_push_29 : decode cX6_push 29 = .ok (.getfield 181, 3) := by decide +kernel
theorem dX6_push_32 : decode cX6_push 32 = .ok (.aload_n 0, 1) := by decide +kernel
theorem dX6_push_33 : decode cX6_push 33 = .ok (.getfield 184, 3) := by decide +kernel
theorem dX6_push_36 : decode cX6_push 36 = .ok (.iconst 1, 1) := by decide +kernel
theorem dX6_push_37 : decode cX6_push 37 = .ok (.invokevirtual 191, 3) := by decide +kernel
theorem dX6_push_40 : decode cX6_push 40 = .ok (.ireturn, 1) := by decide +kernel
theorem dX6_isPlace_0 : decode cX6_isPlace 0 = .ok (.iload_n 0, 1) := by decide +kernel
theorem dX6_isPlace_1 : decode cX6_isPlace 1 = .ok (.iconst 0, 1) := by decide +kernel
theorem dX6_isPlace_2 : decode cX6_isPlace 2 = .ok (.iconst 3, 1) := by decide +kernel
theorem dX6_isPlace_3 : decode cX6_isPlace 3 = .ok (.invokestatic 104, 3) := by decide +kernel
theorem dX6_isPlace_6 : decode cX6_isPlace 6 = .ok (.ireturn, 1) := by decide +kernel
theorem dX6_isSeal_0 : decode cX6_isSeal 0 = .ok (.aload_n 0, 1) := by decide +kernel
theorem dX6_isSeal_1 : decode cX6_isSeal 1 = .ok (.getfield 63, 3) := by decide +kernel
theorem dX6_isSeal_4 : decode cX6_isSeal 4 = .ok (.iload_n 1, 1) := by decide +kernel
theorem dX6_isSeal_5 : decode cX6_isSeal 5 = .ok (.iaload, 1) := by decide +kernel
theorem dX6_isSeal_6 : decode cX6_isSeal 6 = .ok (.bipush (-9), 2) := by decide +kernel
theorem dX6_isSeal_8 : decode cX6_isSeal 8 = .ok (.if_icmp .eq 7, 3) := by decide +kernel
theorem dX6_isSeal_11 : decode cX6_isSeal 11 = .ok (.iconst 1, 1) := by decide +kernel
theorem dX6_isSeal_12 : decode cX6_isSeal 12 = .ok (.goto 4, 3) := by decide +kernel
theorem dX6_isSeal_15 : decode cX6_isSeal 15 = .ok (.iconst 0, 1) := by decide +kernel
theorem dX6_isSeal_16 : decode cX6_isSeal 16 = .ok (.ireturn, 1) := by decide +kernel
theorem dX6_isRubber_0 : decode cX6_isRubber 0 = .ok (.aload_n 0, 1) := by decide +kernel
theorem dX6_isRubber_1 : decode cX6_isRubber 1 = .ok (.getfield 63, 3) := by decide +kernel
theorem dX6_isRubber_4 : decode cX6_isRubber 4 = .ok (.iload_n 1, 1) := by decide +kernel
theorem dX6_isRubber_5 : decode cX6_isRubber 5 = .ok (.iaload, 1) := by decide +kernel
theorem dX6_isRubber_6 : decode cX6_isRubber 6 = .ok (.ifCond .le 7, 3) := by decide +kernel
theorem dX6_isRubber_9 : decode cX6_isRubber 9 = .ok (.iconst 1, 1) := by decide +kernel
theorem dX6_isRubber_10 : decode cX6_isRubber 10 = .ok (.goto 4, 3) := by decide +kernel
theorem dX6_isRubber_13 : decode cX6_isRubber 13 = .ok (.iconst 0, 1) := by decide +kernel
theorem dX6_isRubber_14 : decode cX6_isRubber 14 = .ok (.ireturn, 1) := by decide +kernel
theorem dX6_isRing_0 : decode cX6_isRing 0 = .ok (.aload_n 0, 1) := by decide +kernel
theorem dX6_isRing_1 : decode cX6_isRing 1 = .ok (.getfield 63, 3) := by decide +kernel
theorem dX6_isRing_4 : decode cX6_isRing 4 = .ok (.iload_n 1, 1) := by decide +kernel
theorem dX6_isRing_5 : decode cX6_isRing 5 = .ok (.iaload, 1) := by decide +kernel
theorem dX6_isRing_6 : decode cX6_isRing 6 = .ok (.iconst 2, 1) := by decide +kernel
theorem dX6_isRing_7 : decode cX6_isRing 7 = .ok (.if_icmp .lt 7, 3) := by decide +kernel
theorem dX6_isRing_10 : decode cX6_isRing 10 = .ok (.iconst 1, 1) := by decide +kernel
theorem dX6_isRing_11 : decode cX6_isRing 11 = .ok (.goto 4, 3) := by decide +kernel
theorem dX6_isRing_14 : decode cX6_isRing 14 = .ok (.iconst 0, 1) := by decide +kernel
theorem dX6_isRing_15 : decode cX6_isRing 15 = .ok (.ireturn, 1) := by decide +kernel
theorem dX6_seal_0 : decode cX6_seal 0 = .ok (.iload_n 2, 1) := by decide +kernel
theorem dX6_seal_1 : decode cX6_seal 1 = .ok (.ifCond .eq 12, 3) := by decide +kernel
theorem dX6_seal_4 : decode cX6_seal 4 = .ok (.iload_n 3, 1) := by decide +kernel
theorem dX6_seal_5 : decode cX6_seal 5 = .ok (.iconst 0, 1) := by decide +kernel
theorem dX6_seal_6 : decode cX6_seal 6 = .ok (.iconst 5, 1) := by decide +kernel
theorem dX6_seal_7 : decode cX6_seal 7 = .ok (.invokestatic 104, 3) := by decide +kernel
theorem dX6_seal_10 : decode cX6_seal 10 = .ok (.ifCond .eq 7, 3) := by decide +kernel
theorem dX6_seal_13 : decode cX6_seal 13 = .ok (.iconst 1, 1) := by decide +kernel
theorem dX6_seal_14 : decode cX6_seal 14 = .ok (.goto 4, 3) := by decide +kernel
theorem dX6_seal_17 : decode cX6_seal 17 = .ok (.iconst 0, 1) := by decide +kernel
theorem dX6_seal_18 : decode cX6_seal 18 = .ok (.istore 6, 2) := by decide +kernel
theorem dX6_seal_20 : decode cX6_seal 20 = .ok (.iload_n 1, 1) := by decide +kernel
theorem dX6_seal_21 : decode cX6_seal 21 = .ok (.invokestatic 195, 3) := by decide +kernel
theorem dX6_seal_24 : decode cX6_seal 24 = .ok (.ifCond .eq 41, 3) := by decide +kernel
theorem dX6_seal_27 : decode cX6_seal 27 = .ok (.iload_n 2, 1) := by decide +kernel
theorem dX6_seal_28 : decode cX6_seal 28 = .ok (.iconst 0, 1) := by decide +kernel
theorem dX6_seal_29 : decode cX6_seal 29 = .ok (.iconst 4, 1) := by decide +kernel
theorem dX6_seal_30 : decode cX6_seal 30 = .ok (.invokestatic 104, 3) := by decide +kernel
theorem dX6_seal_33 : decode cX6_seal 33 = .ok (.ifCond .eq 32, 3) := by decide +kernel
theorem dX6_seal_36 : decode cX6_seal 36 = .ok (.iload 6, 2) := by decide +kernel
theorem dX6_seal_38 : decode cX6_seal 38 = .ok (.ifCond .eq 27, 3) := by decide +kernel
theorem dX6_seal_41 : decode cX6_seal 41 = .ok (.iload 4, 2) := by decide +kernel
theorem dX6_seal_43 : decode cX6_seal 43 = .ok (.bipush 50, 2) := by decide +kernel
theorem dX6_seal_45 : decode cX6_seal 45 = .ok (.sipush 400, 3) := by decide +kernel
theorem dX6_seal_48 : decode cX6_seal 48 = .ok (.invokestatic 104, 3) := by decide +kernel
theorem dX6_seal_51 : decode cX6_seal 51 = .ok (.ifCond .eq 14, 3) := by decide +kernel
theorem dX6_seal_54 : decode cX6_seal 54 = .ok (.iload 5, 2) := by decide +kernel
theorem dX6_seal_56 : decode cX6_seal 56 = .ok (.iconst 1, 1) := by decide +kernel
theorem dX6_seal_57 : decode cX6_seal 57 = .ok (.bipush 9, 2) := by decide +kernel
theorem dX6_seal_59 : decode cX6_seal 59 = .ok (.invokestatic 104, 3) := by decide +kernel
theorem dX6_seal_62 : decode cX6_seal 62 = .ok (.ifCond .ne 5, 3) := by decide +kernel
theorem dX6_seal_65 : decode cX6_seal 65 = .ok (.iconst (-1), 1) := by decide +kernel
theorem dX6_seal_66 : decode cX6_seal 66 = .ok (.ireturn, 1) := by decide +kernel
theorem dX6_seal_67 : decode cX6_seal 67 = .ok (.iload_n 2, 1) := by decide +kernel
theorem dX6_seal_68 : decode cX6_seal 68 = .ok (.ifCond .eq 18, 3) := by decide +kernel
theorem dX6_seal_71 : decode cX6_seal 71 = .ok (.aload_n 0, 1) := by decide +kernel
theorem dX6_seal_72 : decode cX6_seal 72 = .ok (.getfield 29, 3) := by decide +kernel
theorem dX6_seal_75 : decode cX6_seal 75 = .ok (.iload_n 3, 1) := by decide +kernel
theorem dX6_seal_76 : decode cX6_seal 76 = .ok (.baload, 1) := by decide +kernel
theorem dX6_seal_77 : decode cX6_seal 77 = .ok (.ifCond .ne 9, 3) := by decide +kernel
theorem dX6_seal_80 : decode cX6_seal 80 = .ok (.aload_n 0, 1) := by decide +kernel
theorem dX6_seal_81 : decode cX6_seal 81 = .ok (.iconst 1, 1) := by decide +kernel
theorem dX6_seal_82 : decode cX6_seal 82 = .ok (.invokevirtual 122, 3) := by decide +kernel
theorem dX6_seal_85 : decode cX6_seal 85 = .ok (.ireturn, 1) := by decide +kernel
theorem dX6_seal_86 : decode cX6_seal 86 = .ok (.aload_n 0, 1) := by decide +kernel
theorem dX6_seal_87 : decode cX6_seal 87 = .ok (.getfield 63, 3) := by decide +kernel
theorem dX6_seal_90 : decode cX6_seal 90 = .ok (.iload_n 1, 1) := by decide +kernel
theorem dX6_seal_91 : decode cX6_seal 91 = .ok (.iload_n 2, 1) := by decide +kernel
theorem dX6_seal_92 : decode cX6_seal 92 = .ok (.iastore, 1) := by decide +kernel
theorem dX6_seal_93 : decode cX6_seal 93 = .ok (.aload_n 0, 1) := by decide +kernel
theorem dX6_seal_94 : decode cX6_seal 94 = .ok (.getfield 66, 3) := by decide +kernel
theorem dX6_seal_97 : decode cX6_seal 97 = .ok (.iload_n 1, 1) := by decide +kernel
theorem dX6_seal_98 : decode cX6_seal 98 = .ok (.iload_n 3, 1) := by decide +kernel
theorem dX6_seal_99 : decode cX6_seal 99 = .ok (.iastore, 1) := by decide +kernel
theorem dX6_seal_100 : decode cX6_seal 100 = .ok (.aload_n 0, 1) := by decide +kernel
theorem dX6_seal_101 : decode cX6_seal 101 = .ok (.getfield 69, 3) := by decide +kernel
theorem dX6_seal_104 : decode cX6_seal 104 = .ok (.iload_n 1, 1) := by decide +kernel
theorem dX6_seal_105 : decode cX6_seal 105 = .ok (.iload 4, 2) := by decide +kernel
theorem dX6_seal_107 : decode cX6_seal 107 = .ok (.iastore, 1) := by decide +kernel
theorem dX6_seal_108 : decode cX6_seal 108 = .ok (.aload_n 0, 1) := by decide +kernel
theorem dX6_seal_109 : decode cX6_seal 109 = .ok (.getfield 72, 3) := by decide +kernel
theorem dX6_seal_112 : decode cX6_seal 112 = .ok (.iload_n 1, 1) := by decide +kernel
theorem dX6_seal_113 : decode cX6_seal 113 = .ok (.iload 4, 2) := by decide +kernel
theorem dX6_seal_115 : decode cX6_seal 115 = .ok (.iastore, 1) := by decide +kernel
theorem dX6_seal_116 : decode cX6_seal 116 = .ok (.aload_n 0, 1) := by decide +kernel
theorem dX6_seal_117 : decode cX6_seal 117 = .ok (.getfield 75, 3) := by decide +kernel
theorem dX6_seal_120 : decode cX6_seal 120 = .ok (.iload_n 1, 1) := by decide +kernel
theorem dX6_seal_121 : decode cX6_seal 121 = .ok (.iload 5, 2) := by decide +kernel
theorem dX6_seal_123 : decode cX6_seal 123 = .ok (.iastore, 1) := by decide +kernel
theorem dX6_seal_124 : decode cX6_seal 124 = .ok (.aload_n 0, 1) := by decide +kernel
theorem dX6_seal_125 : decode cX6_seal 125 = .ok (.getfield 78, 3) := by decide +kernel
theorem dX6_seal_128 : decode cX6_seal 128 = .ok (.iload_n 1, 1) := by decide +kernel
theorem dX6_seal_129 : decode cX6_seal 129 = .ok (.iconst 0, 1) := by decide +kernel
theorem dX6_seal_130 : decode cX6_seal 130 = .ok (.iastore, 1) := by decide +kernel
theorem dX6_seal_131 : decode cX6_seal 131 = .ok (.aload_n 0, 1) := by decide +kernel
theorem dX6_seal_132 : decode cX6_seal 132 = .ok (.getfield 81, 3) := by decide +kernel
theorem dX6_seal_135 : decode cX6_seal 135 = .ok (.iload_n 1, 1) := by decide +kernel
theorem dX6_seal_136 : decode cX6_seal 136 = .ok (.iconst 0, 1) := by decide +kernel
theorem dX6_seal_137 : decode cX6_seal 137 = .ok (.iastore, 1) := by decide +kernel
theorem dX6_seal_138 : decode cX6_seal 138 = .ok (.iconst 1, 1) := by decide +kernel
theorem dX6_seal_139 : decode cX6_seal 139 = .ok (.ireturn, 1) := by decide +kernel
theorem dX6_needSeal_0 : decode cX6_needSeal 0 = .ok (.iload_n 2, 1) := by decide +kernel
theorem dX6_needSeal_1 : decode cX6_needSeal 1 = .ok (.invokestatic 195, 3) := by decide +kernel
theorem dX6_needSeal_4 : decode cX6_needSeal 4 = .ok (.ifCond .eq 7, 3) := by decide +kernel
theorem dX6_needSeal_7 : decode cX6_needSeal 7 = .ok (.iload_n 1, 1) := by decide +kernel
theorem dX6_needSeal_8 : decode cX6_needSeal 8 = .ok (.ifCond .ne 7, 3) := by decide +kernel
theorem dX6_needSeal_11 : decode cX6_needSeal 11 = .ok (.iconst (-1), 1) := by decide +kernel
theorem dX6_needSeal_12 : decode cX6_needSeal 12 = .ok (.goto 20, 3) := by decide +kernel
theorem dX6_needSeal_15 : decode cX6_needSeal 15 = .ok (.aload_n 0, 1) := by decide +kernel
theorem dX6_needSeal_16 : decode cX6_needSeal 16 = .ok (.iload_n 2, 1) := by decide +kernel
theorem dX6_needSeal_17 : decode cX6_needSeal 17 = .ok (.invokevirtual 198, 3) := by decide +kernel
theorem dX6_needSeal_20 : decode cX6_needSeal 20 = .ok (.ifCond .eq 7, 3) := by decide +kernel
theorem dX6_needSeal_23 : decode cX6_needSeal 23 = .ok (.iconst 0, 1) := by decide +kernel
theorem dX6_needSeal_24 : decode cX6_needSeal 24 = .ok (.goto 8, 3) := by decide +kernel
theorem dX6_needSeal_27 : decode cX6_needSeal 27 = .ok (.aload_n 0, 1) := by decide +kernel
theorem dX6_needSeal_28 : decode cX6_needSeal 28 = .ok (.iconst 1, 1) := by decide +kernel
theorem dX6_needSeal_29 : decode cX6_needSeal 29 = .ok (.invokevirtual 122, 3) := by decide +kernel
theorem dX6_needSeal_32 : decode cX6_needSeal 32 = .ok (.ireturn, 1) := by decide +kernel
theorem dX6_needRubber_0 : decode cX6_needRubber 0 = .ok (.aload_n 0, 1) := by decide +kernel
theorem dX6_needRubber_1 : decode cX6_needRubber 1 = .ok (.iload_n 1, 1) := by decide +kernel
theorem dX6_needRubber_2 : decode cX6_needRubber 2 = .ok (.iload_n 2, 1) := by decide +kernel
theorem dX6_needRubber_3 : decode cX6_needRubber 3 = .ok (.invokevirtual 201, 3) := by decide +kernel
theorem dX6_needRubber_6 : decode cX6_needRubber 6 = .ok (.istore_n 3, 1) := by decide +kernel
theorem dX6_needRubber_7 : decode cX6_needRubber 7 = .ok (.iload_n 3, 1) := by decide +kernel
theorem dX6_needRubber_8 : decode cX6_needRubber 8 = .ok (.ifCond .ge 7, 3) := by decide +kernel
theorem dX6_needRubber_11 : decode cX6_needRubber 11 = .ok (.iload_n 3, 1) := by decide +kernel
theorem dX6_needRubber_12 : decode cX6_needRubber 12 = .ok (.goto 20, 3) := by decide +kernel
theorem dX6_needRubber_15 : decode cX6_needRubber 15 = .ok (.aload_n 0, 1) := by decide +kernel
theorem dX6_needRubber_16 : decode cX6_needRubber 16 = .ok (.iload_n 2, 1) := by decide +kernel
theorem dX6_needRubber_17 : decode cX6_needRubber 17 = .ok (.invokevirtual 204, 3) := by decide +kernel
theorem dX6_needRubber_20 : decode cX6_needRubber 20 = .ok (.ifCond .eq 7, 3) := by decide +kernel
theorem dX6_needRubber_23 : decode cX6_needRubber 23 = .ok (.iconst 0, 1) := by decide +kernel
theorem dX6_needRubber_24 : decode cX6_needRubber 24 = .ok (.goto 8, 3) := by decide +kernel
theorem dX6_needRubber_27 : decode cX6_needRubber 27 = .ok (.aload_n 0, 1) := by decide +kernel
theorem dX6_needRubber_28 : decode cX6_needRubber 28 = .ok (.iconst 3, 1) := by decide +kernel
theorem dX6_needRubber_29 : decode cX6_needRubber 29 = .ok (.invokevirtual 122, 3) := by decide +kernel
theorem dX6_needRubber_32 : decode cX6_needRubber 32 = .ok (.ireturn, 1) := by decide +kernel
theorem dX6_take_0 : decode cX6_take 0 = .ok (.aload_n 0, 1) := by decide +kernel
theorem dX6_take_1 : decode cX6_take 1 = .ok (.iconst 1, 1) := by decide +kernel
theorem dX6_take_2 : decode cX6_take 2 = .ok (.iload_n 1, 1) := by decide +kernel
theorem dX6_take_3 : decode cX6_take 3 = .ok (.invokevirtual 201, 3) := by decide +kernel
theorem dX6_take_6 : decode cX6_take 6 = .ok (.istore_n 2, 1) := by decide +kernel
theorem dX6_take_7 : decode cX6_take 7 = .ok (.iload_n 2, 1) := by decide +kernel
theorem dX6_take_8 : decode cX6_take 8 = .ok (.ifCond .ge 5, 3) := by decide +kernel
theorem dX6_take_11 : decode cX6_take 11 = .ok (.iload_n 2, 1) := by decide +kernel
theorem dX6_take_12 : decode cX6_take 12 = .ok (.ireturn, 1) := by decide +kernel
theorem dX6_take_13 : decode cX6_take 13 = .ok (.aload_n 0, 1) := by decide +kernel
theorem dX6_take_14 : decode cX6_take 14 = .ok (.getfield 63, 3) := by decide +kernel
theorem dX6_take_17 : decode cX6_take 17 = .ok (.iload_n 1, 1) := by decide +kernel
theorem dX6_take_18 : decode cX6_take 18 = .ok (.bipush (-9), 2) := by decide +kernel
theorem dX6_take_20 : decode cX6_take 20 = .ok (.iastore, 1) := by decide +kernel
theorem dX6_take_21 : decode cX6_take 21 = .ok (.iconst 1, 1) := by decide +kernel
theorem dX6_take_22 : decode cX6_take 22 = .ok (.ireturn, 1) := by decide +kernel
theorem dX6_depth_0 : decode cX6_depth 0 = .ok (.iload_n 1, 1) := by decide +kernel
theorem dX6_depth_1 : decode cX6_depth 1 = .ok (.invokestatic 195, 3) := by decide +kernel
theorem dX6_depth_4 : decode cX6_depth 4 = .ok (.ifCond .eq 14, 3) := by decide +kernel
theorem dX6_depth_7 : decode cX6_depth 7 = .ok (.iload_n 2, 1) := by decide +kernel
theorem dX6_depth_8 : decode cX6_depth 8 = .ok (.iconst 0, 1) := by decide +kernel
theorem dX6_depth_9 : decode cX6_depth 9 = .ok (.sipush 200, 3) := by decide +kernel
theorem dX6_depth_12 : decode cX6_depth 12 = .ok (.invokestatic 104, 3) := by decide +kernel
theorem dX6_depth_15 : decode cX6_depth 15 = .ok (.ifCond .ne 5, 3) := by decide +kernel
theorem dX6_depth_18 : decode cX6_depth 18 = .ok (.iconst (-1), 1) := by decide +kernel
theorem dX6_depth_19 : decode cX6_depth 19 = .ok (.ireturn, 1) := by decide +kernel
theorem dX6_depth_20 : decode cX6_depth 20 = .ok (.aload_n 0, 1) := by decide +kernel
theorem dX6_depth_21 : decode cX6_depth 21 = .ok (.getfield 84, 3) := by decide +kernel
theorem dX6_depth_24 : decode cX6_depth 24 = .ok (.iload_n 1, 1) := by decide +kernel
theorem dX6_depth_25 : decode cX6_depth 25 = .ok (.iaload, 1) := by decide +kernel
theorem dX6_depth_26 : decode cX6_depth 26 = .ok (.istore_n 3, 1) := by decide +kernel
theorem dX6_depth_27 : decode cX6_depth 27 = .ok (.aload_n 0, 1) := by decide +kernel
theorem dX6_depth_28 : decode cX6_depth 28 = .ok (.getfield 84, 3) := by decide +kernel
theorem dX6_depth_31 : decode cX6_depth 31 = .ok (.iload_n 1, 1) := by decide +kernel
theorem dX6_depth_32 : decode cX6_depth 32 = .ok (.iload_n 2, 1) := by decide +kernel
theorem dX6_depth_33 : decode cX6_depth 33 = .ok (.iastore, 1) := by decide +kernel
theorem dX6_depth_34 : decode cX6_depth 34 = .ok (.iload_n 3, 1) := by decide +kernel
theorem dX6_depth_35 : decode cX6_depth 35 = .ok (.ireturn, 1) := by decide +kernel
theorem dX6_stretched_0 : decode cX6_stretched 0 = .ok (.iload_n 0, 1) := by decide +kernel
theorem dX6_stretched_1 : decode cX6_stretched 1 = .ok (.sipush 200, 3) := by decide +kernel
theorem dX6_stretched_4 : decode cX6_stretched 4 = .ok (.iload_n 1, 1) := by decide +kernel
theorem dX6_stretched_5 : decode cX6_stretched 5 = .ok (.isub, 1) := by decide +kernel
theorem dX6_stretched_6 : decode cX6_stretched 6 = .ok (.imul, 1) := by decide +kernel
theorem dX6_stretched_7 : decode cX6_stretched 7 = .ok (.sipush 200, 3) := by decide +kernel
theorem dX6_stretched_10 : decode cX6_stretched 10 = .ok (.idiv, 1) := by decide +kernel
theorem dX6_stretched_11 : decode cX6_stretched 11 = .ok (.ireturn, 1) := by decide +kernel
theorem dX6_stretch_0 : decode cX6_stretch 0 = .ok (.aload_n 0, 1) := by decide +kernel
theorem dX6_stretch_1 : decode cX6_stretch 1 = .ok (.iload_n 2, 1) := by decide +kernel
theorem dX6_stretch_2 : decode cX6_stretch 2 = .ok (.iconst 0, 1) := by decide +kernel
theorem dX6_stretch_3 : decode cX6_stretch 3 = .ok (.bipush 40, 2) := by decide +kernel
theorem dX6_stretch_5 : decode cX6_stretch 5 = .ok (.invokestatic 104, 3) := by decide +kernel
theorem dX6_stretch_8 : decode cX6_stretch 8 = .ok (.iload_n 1, 1) := by decide +kernel
theorem dX6_stretch_9 : decode cX6_stretch 9 = .ok (.invokevirtual 201, 3) := by decide +kernel
theorem dX6_stretch_12 : decode cX6_stretch 12 = .ok (.istore_n 3, 1) := by decide +kernel
theorem dX6_stretch_13 : decode cX6_stretch 13 = .ok (.iload_n 3, 1) := by decide +kernel
theorem dX6_stretch_14 : decode cX6_stretch 14 = .ok (.ifCond .ge 5, 3) := by decide +kernel
theorem dX6_stretch_17 : decode cX6_stretch 17 = .ok (.iload_n 3, 1) := by decide +kernel
theorem dX6_stretch_18 : decode cX6_stretch 18 = .ok (.ireturn, 1) := by decide +kernel
theorem dX6_stretch_19 : decode cX6_stretch 19 = .ok (.aload_n 0, 1) := by decide +kernel
theorem dX6_stretch_20 : decode cX6_stretch 20 = .ok (.iload_n 1, 1) := by decide +kernel
theorem dX6_stretch_21 : decode cX6_stretch 21 = .ok (.invokevirtual 207, 3) := by decide +kernel
theorem dX6_stretch_24 : decode cX6_stretch 24 = .ok (.ifCond .ne 9, 3) := by decide +kernel
theorem dX6_stretch_27 : decode cX6_stretch 27 = .ok (.aload_n 0, 1) := by decide +kernel
theorem dX6_stretch_28 : decode cX6_stretch 28 = .ok (.iconst 3, 1) := by decide +kernel
theorem dX6_stretch_29 : decode cX6_stretch 29 = .ok (.invokevirtual 122, 3) := by decide +kernel
theorem dX6_stretch_32 : decode cX6_stretch 32 = .ok (.ireturn, 1) := by decide +kernel
theorem dX6_stretch_33 : decode cX6_stretch 33 = .ok (.aload_n 0, 1) := by decide +kernel
theorem dX6_stretch_34 : decode cX6_stretch 34 = .ok (.getfield 78, 3) := by decide +kernel
theorem dX6_stretch_37 : decode cX6_stretch 37 = .ok (.iload_n 1, 1) := by decide +kernel
theorem dX6_stretch_38 : decode cX6_stretch 38 = .ok (.iload_n 2, 1) := by decide +kernel
theorem dX6_stretch_39 : decode cX6_stretch 39 = .ok (.iastore, 1) := by decide +kernel
theorem dX6_stretch_40 : decode cX6_stretch 40 = .ok (.aload_n 0, 1) := by decide +kernel
theorem dX6_stretch_41 : decode cX6_stretch 41 = .ok (.getfield 72, 3) := by decide +kernel
theorem dX6_stretch_44 : decode cX6_stretch 44 = .ok (.iload_n 1, 1) := by decide +kernel
theorem dX6_stretch_45 : decode cX6_stretch 45 = .ok (.aload_n 0, 1) := by decide +kernel
theorem dX6_stretch_46 : decode cX6_stretch 46 = .ok (.getfield 69, 3) := by decide +kernel
theorem dX6_stretch_49 : decode cX6_stretch 49 = .ok (.iload_n 1, 1) := by decide +kernel
theorem dX6_stretch_50 : decode cX6_stretch 50 = .ok (.iaload, 1) := by decide +kernel
theorem dX6_stretch_51 : decode cX6_stretch 51 = .ok (.iload_n 2, 1) := by decide +kernel
theorem dX6_stretch_52 : decode cX6_stretch 52 = .ok (.invokestatic 210, 3) := by decide +kernel
theorem dX6_stretch_55 : decode cX6_stretch 55 = .ok (.iastore, 1) := by decide +kernel
theorem dX6_stretch_56 : decode cX6_stretch 56 = .ok (.aload_n 0, 1) := by decide +kernel
theorem dX6_stretch_57 : decode cX6_stretch 57 = .ok (.getfield 72, 3) := by decide +kernel
theorem dX6_stretch_60 : decode cX6_stretch 60 = .ok (.iload_n 1, 1) := by decide +kernel
theorem dX6_stretch_61 : decode cX6_stretch 61 = .ok (.iaload, 1) := by decide +kernel
theorem dX6_stretch_62 : decode cX6_stretch 62 = .ok (.ireturn, 1) := by decide +kernel
theorem dX6_sealTells_0 : decode cX6_sealTells 0 = .ok (.iload_n 2, 1) := by decide +kernel
theorem dX6_sealTells_1 : decode cX6_sealTells 1 = .ok (.ifCond .ne 12, 3) := by decide +kernel
theorem dX6_sealTells_4 : decode cX6_sealTells 4 = .ok (.aload_n 0, 1) := by decide +kernel
theorem dX6_sealTells_5 : decode cX6_sealTells 5 = .ok (.getfield 63, 3) := by decide +kernel
theorem dX6_sealTells_8 : decode cX6_sealTells 8 = .ok (.iload_n 1, 1) := by decide +kernel
theorem dX6_sealTells_9 : decode cX6_sealTells 9 = .ok (.iaload, 1) := by decide +kernel
theorem dX6_sealTells_10 : decode cX6_sealTells 10 = .ok (.goto 51, 3) := by decide +kernel
theorem dX6_sealTells_13 : decode cX6_sealTells 13 = .ok (.iload_n 2, 1) := by decide +kernel
theorem dX6_sealTells_14 : decode cX6_sealTells 14 = .ok (.iconst 1, 1) := by decide +kernel
theorem dX6_sealTells_15 : decode cX6_sealTells 15 = .ok (.if_icmp .ne 12, 3) := by decide +kernel
theorem dX6_sealTells_18 : decode cX6_sealTells 18 = .ok (.aload_n 0, 1) := by decide +kernel
theorem dX6_sealTells_19 : decode cX6_sealTells 19 = .ok (.getfield 72, 3) := by decide +kernel
theorem dX6_sealTells_22 : decode cX6_sealTells 22 = .ok (.iload_n 1, 1) := by decide +kernel
theorem dX6_sealTells_23 : decode cX6_sealTells 23 = .ok (.iaload, 1) := by decide +kernel
theorem dX6_sealTells_24 : decode cX6_sealTells 24 = .ok (.goto 37, 3) := by decide +kernel
theorem dX6_sealTells_27 : decode cX6_sealTells 27 = .ok (.iload_n 2, 1) := by decide +kernel
theorem dX6_sealTells_28 : decode cX6_sealTells 28 = .ok (.iconst 2, 1) := by decide +kernel
theorem dX6_sealTells_29 : decode cX6_sealTells 29 = .ok (.if_icmp .ne 12, 3) := by decide +kernel
theorem dX6_sealTells_32 : decode cX6_sealTells 32 = .ok (.aload_n 0, 1) := by decide +kernel
theorem dX6_sealTells_33 : decode cX6_sealTells 33 = .ok (.getfield 69, 3) := by decide +kernel
theorem dX6_sealTells_36 : decode cX6_sealTells 36 = .ok (.iload_n 1, 1) := by decide +kernel
theorem dX6_sealTells_37 : decode cX6_sealTells 37 = .ok (.iaload, 1) := by decide +kernel
theorem dX6_sealTells_38 : decode cX6_sealTells 38 = .ok (.goto 23, 3) := by decide +kernel
theorem dX6_sealTells_41 : decode cX6_sealTells 41 = .ok (.iload_n 2, 1) := by decide +kernel
theorem dX6_sealTells_42 : decode cX6_sealTells 42 = .ok (.iconst 3, 1) := by decide +kernel
theorem dX6_sealTells_43 : decode cX6_sealTells 43 = .ok (.if_icmp .ne 12, 3) := by decide +kernel
theorem dX6_sealTells_46 : decode cX6_sealTells 46 = .ok (.aload_n 0, 1) := by decide +kernel
theorem dX6_sealTells_47 : decode cX6_sealTells 47 = .ok (.getfield 75, 3) := by decide +kernel
theorem dX6_sealTells_50 : decode cX6_sealTells 50 = .ok (.iload_n 1, 1) := by decide +kernel
theorem dX6_sealTells_51 : decode cX6_sealTells 51 = .ok (.iaload, 1) := by decide +kernel
theorem dX6_sealTells_52 : decode cX6_sealTells 52 = .ok (.goto 9, 3) := by decide +kernel
theorem dX6_sealTells_55 : decode cX6_sealTells 55 = .ok (.aload_n 0, 1) := by decide +kernel
theorem dX6_sealTells_56 : decode cX6_sealTells 56 = .ok (.getfield 84, 3) := by decide +kernel
theorem dX6_sealTells_59 : decode cX6_sealTells 59 = .ok (.iload_n 1, 1) := by decide +kernel
theorem dX6_sealTells_60 : decode cX6_sealTells 60 = .ok (.iaload, 1) := by decide +kernel
theorem dX6_sealTells_61 : decode cX6_sealTells 61 = .ok (.ireturn, 1) := by decide +kernel
theorem dX6_told_0 : decode cX6_told 0 = .ok (.aload_n 0, 1) := by decide +kernel
theorem dX6_told_1 : decode cX6_told 1 = .ok (.iload_n 2, 1) := by decide +kernel
theorem dX6_told_2 : decode cX6_told 2 = .ok (.iconst 0, 1) := by decide +kernel
theorem dX6_told_3 : decode cX6_told 3 = .ok (.iconst 4, 1) := by decide +kernel
theorem dX6_told_4 : decode cX6_told 4 = .ok (.invokestatic 104, 3) := by decide +kernel
theorem dX6_told_7 : decode cX6_told 7 = .ok (.iload_n 1, 1) := by decide +kernel
theorem dX6_told_8 : decode cX6_told 8 = .ok (.invokevirtual 201, 3) := by decide +kernel
theorem dX6_told_11 : decode cX6_told 11 = .ok (.istore_n 3, 1) := by decide +kernel
theorem dX6_told_12 : decode cX6_told 12 = .ok (.iload_n 3, 1) := by decide +kernel
theorem dX6_told_13 : decode cX6_told 13 = .ok (.ifCond .ge 7, 3) := by decide +kernel
theorem dX6_told_16 : decode cX6_told 16 = .ok (.iload_n 3, 1) := by decide +kernel
theorem dX6_told_17 : decode cX6_told 17 = .ok (.goto 14, 3) := by decide +kernel
theorem dX6_told_20 : decode cX6_told 20 = .ok (.aload_n 0, 1) := by decide +kernel
theorem dX6_told_21 : decode cX6_told 21 = .ok (.aload_n 0, 1) := by decide +kernel
theorem dX6_told_22 : decode cX6_told 22 = .ok (.iload_n 1, 1) := by decide +kernel
theorem dX6_told_23 : decode cX6_told 23 = .ok (.iload_n 2, 1) := by decide +kernel
theorem dX6_told_24 : decode cX6_told 24 = .ok (.invokevirtual 213, 3) := by decide +kernel
theorem dX6_told_27 : decode cX6_told 27 = .ok (.iconst 1, 1) := by decide +kernel
theorem dX6_told_28 : decode cX6_told 28 = .ok (.invokevirtual 130, 3) := by decide +kernel
theorem dX6_told_31 : decode cX6_told 31 = .ok (.ireturn, 1) := by decide +kernel
theorem dX6_mark_0 : decode cX6_mark 0 = .ok (.aload_n 0, 1) := by decide +kernel
theorem dX6_mark_1 : decode cX6_mark 1 = .ok (.iload_n 2, 1) := by decide +kernel
theorem dX6_mark_2 : decode cX6_mark 2 = .ok (.iconst 1, 1) := by decide +kernel
theorem dX6_mark_3 : decode cX6_mark 3 = .ok (.iconst 4, 1) := by decide +kernel
theorem dX6_mark_4 : decode cX6_mark 4 = .ok (.invokestatic 104, 3) := by decide +kernel
theorem dX6_mark_7 : decode cX6_mark 7 = .ok (.iload_n 1, 1) := by decide +kernel
theorem dX6_mark_8 : decode cX6_mark 8 = .ok (.invokevirtual 201, 3) := by decide +kernel
theorem dX6_mark_11 : decode cX6_mark 11 = .ok (.istore_n 3, 1) := by decide +kernel
theorem dX6_mark_12 : decode cX6_mark 12 = .ok (.iload_n 3, 1) := by decide +kernel
theorem dX6_mark_13 : decode cX6_mark 13 = .ok (.ifCond .ge 5, 3) := by decide +kernel
theorem dX6_mark_16 : decode cX6_mark 16 = .ok (.iload_n 3, 1) := by decide +kernel
theorem dX6_mark_17 : decode cX6_mark 17 = .ok (.ireturn, 1) := by decide +kernel
theorem dX6_mark_18 : decode cX6_mark 18 = .ok (.iload_n 2, 1) := by decide +kernel
theorem dX6_mark_19 : decode cX6_mark 19 = .ok (.iconst 1, 1) := by decide +kernel
theorem dX6_mark_20 : decode cX6_mark 20 = .ok (.if_icmp .ne 11, 3) := by decide +kernel
theorem dX6_mark_23 : decode cX6_mark 23 = .ok (.aload_n 0, 1) := by decide +kernel
theorem dX6_mark_24 : decode cX6_mark 24 = .ok (.iload_n 1, 1) := by decide +kernel
theorem dX6_mark_25 : decode cX6_mark 25 = .ok (.invokevirtual 204, 3) := by decide +kernel
theorem dX6_mark_28 : decode cX6_mark 28 = .ok (.goto 31, 3) := by decide +kernel
theorem dX6_mark_31 : decode cX6_mark 31 = .ok (.iload_n 2, 1) := by decide +kernel
theorem dX6_mark_32 : decode cX6_mark 32 = .ok (.iconst 2, 1) := by decide +kernel
theorem dX6_mark_33 : decode cX6_mark 33 = .ok (.if_icmp .ne 11, 3) := by decide +kernel
theorem dX6_mark_36 : decode cX6_mark 36 = .ok (.aload_n 0, 1) := by decide +kernel
theorem dX6_mark_37 : decode cX6_mark 37 = .ok (.iload_n 1, 1) := by decide +kernel
theorem dX6_mark_38 : decode cX6_mark 38 = .ok (.invokevirtual 207, 3) := by decide +kernel
theorem dX6_mark_41 : decode cX6_mark 41 = .ok (.goto 18, 3) := by decide +kernel
theorem dX6_mark_44 : decode cX6_mark 44 = .ok (.aload_n 0, 1) := by decide +kernel
theorem dX6_mark_45 : decode cX6_mark 45 = .ok (.getfield 63, 3) := by decide +kernel
theorem dX6_mark_48 : decode cX6_mark 48 = .ok (.iload_n 1, 1) := by decide +kernel
theorem dX6_mark_49 : decode cX6_mark 49 = .ok (.iaload, 1) := by decide +kernel
theorem dX6_mark_50 : decode cX6_mark 50 = .ok (.iload_n 2, 1) := by decide +kernel
theorem dX6_mark_51 : decode cX6_mark 51 = .ok (.if_icmp .ne 7, 3) := by decide +kernel
theorem dX6_mark_54 : decode cX6_mark 54 = .ok (.iconst 1, 1) := by decide +kernel
theorem dX6_mark_55 : decode cX6_mark 55 = .ok (.goto 4, 3) := by decide +kernel
theorem dX6_mark_58 : decode cX6_mark 58 = .ok (.iconst 0, 1) := by decide +kernel
theorem dX6_mark_59 : decode cX6_mark 59 = .ok (.istore 4, 2) := by decide +kernel
theorem dX6_mark_61 : decode cX6_mark 61 = .ok (.iload 4, 2) := by decide +kernel
theorem dX6_mark_63 : decode cX6_mark 63 = .ok (.ifCond .ne 11, 3) := by decide +kernel
theorem dX6_mark_66 : decode cX6_mark 66 = .ok (.aload_n 0, 1) := by decide +kernel
theorem dX6_mark_67 : decode cX6_mark 67 = .ok (.iconst 3, 1) := by decide +kernel
theorem dX6_mark_68 : decode cX6_mark 68 = .ok (.invokevirtual 122, 3) := by decide +kernel
theorem dX6_mark_71 : decode cX6_mark 71 = .ok (.goto 37, 3) := by decide +kernel
theorem dX6_mark_74 : decode cX6_mark 74 = .ok (.iload_n 2, 1) := by decide +kernel
theorem dX6_mark_75 : decode cX6_mark 75 = .ok (.iconst 1, 1) := by decide +kernel
theorem dX6_mark_76 : decode cX6_mark 76 = .ok (.if_icmp .ne 12, 3) := by decide +kernel
theorem dX6_mark_79 : decode cX6_mark 79 = .ok (.aload_n 0, 1) := by decide +kernel
theorem dX6_mark_80 : decode cX6_mark 80 = .ok (.getfield 66, 3) := by decide +kernel
theorem dX6_mark_83 : decode cX6_mark 83 = .ok (.iload_n 1, 1) := by decide +kernel
theorem dX6_mark_84 : decode cX6_mark 84 = .ok (.iaload, 1) := by decide +kernel
theorem dX6_mark_85 : decode cX6_mark 85 = .ok (.goto 23, 3) := by decide +kernel
theorem dX6_mark_88 : decode cX6_mark 88 = .ok (.iload_n 2, 1) := by decide +kernel
theorem dX6_mark_89 : decode cX6_mark 89 = .ok (.iconst 2, 1) := by decide +kernel
theorem dX6_mark_90 : decode cX6_mark 90 = .ok (.if_icmp .ne 12, 3) := by decide +kernel
theorem dX6_mark_93 : decode cX6_mark 93 = .ok (.aload_n 0, 1) := by decide +kernel
theorem dX6_mark_94 : decode cX6_mark 94 = .ok (.getfield 78, 3) := by decide +kernel
theorem dX6_mark_97 : decode cX6_mark 97 = .ok (.iload_n 1, 1) := by decide +kernel
theorem dX6_mark_98 : decode cX6_mark 98 = .ok (.iaload, 1) := by decide +kernel
theorem dX6_mark_99 : decode cX6_mark 99 = .ok (.goto 9, 3) := by decide +kernel
theorem dX6_mark_102 : decode cX6_mark 102 = .ok (.aload_n 0, 1) := by decide +kernel
theorem dX6_mark_103 : decode cX6_mark 103 = .ok (.getfield 81, 3) := by decide +kernel
theorem dX6_mark_106 : decode cX6_mark 106 = .ok (.iload_n 1, 1) := by decide +kernel
theorem dX6_mark_107 : decode cX6_mark 107 = .ok (.iaload, 1) := by decide +kernel
theorem dX6_mark_108 : decode cX6_mark 108 = .ok (.ireturn, 1) := by decide +kernel
theorem dX6_let_0 : decode cX6_let 0 = .ok (.iload_n 1, 1) := by decide +kernel
theorem dX6_let_1 : decode cX6_let 1 = .ok (.ifCond .ne 13, 3) := by decide +kernel
theorem dX6_let_4 : decode cX6_let 4 = .ok (.iload_n 2, 1) := by decide +kernel
theorem dX6_let_5 : decode cX6_let 5 = .ok (.iconst 0, 1) := by decide +kernel
theorem dX6_let_6 : decode cX6_let 6 = .ok (.ldc 216, 2) := by decide +kernel
theorem dX6_let_8 : decode cX6_let 8 = .ok (.invokestatic 104, 3) := by decide +kernel
theorem dX6_let_11 : decode cX6_let 11 = .ok (.goto 55, 3) := by decide +kernel
theorem dX6_let_14 : decode cX6_let 14 = .ok (.iload_n 1, 1) := by decide +kernel
theorem dX6_let_15 : decode cX6_let 15 = .ok (.iconst 1, 1) := by decide +kernel
theorem dX6_let_16 : decode cX6_let 16 = .ok (.if_icmp .ne 14, 3) := by decide +kernel
theorem dX6_let_19 : decode cX6_let 19 = .ok (.iload_n 2, 1) := by decide +kernel
theorem dX6_let_20 : decode cX6_let 20 = .ok (.bipush (-99), 2) := by decide +kernel
theorem dX6_let_22 : decode cX6_let 22 = .ok (.bipush 99, 2) := by decide +kernel
theorem dX6_let_24 : decode cX6_let 24 = .ok (.invokestatic 104, 3) := by decide +kernel
theorem dX6_let_27 : decode cX6_let 27 = .ok (.goto 39, 3) := by decide +kernel
theorem dX6_let_30 : decode cX6_let 30 = .ok (.iload_n 1, 1) := by decide +kernel
theorem dX6_let_31 : decode cX6_let 31 = .ok (.iconst 2, 1) := by decide +kernel
theorem dX6_let_32 : decode cX6_let 32 = .ok (.if_icmp .ne 14, 3) := by decide +kernel
theorem dX6_let_35 : decode cX6_let 35 = .ok (.iload_n 2, 1) := by decide +kernel
theorem dX6_let_36 : decode cX6_let 36 = .ok (.iconst 0, 1) := by decide +kernel
theorem dX6_let_37 : decode cX6_let 37 = .ok (.sipush 9999, 3) := by decide +kernel
theorem dX6_let_40 : decode cX6_let 40 = .ok (.invokestatic 104, 3) := by decide +kernel
theorem dX6_let_43 : decode cX6_let 43 = .ok (.goto 23, 3) := by decide +kernel
theorem dX6_let_46 : decode cX6_let 46 = .ok (.iload_n 1, 1) := by decide +kernel
theorem dX6_let_47 : decode cX6_let 47 = .ok (.iconst 3, 1) := by decide +kernel
theorem dX6_let_48 : decode cX6_let 48 = .ok (.if_icmp .ne 17, 3) := by decide +kernel
theorem dX6_let_51 : decode cX6_let 51 = .ok (.iload_n 2, 1) := by decide +kernel
theorem dX6_let_52 : decode cX6_let 52 = .ok (.iconst 0, 1) := by decide +kernel
theorem dX6_let_53 : decode cX6_let 53 = .ok (.bipush 99, 2) := by decide +kernel
theorem dX6_let_55 : decode cX6_let 55 = .ok (.invokestatic 104, 3) := by decide +kernel
theorem dX6_let_58 : decode cX6_let 58 = .ok (.ifCond .eq 7, 3) := by decide +kernel
theorem dX6_let_61 : decode cX6_let 61 = .ok (.iconst 1, 1) := by decide +kernel
theorem dX6_let_62 : decode cX6_let 62 = .ok (.goto 4, 3) := by decide +kernel
theorem dX6_let_65 : decode cX6_let 65 = .ok (.iconst 0, 1) := by decide +kernel
theorem dX6_let_66 : decode cX6_let 66 = .ok (.istore_n 3, 1) := by decide +kernel
theorem dX6_let_67 : decode cX6_let 67 = .ok (.iload_n 3, 1) := by decide +kernel
theorem dX6_let_68 : decode cX6_let 68 = .ok (.ifCond .ne 5, 3) := by decide +kernel
theorem dX6_let_71 : decode cX6_let 71 = .ok (.iconst (-1), 1) := by decide +kernel
theorem dX6_let_72 : decode cX6_let 72 = .ok (.ireturn, 1) := by decide +kernel
theorem dX6_let_73 : decode cX6_let 73 = .ok (.iload_n 1, 1) := by decide +kernel
theorem dX6_let_74 : decode cX6_let 74 = .ok (.ifCond .ne 10, 3) := by decide +kernel
theorem dX6_let_77 : decode cX6_let 77 = .ok (.aload_n 0, 1) := by decide +kernel
theorem dX6_let_78 : decode cX6_let 78 = .ok (.getfield 217, 3) := by decide +kernel
theorem dX6_let_81 : decode cX6_let 81 = .ok (.goto 31, 3) := by decide +kernel
theorem dX6_let_84 : decode cX6_let 84 = .ok (.iload_n 1, 1) := by decide +kernel
theorem dX6_let_85 : decode cX6_let 85 = .ok (.iconst 1, 1) := by decide +kernel
theorem dX6_let_86 : decode cX6_let 86 = .ok (.if_icmp .ne 10, 3) := by decide +kernel
theorem dX6_let_89 : decode cX6_let 89 = .ok (.aload_n 0, 1) := by decide +kernel
theorem dX6_let_90 : decode cX6_let 90 = .ok (.getfield 97, 3) := by decide +kernel
theorem dX6_let_93 : decode cX6_let 93 = .ok (.goto 19, 3) := by decide +kernel
theorem dX6_let_96 : decode cX6_let 96 = .ok (.iload_n 1, 1) := by decide +kernel
theorem dX6_let_97 : decode cX6_let 97 = .ok (.iconst 2, 1) := by decide +kernel
theorem dX6_let_98 : decode cX6_let 98 = .ok (.if_icmp .ne 10, 3) := by decide +kernel
theorem dX6_let_101 : decode cX6_let 101 = .ok (.aload_n 0, 1) := by decide +kernel
theorem dX6_let_102 : decode cX6_let 102 = .ok (.getfield 220, 3) := by decide +kernel
theorem dX6_let_105 : decode cX6_let 105 = .ok (.goto 7, 3) := by decide +kernel
theorem dX6_let_108 : decode cX6_let 108 = .ok (.aload_n 0, 1) := by decide +kernel
theorem dX6_let_109 : decode cX6_let 109 = .ok (.getfield 223, 3) := by decide +kernel
theorem dX6_let_112 : decode cX6_let 112 = .ok (.istore 4, 2) := by decide +kernel
theorem dX6_let_114 : decode cX6_let 114 = .ok (.aload_n 0, 1) := by decide +kernel
theorem dX6_let_115 : decode cX6_let 115 = .ok (.iload_n 1, 1) := by decide +kernel
theorem dX6_let_116 : decode cX6_let 116 = .ok (.ifCond .ne 7, 3) := by decide +kernel
theorem dX6_let_119 : decode cX6_let 119 = .ok (.iload_n 2, 1) := by decide +kernel
theorem dX6_let_120 : decode cX6_let 120 = .ok (.goto 7, 3) := by decide +kernel
theorem dX6_let_123 : decode cX6_let 123 = .ok (.aload_n 0, 1) := by decide +kernel
theorem dX6_let_124 : decode cX6_let 124 = .ok (.getfield 217, 3) := by decide +kernel
theorem dX6_let_127 : decode cX6_let 127 = .ok (.putfield 217, 3) := by decide +kernel
theorem dX6_let_130 : decode cX6_let 130 = .ok (.aload_n 0, 1) := by decide +kernel
theorem dX6_let_131 : decode cX6_let 131 = .ok (.iload_n 1, 1) := by decide +kernel
theorem dX6_let_132 : decode cX6_let 132 = .ok (.iconst 1, 1) := by decide +kernel
theorem dX6_let_133 : decode cX6_let 133 = .ok (.if_icmp .ne 7, 3) := by decide +kernel
theorem dX6_let_136 : decode cX6_let 136 = .ok (.iload_n 2, 1) := by decide +kernel
theorem dX6_let_137 : decode cX6_let 137 = .ok (.goto 7, 3) := by decide +kernel
theorem dX6_let_140 : decode cX6_let 140 = .ok (.aload_n 0, 1) := by decide +kernel
theorem dX6_let_141 : decode cX6_let 141 = .ok (.getfield 97, 3) := by decide +kernel
theorem dX6_let_144 : decode cX6_let 144 = .ok (.putfield 97, 3) := by decide +kernel
theorem dX6_let_147 : decode cX6_let 147 = .ok (.aload_n 0, 1) := by decide +kernel
theorem dX6_let_148 : decode cX6_let 148 = .ok (.iload_n 1, 1) := by decide +kernel
theorem dX6_let_149 : decode cX6_let 149 = .ok (.iconst 2, 1) := by decide +kernel
theorem dX6_let_150 : decode cX6_let 150 = .ok (.if_icmp .ne 7, 3) := by decide +kernel
theorem dX6_let_153 : decode cX6_let 153 = .ok (.iload_n 2, 1) := by decide +kernel
theorem dX6_let_154 : decode cX6_let 154 = .ok (.goto 7, 3) := by decide +kernel
theorem dX6_let_157 : decode cX6_let 157 = .ok (.aload_n 0, 1) := by decide +kernel
theorem dX6_let_158 : decode cX6_let 158 = .ok (.getfield 220, 3) := by decide +kernel
theorem dX6_let_161 : decode cX6_let 161 = .ok (.putfield 220, 3) := by decide +kernel
theorem dX6_let_164 : decode cX6_let 164 = .ok (.aload_n 0, 1) := by decide +kernel
theorem dX6_let_165 : decode cX6_let 165 = .ok (.iload_n 1, 1) := by decide +kernel
theorem dX6_let_166 : decode cX6_let 166 = .ok (.iconst 3, 1) := by decide +kernel
theorem dX6_let_167 : decode cX6_let 167 = .ok (.if_icmp .ne 7, 3) := by decide +kernel
theorem dX6_let_170 : decode cX6_let 170 = .ok (.iload_n 2, 1) := by decide +kernel
theorem dX6_let_171 : decode cX6_let 171 = .ok (.goto 7, 3) := by decide +kernel
theorem dX6_let_174 : decode cX6_let 174 = .ok (.aload_n 0, 1) := by decide +kernel
theorem dX6_let_175 : decode cX6_let 175 = .ok (.getfield 223, 3) := by decide +kernel
theorem dX6_let_178 : decode cX6_let 178 = .ok (.putfield 223, 3) := by decide +kernel
theorem dX6_let_181 : decode cX6_let 181 = .ok (.iload 4, 2) := by decide +kernel
theorem dX6_let_183 : decode cX6_let 183 = .ok (.ireturn, 1) := by decide +kernel
theorem dX6_topOf_0 : decode cX6_topOf 0 = .ok (.aload_n 0, 1) := by decide +kernel
theorem dX6_topOf_1 : decode cX6_topOf 1 = .ok (.getfield 72, 3) := by decide +kernel
theorem dX6_topOf_4 : decode cX6_topOf 4 = .ok (.iload_n 1, 1) := by decide +kernel
theorem dX6_topOf_5 : decode cX6_topOf 5 = .ok (.iaload, 1) := by decide +kernel
theorem dX6_topOf_6 : decode cX6_topOf 6 = .ok (.aload_n 0, 1) := by decide +kernel
theorem dX6_topOf_7 : decode cX6_topOf 7 = .ok (.getfield 84, 3) := by decide +kernel
theorem dX6_topOf_10 : decode cX6_topOf 10 = .ok (.iload_n 1, 1) := by decide +kernel
theorem dX6_topOf_11 : decode cX6_topOf 11 = .ok (.iaload, 1) := by decide +kernel
theorem dX6_topOf_12 : decode cX6_topOf 12 = .ok (.isub, 1) := by decide +kernel
theorem dX6_topOf_13 : decode cX6_topOf 13 = .ok (.ireturn, 1) := by decide +kernel
theorem dX6_factor_0 : decode cX6_factor 0 = .ok (.aload_n 0, 1) := by decide +kernel
theorem dX6_factor_1 : decode cX6_factor 1 = .ok (.getfield 97, 3) := by decide +kernel
theorem dX6_factor_4 : decode cX6_factor 4 = .ok (.aload_n 0, 1) := by decide +kernel
theorem dX6_factor_5 : decode cX6_factor 5 = .ok (.getfield 45, 3) := by decide +kernel
theorem dX6_factor_8 : decode cX6_factor 8 = .ok (.iload_n 1, 1) := by decide +kernel
theorem dX6_factor_9 : decode cX6_factor 9 = .ok (.iaload, 1) := by decide +kernel
theorem dX6_factor_10 : decode cX6_factor 10 = .ok (.if_icmp .ge 7, 3) := by decide +kernel
theorem dX6_factor_13 : decode cX6_factor 13 = .ok (.iconst 3, 1) := by decide +kernel
theorem dX6_factor_14 : decode cX6_factor 14 = .ok (.goto 4, 3) := by decide +kernel
theorem dX6_factor_17 : decode cX6_factor 17 = .ok (.iconst 1, 1) := by decide +kernel
theorem dX6_factor_18 : decode cX6_factor 18 = .ok (.ireturn, 1) := by decide +kernel
theorem dX6_highest_0 : decode cX6_highest 0 = .ok (.iconst 0, 1) := by decide +kernel
theorem dX6_highest_1 : decode cX6_highest 1 = .ok (.istore_n 3, 1) := by decide +kernel
theorem dX6_highest_2 : decode cX6_highest 2 = .ok (.aload_n 0, 1) := by decide +kernel
theorem dX6_highest_3 : decode cX6_highest 3 = .ok (.iconst 0, 1) := by decide +kernel
theorem dX6_highest_4 : decode cX6_highest 4 = .ok (.putfield 226, 3) := by decide +kernel
theorem dX6_highest_7 : decode cX6_highest 7 = .ok (.iconst 0, 1) := by decide +kernel
theorem dX6_highest_8 : decode cX6_highest 8 = .ok (.istore 4, 2) := by decide +kernel
theorem dX6_highest_10 : decode cX6_highest 10 = .ok (.iload 4, 2) := by decide +kernel
theorem dX6_highest_12 : decode cX6_highest 12 = .ok (.iconst 4, 1) := by decide +kernel
theorem dX6_highest_13 : decode cX6_highest 13 = .ok (.if_icmp .ge 77, 3) := by decide +kernel
theorem dX6_highest_16 : decode cX6_highest 16 = .ok (.aload_n 0, 1) := by decide +kernel
theorem dX6_highest_17 : decode cX6_highest 17 = .ok (.getfield 63, 3) := by decide +kernel
theorem dX6_highest_20 : decode cX6_highest 20 = .ok (.iload 4, 2) := by decide +kernel
theorem dX6_highest_22 : decode cX6_highest 22 = .ok (.iaload, 1) := by decide +kernel
theorem dX6_highest_23 : decode cX6_highest 23 = .ok (.ifCond .ne 7, 3) := by decide +kernel
theorem dX6_highest_26 : decode cX6_highest 26 = .ok (.iload_n 1, 1) := by decide +kernel
theorem dX6_highest_27 : decode cX6_highest 27 = .ok (.goto 21, 3) := by decide +kernel
theorem dX6_highest_30 : decode cX6_highest 30 = .ok (.aload_n 0, 1) := by decide +kernel
theorem dX6_highest_31 : decode cX6_highest 31 = .ok (.iload 4, 2) := by decide +kernel
theorem dX6_highest_33 : decode cX6_highest 33 = .ok (.invokevirtual 198, 3) := by decide +kernel
theorem dX6_highest_36 : decode cX6_highest 36 = .ok (.ifCond .eq 11, 3) := by decide +kernel
theorem dX6_highest_39 : decode cX6_highest 39 = .ok (.iload_n 2, 1) := by decide +kernel
theorem dX6_highest_40 : decode cX6_highest 40 = .ok (.ifCond .eq 7, 3) := by decide +kernel
theorem dX6_highest_43 : decode cX6_highest 43 = .ok (.iconst 1, 1) := by decide +kernel
theorem dX6_highest_44 : decode cX6_highest 44 = .ok (.goto 4, 3) := by decide +kernel
theorem dX6_highest_47 : decode cX6_highest 47 = .ok (.iconst 0, 1) := by decide +kernel
theorem dX6_highest_48 : decode cX6_highest 48 = .ok (.istore 5, 2) := by decide +kernel
theorem dX6_highest_50 : decode cX6_highest 50 = .ok (.iload 5, 2) := by decide +kernel
theorem dX6_highest_52 : decode cX6_highest 52 = .ok (.ifCond .eq 32, 3) := by decide +kernel
theorem dX6_highest_55 : decode cX6_highest 55 = .ok (.aload_n 0, 1) := by decide +kernel
theorem dX6_highest_56 : decode cX6_highest 56 = .ok (.getfield 226, 3) := by decide +kernel
theorem dX6_highest_59 : decode cX6_highest 59 = .ok (.ifCond .eq 13, 3) := by decide +kernel
theorem dX6_highest_62 : decode cX6_highest 62 = .ok (.aload_n 0, 1) := by decide +kernel
theorem dX6_highest_63 : decode cX6_highest 63 = .ok (.iload 4, 2) := by decide +kernel
theorem dX6_highest_65 : decode cX6_highest 65 = .ok (.invokevirtual 230, 3) := by decide +kernel
theorem dX6_highest_68 : decode cX6_highest 68 = .ok (.iload_n 3, 1) := by decide +kernel
theorem dX6_highest_69 : decode cX6_highest 69 = .ok (.if_icmp .le 15, 3) := by decide +kernel
theorem dX6_highest_72 : decode cX6_highest 72 = .ok (.aload_n 0, 1) := by decide +kernel
theorem dX6_highest_73 : decode cX6_highest 73 = .ok (.iload 4, 2) := by decide +kernel
theorem dX6_highest_75 : decode cX6_highest 75 = .ok (.invokevirtual 230, 3) := by decide +kernel
theorem dX6_highest_78 : decode cX6_highest 78 = .ok (.istore_n 3, 1) := by decide +kernel
theorem dX6_highest_79 : decode cX6_highest 79 = .ok (.aload_n 0, 1) := by decide +kernel
theorem dX6_highest_80 : decode cX6_highest 80 = .ok (.iconst 1, 1) := by decide +kernel
theorem dX6_highest_81 : decode cX6_highest 81 = .ok (.putfield 226, 3) := by decide +kernel
theorem dX6_highest_84 : decode cX6_highest 84 = .ok (.iinc 4 1, 3) := by decide +kernel
theorem dX6_highest_87 : decode cX6_highest 87 = .ok (.goto (-77), 3) := by decide +kernel
theorem dX6_highest_90 : decode cX6_highest 90 = .ok (.iload_n 3, 1) := by decide +kernel
theorem dX6_highest_91 : decode cX6_highest 91 = .ok (.ireturn, 1) := by decide +kernel
theorem dX6_nextBreak_0 : decode cX6_nextBreak 0 = .ok (.iload_n 1, 1) := by decide +kernel
theorem dX6_nextBreak_1 : decode cX6_nextBreak 1 = .ok (.istore_n 2, 1) := by decide +kernel
theorem dX6_nextBreak_2 : decode cX6_nextBreak 2 = .ok (.iconst 0, 1) := by decide +kernel
theorem dX6_nextBreak_3 : decode cX6_nextBreak 3 = .ok (.istore_n 3, 1) := by decide +kernel
theorem dX6_nextBreak_4 : decode cX6_nextBreak 4 = .ok (.iload_n 3, 1) := by decide +kernel
theorem dX6_nextBreak_5 : decode cX6_nextBreak 5 = .ok (.iconst 4, 1) := by decide +kernel
theorem dX6_nextBreak_6 : decode cX6_nextBreak 6 = .ok (.if_icmp .ge 90, 3) := by decide +kernel
theorem dX6_nextBreak_9 : decode cX6_nextBreak 9 = .ok (.aload_n 0, 1) := by decide +kernel
theorem dX6_nextBreak_10 : decode cX6_nextBreak 10 = .ok (.iload_n 3, 1) := by decide +kernel
theorem dX6_nextBreak_11 : decode cX6_nextBreak 11 = .ok (.invokevirtual 204, 3) := by decide +kernel
theorem dX6_nextBreak_14 : decode cX6_nextBreak 14 = .ok (.ifCond .eq 76, 3) := by decide +kernel
theorem dX6_nextBreak_17 : decode cX6_nextBreak 17 = .ok (.aload_n 0, 1) := by decide +kernel
theorem dX6_nextBreak_18 : decode cX6_nextBreak 18 = .ok (.getfield 66, 3) := by decide +kernel
theorem dX6_nextBreak_21 : decode cX6_nextBreak 21 = .ok (.iload_n 3, 1) := by decide +kernel
theorem dX6_nextBreak_22 : decode cX6_nextBreak 22 = .ok (.iaload, 1) := by decide +kernel
theorem dX6_nextBreak_23 : decode cX6_nextBreak 23 = .ok (.istore 4, 2) := by decide +kernel
theorem dX6_nextBreak_25 : decode cX6_nextBreak 25 = .ok (.iconst 0, 1) := by decide +kernel
theorem dX6_nextBreak_26 : decode cX6_nextBreak 26 = .ok (.istore 5, 2) := by decide +kernel
theorem dX6_nextBreak_28 : decode cX6_nextBreak 28 = .ok (.iload 5, 2) := by decide +kernel
theorem dX6_nextBreak_30 : decode cX6_nextBreak 30 = .ok (.aload_n 0, 1) := by decide +kernel
theorem dX6_nextBreak_31 : decode cX6_nextBreak 31 = .ok (.getfield 33, 3) := by decide +kernel
theorem dX6_nextBreak_34 : decode cX6_nextBreak 34 = .ok (.iload 4, 2) := by decide +kernel
theorem dX6_nextBreak_36 : decode cX6_nextBreak 36 = .ok (.iaload, 1) := by decide +kernel
theorem dX6_nextBreak_37 : decode cX6_nextBreak 37 = .ok (.if_icmp .ge 53, 3) := by decide +kernel
theorem dX6_nextBreak_40 : decode cX6_nextBreak 40 = .ok (.aload_n 0, 1) := by decide +kernel
theorem dX6_nextBreak_41 : decode cX6_nextBreak 41 = .ok (.iload_n 3, 1) := by decide +kernel
theorem dX6_nextBreak_42 : decode cX6_nextBreak 42 = .ok (.invokevirtual 230, 3) := by decide +kernel
theorem dX6_nextBreak_45 : decode cX6_nextBreak 45 = .ok (.aload_n 0, 1) := by decide +kernel
theorem dX6_nextBreak_46 : decode cX6_nextBreak 46 = .ok (.getfield 36, 3) := by decide +kernel
theorem dX6_nextBreak_49 : decode cX6_nextBreak 49 = .ok (.iconst 5, 1) := by decide +kernel
theorem dX6_nextBreak_50 : decode cX6_nextBreak 50 = .ok (.iload 4, 2) := by decide +kernel
theorem dX6_nextBreak_52 : decode cX6_nextBreak 52 = .ok (.imul, 1) := by decide +kernel
theorem dX6_nextBreak_53 : decode cX6_nextBreak 53 = .ok (.iload 5, 2) := by decide +kernel
theorem dX6_nextBreak_55 : decode cX6_nextBreak 55 = .ok (.iadd, 1) := by decide +kernel
theorem dX6_nextBreak_56 : decode cX6_nextBreak 56 = .ok (.iaload, 1) := by decide +kernel
theorem dX6_nextBreak_57 : decode cX6_nextBreak 57 = .ok (.isub, 1) := by decide +kernel
theorem dX6_nextBreak_58 : decode cX6_nextBreak 58 = .ok (.istore 6, 2) := by decide +kernel
theorem dX6_nextBreak_60 : decode cX6_nextBreak 60 = .ok (.iload 6, 2) := by decide +kernel
theorem dX6_nextBreak_62 : decode cX6_nextBreak 62 = .ok (.iload_n 1, 1) := by decide +kernel
theorem dX6_nextBreak_63 : decode cX6_nextBreak 63 = .ok (.if_icmp .ge 19, 3) := by decide +kernel
theorem dX6_nextBreak_66 : decode cX6_nextBreak 66 = .ok (.iload_n 2, 1) := by decide +kernel
theorem dX6_nextBreak_67 : decode cX6_nextBreak 67 = .ok (.iload_n 1, 1) := by decide +kernel
theorem dX6_nextBreak_68 : decode cX6_nextBreak 68 = .ok (.if_icmp .eq 9, 3) := by decide +kernel
theorem dX6_nextBreak_71 : decode cX6_nextBreak 71 = .ok (.iload 6, 2) := by decide +kernel
theorem dX6_nextBreak_73 : decode cX6_nextBreak 73 = .ok (.iload_n 2, 1) := by decide +kernel
theorem dX6_nextBreak_74 : decode cX6_nextBreak 74 = .ok (.if_icmp .le 8, 3) := by decide +kernel
theorem dX6_nextBreak_77 : decode cX6_nextBreak 77 = .ok (.iload 6, 2) := by decide +kernel
theorem dX6_nextBreak_79 : decode cX6_nextBreak 79 = .ok (.goto 4, 3) := by decide +kernel
theorem dX6_nextBreak_82 : decode cX6_nextBreak 82 = .ok (.iload_n 2, 1) := by decide +kernel
theorem dX6_nextBreak_83 : decode cX6_nextBreak 83 = .ok (.istore_n 2, 1) := by decide +kernel
theorem dX6_nextBreak_84 : decode cX6_nextBreak 84 = .ok (.iinc 5 1, 3) := by decide +kernel
theorem dX6_nextBreak_87 : decode cX6_nextBreak 87 = .ok (.goto (-59), 3) := by decide +kernel
theorem dX6_nextBreak_90 : decode cX6_nextBreak 90 = .ok (.iinc 3 1, 3) := by decide +kernel
theorem dX6_nextBreak_93 : decode cX6_nextBreak 93 = .ok (.goto (-89), 3) := by decide +kernel
theorem dX6_nextBreak_96 : decode cX6_nextBreak 96 = .ok (.iload_n 2, 1) := by decide +kernel
theorem dX6_nextBreak_97 : decode cX6_nextBreak 97 = .ok (.ireturn, 1) := by decide +kernel
theorem dX6_restsBelow_0 : decode cX6_restsBelow 0 = .ok (.lconst 1, 1) := by decide +kernel
theorem dX6_restsBelow_1 : decode cX6_restsBelow 1 = .ok (.lstore_n 3, 1) := by decide +kernel
theorem dX6_restsBelow_2 : decode cX6_restsBelow 2 = .ok (.iconst 0, 1) := by decide +kernel
theorem dX6_restsBelow_3 : decode cX6_restsBelow 3 = .ok (.istore 5, 2) := by decide +kernel
theorem dX6_restsBelow_5 : decode cX6_restsBelow 5 = .ok (.iload 5, 2) := by decide +kernel
theorem dX6_restsBelow_7 : decode cX6_restsBelow 7 = .ok (.iconst 4, 1) := by decide +kernel
theorem dX6_restsBelow_8 : decode cX6_restsBelow 8 = .ok (.if_icmp .ge 74, 3) := by decide +kernel
theorem dX6_restsBelow_11 : decode cX6_restsBelow 11 = .ok (.aload_n 0, 1) := by decide +kernel
theorem dX6_restsBelow_12 : decode cX6_restsBelow 12 = .ok (.iload 5, 2) := by decide +kernel
theorem dX6_restsBelow_14 : decode cX6_restsBelow 14 = .ok (.invokevirtual 204, 3) := by decide +kernel
theorem dX6_restsBelow_17 : decode cX6_restsBelow 17 = .ok (.ifCond .eq 59, 3) := by decide +kernel
theorem dX6_restsBelow_20 : decode cX6_restsBelow 20 = .ok (.aload_n 0, 1) := by decide +kernel
theorem dX6_restsBelow_21 : decode cX6_restsBelow 21 = .ok (.iload 5, 2) := by decide +kernel
theorem dX6_restsBelow_23 : decode cX6_restsBelow 23 = .ok (.invokevirtual 230, 3) := by decide +kernel
theorem dX6_restsBelow_26 : decode cX6_restsBelow 26 = .ok (.iload_n 1, 1) := by decide +kernel
theorem dX6_restsBelow_27 : decode cX6_restsBelow 27 = .ok (.if_icmp .lt 49, 3) := by decide +kernel
theorem dX6_restsBelow_30 : decode cX6_restsBelow 30 = .ok (.aload_n 0, 1) := by decide +kernel
theorem dX6_restsBelow_31 : decode cX6_restsBelow 31 = .ok (.getfield 66, 3) := by decide +kernel
theorem dX6_restsBelow_34 : decode cX6_restsBelow 34 = .ok (.iload 5, 2) := by decide +kernel
theorem dX6_restsBelow_36 : decode cX6_restsBelow 36 = .ok (.iaload, 1) := by decide +kernel
theorem dX6_restsBelow_37 : decode cX6_restsBelow 37 = .ok (.istore 6, 2) := by decide +kernel
theorem dX6_restsBelow_39 : decode cX6_restsBelow 39 = .ok (.aload_n 0, 1) := by decide +kernel
theorem dX6_restsBelow_40 : decode cX6_restsBelow 40 = .ok (.iload 6, 2) := by decide +kernel
theorem dX6_restsBelow_42 : decode cX6_restsBelow 42 = .ok (.aload_n 0, 1) := by decide +kernel
theorem dX6_restsBelow_43 : decode cX6_restsBelow 43 = .ok (.iload 6, 2) := by decide +kernel
theorem dX6_restsBelow_45 : decode cX6_restsBelow 45 = .ok (.aload_n 0, 1) := by decide +kernel
theorem dX6_restsBelow_46 : decode cX6_restsBelow 46 = .ok (.iload 5, 2) := by decide +kernel
theorem dX6_restsBelow_48 : decode cX6_restsBelow 48 = .ok (.invokevirtual 230, 3) := by decide +kernel
theorem dX6_restsBelow_51 : decode cX6_restsBelow 51 = .ok (.iload_n 1, 1) := by decide +kernel
theorem dX6_restsBelow_52 : decode cX6_restsBelow 52 = .ok (.isub, 1) := by decide +kernel
theorem dX6_restsBelow_53 : decode cX6_restsBelow 53 = .ok (.i2l, 1) := by decide +kernel
theorem dX6_restsBelow_54 : decode cX6_restsBelow 54 = .ok (.lconst 1, 1) := by decide +kernel
theorem dX6_restsBelow_55 : decode cX6_restsBelow 55 = .ok (.invokevirtual 171, 3) := by decide +kernel
theorem dX6_restsBelow_58 : decode cX6_restsBelow 58 = .ok (.invokevirtual 175, 3) := by decide +kernel
theorem dX6_restsBelow_61 : decode cX6_restsBelow 61 = .ok (.i2l, 1) := by decide +kernel
theorem dX6_restsBelow_62 : decode cX6_restsBelow 62 = .ok (.lstore 7, 2) := by decide +kernel
theorem dX6_restsBelow_64 : decode cX6_restsBelow 64 = .ok (.lload_n 3, 1) := by decide +kernel
theorem dX6_restsBelow_65 : decode cX6_restsBelow 65 = .ok (.lload_n 3, 1) := by decide +kernel
theorem dX6_restsBelow_66 : decode cX6_restsBelow 66 = .ok (.lload 7, 2) := by decide +kernel
theorem dX6_restsBelow_68 : decode cX6_restsBelow 68 = .ok (.invokestatic 111, 3) := by decide +kernel
theorem dX6_restsBelow_71 : decode cX6_restsBelow 71 = .ok (.ldiv, 1) := by decide +kernel
theorem dX6_restsBelow_72 : decode cX6_restsBelow 72 = .ok (.lload 7, 2) := by decide +kernel
theorem dX6_restsBelow_74 : decode cX6_restsBelow 74 = .ok (.lmul, 1) := by decide +kernel
theorem dX6_restsBelow_75 : decode cX6_restsBelow 75 = .ok (.lstore_n 3, 1) := by decide +kernel
theorem dX6_restsBelow_76 : decode cX6_restsBelow 76 = .ok (.iinc 5 1, 3) := by decide +kernel
theorem dX6_restsBelow_79 : decode cX6_restsBelow 79 = .ok (.goto (-74), 3) := by decide +kernel
theorem dX6_restsBelow_82 : decode cX6_restsBelow 82 = .ok (.lconst 0, 1) := by decide +kernel
theorem dX6_restsBelow_83 : decode cX6_restsBelow 83 = .ok (.lstore 5, 2) := by decide +kernel
theorem dX6_restsBelow_85 : decode cX6_restsBelow 85 = .ok (.lconst 0, 1) := by decide +kernel
theorem dX6_restsBelow_86 : decode cX6_restsBelow 86 = .ok (.lstore 7, 2) := by decide +kernel
theorem dX6_restsBelow_88 : decode cX6_restsBelow 88 = .ok (.iconst 0, 1) := by decide +kernel
theorem dX6_restsBelow_89 : decode cX6_restsBelow 89 = .ok (.istore 9, 2) := by decide +kernel
theorem dX6_restsBelow_91 : decode cX6_restsBelow 91 = .ok (.iload 9, 2) := by decide +kernel
theorem dX6_restsBelow_93 : decode cX6_restsBelow 93 = .ok (.iconst 4, 1) := by decide +kernel
theorem dX6_restsBelow_94 : decode cX6_restsBelow 94 = .ok (.if_icmp .ge 153, 3) := by decide +kernel
theorem dX6_restsBelow_97 : decode cX6_restsBelow 97 = .ok (.aload_n 0, 1) := by decide +kernel
theorem dX6_restsBelow_98 : decode cX6_restsBelow 98 = .ok (.iload 9, 2) := by decide +kernel
theorem dX6_restsBelow_100 : decode cX6_restsBelow 100 = .ok (.invokevirtual 204, 3) := by decide +kernel
theorem dX6_restsBelow_103 : decode cX6_restsBelow 103 = .ok (.ifCond .eq 138, 3) := by decide +kernel
theorem dX6_restsBelow_106 : decode cX6_restsBelow 106 = .ok (.aload_n 0, 1) := by decide +kernel
theorem dX6_restsBelow_107 : decode cX6_restsBelow 107 = .ok (.iload 9, 2) := by decide +kernel
theorem dX6_restsBelow_109 : decode cX6_restsBelow 109 = .ok (.invokevirtual 230, 3) := by decide +kernel
theorem dX6_restsBelow_112 : decode cX6_restsBelow 112 = .ok (.iload_n 1, 1) := by decide +kernel
theorem dX6_restsBelow_113 : decode cX6_restsBelow 113 = .ok (.if_icmp .lt 128, 3) := by decide +kernel
theorem dX6_restsBelow_116 : decode cX6_restsBelow 116 = .ok (.aload_n 0, 1) := by decide +kernel
theorem dX6_restsBelow_117 : decode cX6_restsBelow 117 = .ok (.getfield 66, 3) := by decide +kernel
theorem dX6_restsBelow_120 : decode cX6_restsBelow 120 = .ok (.iload 9, 2) := by decide +kernel
theorem dX6_restsBelow_122 : decode cX6_restsBelow 122 = .ok (.iaload, 1) := by decide +kernel
theorem dX6_restsBelow_123 : decode cX6_restsBelow 123 = .ok (.istore 10, 2) := by decide +kernel
theorem dX6_restsBelow_125 : decode cX6_restsBelow 125 = .ok (.aload_n 0, 1) := by decide +kernel
theorem dX6_restsBelow_126 : decode cX6_restsBelow 126 = .ok (.iload 9, 2) := by decide +kernel
theorem dX6_restsBelow_128 : decode cX6_restsBelow 128 = .ok (.invokevirtual 230, 3) := by decide +kernel
theorem dX6_restsBelow_131 : decode cX6_restsBelow 131 = .ok (.iload_n 1, 1) := by decide +kernel
theorem dX6_restsBelow_132 : decode cX6_restsBelow 132 = .ok (.isub, 1) := by decide +kernel
theorem dX6_restsBelow_133 : decode cX6_restsBelow 133 = .ok (.istore 11, 2) := by decide +kernel
theorem dX6_restsBelow_135 : decode cX6_restsBelow 135 = .ok (.aload_n 0, 1) := by decide +kernel
theorem dX6_restsBelow_136 : decode cX6_restsBelow 136 = .ok (.iload 10, 2) := by decide +kernel
theorem dX6_restsBelow_138 : decode cX6_restsBelow 138 = .ok (.iload 11, 2) := by decide +kernel
theorem dX6_restsBelow_140 : decode cX6_restsBelow 140 = .ok (.i2l, 1) := by decide +kernel
theorem dX6_restsBelow_141 : decode cX6_restsBelow 141 = .ok (.lconst 1, 1) := by decide +kernel
theorem dX6_restsBelow_142 : decode cX6_restsBelow 142 = .ok (.invokevirtual 171, 3) := by decide +kernel
theorem dX6_restsBelow_145 : decode cX6_restsBelow 145 = .ok (.istore 12, 2) := by decide +kernel
theorem dX6_restsBelow_147 : decode cX6_restsBelow 147 = .ok (.lload_n 3, 1) := by decide +kernel
theorem dX6_restsBelow_148 : decode cX6_restsBelow 148 = .ok (.aload_n 0, 1) := by decide +kernel
theorem dX6_restsBelow_149 : decode cX6_restsBelow 149 = .ok (.iload 10, 2) := by decide +kernel
theorem dX6_restsBelow_151 : decode cX6_restsBelow 151 = .ok (.iload 12, 2) := by decide +kernel
theorem dX6_restsBelow_153 : decode cX6_restsBelow 153 = .ok (.invokevirtual 175, 3) := by decide +kernel
theorem dX6_restsBelow_156 : decode cX6_restsBelow 156 = .ok (.i2l, 1) := by decide +kernel
theorem dX6_restsBelow_157 : decode cX6_restsBelow 157 = .ok (.ldiv, 1) := by decide +kernel
theorem dX6_restsBelow_158 : decode cX6_restsBelow 158 = .ok (.aload_n 0, 1) := by decide +kernel
theorem dX6_restsBelow_159 : decode cX6_restsBelow 159 = .ok (.iload 10, 2) := by decide +kernel
theorem dX6_restsBelow_161 : decode cX6_restsBelow 161 = .ok (.iload 12, 2) := by decide +kernel
theorem dX6_restsBelow_163 : decode cX6_restsBelow 163 = .ok (.invokevirtual 178, 3) := by decide +kernel
theorem dX6_restsBelow_166 : decode cX6_restsBelow 166 = .ok (.i2l, 1) := by decide +kernel
theorem dX6_restsBelow_167 : decode cX6_restsBelow 167 = .ok (.lmul, 1) := by decide +kernel
theorem dX6_restsBelow_168 : decode cX6_restsBelow 168 = .ok (.lstore 13, 2) := by decide +kernel
theorem dX6_restsBelow_170 : decode cX6_restsBelow 170 = .ok (.aload_n 0, 1) := by decide +kernel
theorem dX6_restsBelow_171 : decode cX6_restsBelow 171 = .ok (.getfield 75, 3) := by decide +kernel
theorem dX6_restsBelow_174 : decode cX6_restsBelow 174 = .ok (.iload 9, 2) := by decide +kernel
theorem dX6_restsBelow_176 : decode cX6_restsBelow 176 = .ok (.iaload, 1) := by decide +kernel
theorem dX6_restsBelow_177 : decode cX6_restsBelow 177 = .ok (.aload_n 0, 1) := by decide +kernel
theorem dX6_restsBelow_178 : decode cX6_restsBelow 178 = .ok (.iload 10, 2) := by decide +kernel
theorem dX6_restsBelow_180 : decode cX6_restsBelow 180 = .ok (.invokevirtual 233, 3) := by decide +kernel
theorem dX6_restsBelow_183 : decode cX6_restsBelow 183 = .ok (.imul, 1) := by decide +kernel
theorem dX6_restsBelow_184 : decode cX6_restsBelow 184 = .ok (.istore 15, 2) := by decide +kernel
theorem dX6_restsBelow_186 : decode cX6_restsBelow 186 = .ok (.lload 5, 2) := by decide +kernel
theorem dX6_restsBelow_188 : decode cX6_restsBelow 188 = .ok (.iload 15, 2) := by decide +kernel
theorem dX6_restsBelow_190 : decode cX6_restsBelow 190 = .ok (.i2l, 1) := by decide +kernel
theorem dX6_restsBelow_191 : decode cX6_restsBelow 191 = .ok (.aload_n 0, 1) := by decide +kernel
theorem dX6_restsBelow_192 : decode cX6_restsBelow 192 = .ok (.getfield 39, 3) := by decide +kernel
theorem dX6_restsBelow_195 : decode cX6_restsBelow 195 = .ok (.iconst 5, 1) := by decide +kernel
theorem dX6_restsBelow_196 : decode cX6_restsBelow 196 = .ok (.iload 10, 2) := by decide +kernel
theorem dX6_restsBelow_198 : decode cX6_restsBelow 198 = .ok (.imul, 1) := by decide +kernel
theorem dX6_restsBelow_199 : decode cX6_restsBelow 199 = .ok (.iload 12, 2) := by decide +kernel
theorem dX6_restsBelow_201 : decode cX6_restsBelow 201 = .ok (.iadd, 1) := by decide +kernel
theorem dX6_restsBelow_202 : decode cX6_restsBelow 202 = .ok (.iaload, 1) := by decide +kernel
theorem dX6_restsBelow_203 : decode cX6_restsBelow 203 = .ok (.i2l, 1) := by decide +kernel
theorem dX6_restsBelow_204 : decode cX6_restsBelow 204 = .ok (.lload_n 3, 1) := by decide +kernel
theorem dX6_restsBelow_205 : decode cX6_restsBelow 205 = .ok (.lmul, 1) := by decide +kernel
theorem dX6_restsBelow_206 : decode cX6_restsBelow 206 = .ok (.iload 11, 2) := by decide +kernel
theorem dX6_restsBelow_208 : decode cX6_restsBelow 208 = .ok (.aload_n 0, 1) := by decide +kernel
theorem dX6_restsBelow_209 : decode cX6_restsBelow 209 = .ok (.getfield 36, 3) := by decide +kernel
theorem dX6_restsBelow_212 : decode cX6_restsBelow 212 = .ok (.iconst 5, 1) := by decide +kernel
theorem dX6_restsBelow_213 : decode cX6_restsBelow 213 = .ok (.iload 10, 2) := by decide +kernel
theorem dX6_restsBelow_215 : decode cX6_restsBelow 215 = .ok (.imul, 1) := by decide +kernel
theorem dX6_restsBelow_216 : decode cX6_restsBelow 216 = .ok (.iload 12, 2) := by decide +kernel
theorem dX6_restsBelow_218 : decode cX6_restsBelow 218 = .ok (.iadd, 1) := by decide +kernel
theorem dX6_restsBelow_219 : decode cX6_restsBelow 219 = .ok (.iaload, 1) := by decide +kernel
theorem dX6_restsBelow_220 : decode cX6_restsBelow 220 = .ok (.isub, 1) := by decide +kernel
theorem dX6_restsBelow_221 : decode cX6_restsBelow 221 = .ok (.i2l, 1) := by decide +kernel
theorem dX6_restsBelow_222 : decode cX6_restsBelow 222 = .ok (.lload 13, 2) := by decide +kernel
theorem dX6_restsBelow_224 : decode cX6_restsBelow 224 = .ok (.lmul, 1) := by decide +kernel
theorem dX6_restsBelow_225 : decode cX6_restsBelow 225 = .ok (.ladd, 1) := by decide +kernel
theorem dX6_restsBelow_226 : decode cX6_restsBelow 226 = .ok (.lmul, 1) := by decide +kernel
theorem dX6_restsBelow_227 : decode cX6_restsBelow 227 = .ok (.ladd, 1) := by decide +kernel
theorem dX6_restsBelow_228 : decode cX6_restsBelow 228 = .ok (.lstore 5, 2) := by decide +kernel
theorem dX6_restsBelow_230 : decode cX6_restsBelow 230 = .ok (.lload 7, 2) := by decide +kernel
theorem dX6_restsBelow_232 : decode cX6_restsBelow 232 = .ok (.iload 15, 2) := by decide +kernel
theorem dX6_restsBelow_234 : decode cX6_restsBelow 234 = .ok (.i2l, 1) := by decide +kernel
theorem dX6_restsBelow_235 : decode cX6_restsBelow 235 = .ok (.lload 13, 2) := by decide +kernel
theorem dX6_restsBelow_237 : decode cX6_restsBelow 237 = .ok (.lmul, 1) := by decide +kernel
theorem dX6_restsBelow_238 : decode cX6_restsBelow 238 = .ok (.ladd, 1) := by decide +kernel
theorem dX6_restsBelow_239 : decode cX6_restsBelow 239 = .ok (.lstore 7, 2) := by decide +kernel
theorem dX6_restsBelow_241 : decode cX6_restsBelow 241 = .ok (.iinc 9 1, 3) := by decide +kernel
theorem dX6_restsBelow_244 : decode cX6_restsBelow 244 = .ok (.goto (-153), 3) := by decide +kernel
theorem dX6_restsBelow_247 : decode cX6_restsBelow 247 = .ok (.aload_n 0, 1) := by decide +kernel
theorem dX6_restsBelow_248 : decode cX6_restsBelow 248 = .ok (.getfield 217, 3) := by decide +kernel
theorem dX6_restsBelow_251 : decode cX6_restsBelow 251 = .ok (.i2l, 1) := by decide +kernel
theorem dX6_restsBelow_252 : decode cX6_restsBelow 252 = .ok (.lload_n 3, 1) := by decide +kernel
theorem dX6_restsBelow_253 : decode cX6_restsBelow 253 = .ok (.lmul, 1) := by decide +kernel
theorem dX6_restsBelow_254 : decode cX6_restsBelow 254 = .ok (.lload 5, 2) := by decide +kernel
theorem dX6_restsBelow_256 : decode cX6_restsBelow 256 = .ok (.lsub, 1) := by decide +kernel
theorem dX6_restsBelow_257 : decode cX6_restsBelow 257 = .ok (.lstore 9, 2) := by decide +kernel
theorem dX6_restsBelow_259 : decode cX6_restsBelow 259 = .ok (.aload_n 0, 1) := by decide +kernel
theorem dX6_restsBelow_260 : decode cX6_restsBelow 260 = .ok (.iload_n 1, 1) := by decide +kernel
theorem dX6_restsBelow_261 : decode cX6_restsBelow 261 = .ok (.i2l, 1) := by decide +kernel
theorem dX6_restsBelow_262 : decode cX6_restsBelow 262 = .ok (.lload 7, 2) := by decide +kernel
theorem dX6_restsBelow_264 : decode cX6_restsBelow 264 = .ok (.lmul, 1) := by decide +kernel
theorem dX6_restsBelow_265 : decode cX6_restsBelow 265 = .ok (.lload 9, 2) := by decide +kernel
theorem dX6_restsBelow_267 : decode cX6_restsBelow 267 = .ok (.lsub, 1) := by decide +kernel
theorem dX6_restsBelow_268 : decode cX6_restsBelow 268 = .ok (.putfield 236, 3) := by decide +kernel
theorem dX6_restsBelow_271 : decode cX6_restsBelow 271 = .ok (.aload_n 0, 1) := by decide +kernel
theorem dX6_restsBelow_272 : decode cX6_restsBelow 272 = .ok (.lload 7, 2) := by decide +kernel
theorem dX6_restsBelow_274 : decode cX6_restsBelow 274 = .ok (.putfield 239, 3) := by decide +kernel
theorem dX6_restsBelow_277 : decode cX6_restsBelow 277 = .ok (.iload_n 2, 1) := by decide +kernel
theorem dX6_restsBelow_278 : decode cX6_restsBelow 278 = .ok (.iload_n 1, 1) := by decide +kernel
theorem dX6_restsBelow_279 : decode cX6_restsBelow 279 = .ok (.if_icmp .eq 16, 3) := by decide +kernel
theorem dX6_restsBelow_282 : decode cX6_restsBelow 282 = .ok (.lload 9, 2) := by decide +kernel
theorem dX6_restsBelow_284 : decode cX6_restsBelow 284 = .ok (.iload_n 1, 1) := by decide +kernel
theorem dX6_restsBelow_285 : decode cX6_restsBelow 285 = .ok (.iload_n 2, 1) := by decide +kernel
theorem dX6_restsBelow_286 : decode cX6_restsBelow 286 = .ok (.isub, 1) := by decide +kernel
theorem dX6_restsBelow_287 : decode cX6_restsBelow 287 = .ok (.i2l, 1) := by decide +kernel
theorem dX6_restsBelow_288 : decode cX6_restsBelow 288 = .ok (.lload 7, 2) := by decide +kernel
theorem dX6_restsBelow_290 : decode cX6_restsBelow 290 = .ok (.lmul, 1) := by decide +kernel
theorem dX6_restsBelow_291 : decode cX6_restsBelow 291 = .ok (.lcmp, 1) := by decide +kernel
theorem dX6_restsBelow_292 : decode cX6_restsBelow 292 = .ok (.ifCond .gt 7, 3) := by decide +kernel
theorem dX6_restsBelow_295 : decode cX6_restsBelow 295 = .ok (.iconst 1, 1) := by decide +kernel
theorem dX6_restsBelow_296 : decode cX6_restsBelow 296 = .ok (.goto 4, 3) := by decide +kernel
theorem dX6_restsBelow_299 : decode cX6_restsBelow 299 = .ok (.iconst 0, 1) := by decide +kernel
theorem dX6_restsBelow_300 : decode cX6_restsBelow 300 = .ok (.ireturn, 1) := by decide +kernel
theorem dX6_layRest_0 : decode cX6_layRest 0 = .ok (.aload_n 0, 1) := by decide +kernel
theorem dX6_layRest_1 : decode cX6_layRest 1 = .ok (.iconst 1, 1) := by decide +kernel
theorem dX6_layRest_2 : decode cX6_layRest 2 = .ok (.iconst 0, 1) := by decide +kernel
theorem dX6_layRest_3 : decode cX6_layRest 3 = .ok (.invokevirtual 242, 3) := by decide +kernel
theorem dX6_layRest_6 : decode cX6_layRest 6 = .ok (.istore_n 1, 1) := by decide +kernel
theorem dX6_layRest_7 : decode cX6_layRest 7 = .ok (.aload_n 0, 1) := by decide +kernel
theorem dX6_layRest_8 : decode cX6_layRest 8 = .ok (.getfield 226, 3) := by decide +kernel
theorem dX6_layRest_11 : decode cX6_layRest 11 = .ok (.istore_n 2, 1) := by decide +kernel
theorem dX6_layRest_12 : decode cX6_layRest 12 = .ok (.aload_n 0, 1) := by decide +kernel
theorem dX6_layRest_13 : decode cX6_layRest 13 = .ok (.iconst 0, 1) := by decide +kernel
theorem dX6_layRest_14 : decode cX6_layRest 14 = .ok (.iconst 1, 1) := by decide +kernel
theorem dX6_layRest_15 : decode cX6_layRest 15 = .ok (.invokevirtual 242, 3) := by decide +kernel
theorem dX6_layRest_18 : decode cX6_layRest 18 = .ok (.istore_n 3, 1) := by decide +kernel
theorem dX6_layRest_19 : decode cX6_layRest 19 = .ok (.aload_n 0, 1) := by decide +kernel
theorem dX6_layRest_20 : decode cX6_layRest 20 = .ok (.getfield 226, 3) := by decide +kernel
theorem dX6_layRest_23 : decode cX6_layRest 23 = .ok (.istore 4, 2) := by decide +kernel
theorem dX6_layRest_25 : decode cX6_layRest 25 = .ok (.aload_n 0, 1) := by decide +kernel
theorem dX6_layRest_26 : decode cX6_layRest 26 = .ok (.aload_n 0, 1) := by decide +kernel
theorem dX6_layRest_27 : decode cX6_layRest 27 = .ok (.iconst 1, 1) := by decide +kernel
theorem dX6_layRest_28 : decode cX6_layRest 28 = .ok (.iconst 1, 1) := by decide +kernel
theorem dX6_layRest_29 : decode cX6_layRest 29 = .ok (.invokevirtual 242, 3) := by decide +kernel
theorem dX6_layRest_32 : decode cX6_layRest 32 = .ok (.i2l, 1) := by decide +kernel
theorem dX6_layRest_33 : decode cX6_layRest 33 = .ok (.putfield 236, 3) := by decide +kernel
theorem dX6_layRest_36 : decode cX6_layRest 36 = .ok (.aload_n 0, 1) := by decide +kernel
theorem dX6_layRest_37 : decode cX6_layRest 37 = .ok (.lconst 1, 1) := by decide +kernel
theorem dX6_layRest_38 : decode cX6_layRest 38 = .ok (.putfield 239, 3) := by decide +kernel
theorem dX6_layRest_41 : decode cX6_layRest 41 = .ok (.aload_n 0, 1) := by decide +kernel
theorem dX6_layRest_42 : decode cX6_layRest 42 = .ok (.getfield 217, 3) := by decide +kernel
theorem dX6_layRest_45 : decode cX6_layRest 45 = .ok (.ifCond .le 45, 3) := by decide +kernel
theorem dX6_layRest_48 : decode cX6_layRest 48 = .ok (.iload 4, 2) := by decide +kernel
theorem dX6_layRest_50 : decode cX6_layRest 50 = .ok (.ifCond .eq 40, 3) := by decide +kernel
theorem dX6_layRest_53 : decode cX6_layRest 53 = .ok (.iload_n 3, 1) := by decide +kernel
theorem dX6_layRest_54 : decode cX6_layRest 54 = .ok (.istore 5, 2) := by decide +kernel
theorem dX6_layRest_56 : decode cX6_layRest 56 = .ok (.aload_n 0, 1) := by decide +kernel
theorem dX6_layRest_57 : decode cX6_layRest 57 = .ok (.iload 5, 2) := by decide +kernel
theorem dX6_layRest_59 : decode cX6_layRest 59 = .ok (.invokevirtual 246, 3) := by decide +kernel
theorem dX6_layRest_62 : decode cX6_layRest 62 = .ok (.istore 6, 2) := by decide +kernel
theorem dX6_layRest_64 : decode cX6_layRest 64 = .ok (.aload_n 0, 1) := by decide +kernel
theorem dX6_layRest_65 : decode cX6_layRest 65 = .ok (.iload 5, 2) := by decide +kernel
theorem dX6_layRest_67 : decode cX6_layRest 67 = .ok (.iload 6, 2) := by decide +kernel
theorem dX6_layRest_69 : decode cX6_layRest 69 = .ok (.invokevirtual 249, 3) := by decide +kernel
theorem dX6_layRest_72 : decode cX6_layRest 72 = .ok (.ifCond .ne 18, 3) := by decide +kernel
theorem dX6_layRest_75 : decode cX6_layRest 75 = .ok (.iload 6, 2) := by decide +kernel
theorem dX6_layRest_77 : decode cX6_layRest 77 = .ok (.istore 5, 2) := by decide +kernel
theorem dX6_layRest_79 : decode cX6_layRest 79 = .ok (.aload_n 0, 1) := by decide +kernel
theorem dX6_layRest_80 : decode cX6_layRest 80 = .ok (.iload 5, 2) := by decide +kernel
theorem dX6_layRest_82 : decode cX6_layRest 82 = .ok (.invokevirtual 246, 3) := by decide +kernel
theorem dX6_layRest_85 : decode cX6_layRest 85 = .ok (.istore 6, 2) := by decide +kernel
theorem dX6_layRest_87 : decode cX6_layRest 87 = .ok (.goto (-23), 3) := by decide +kernel
theorem dX6_layRest_90 : decode cX6_layRest 90 = .ok (.iload_n 2, 1) := by decide +kernel
theorem dX6_layRest_91 : decode cX6_layRest 91 = .ok (.ifCond .eq 29, 3) := by decide +kernel
theorem dX6_layRest_94 : decode cX6_layRest 94 = .ok (.aload_n 0, 1) := by decide +kernel
theorem dX6_layRest_95 : decode cX6_layRest 95 = .ok (.getfield 236, 3) := by decide +kernel
theorem dX6_layRest_98 : decode cX6_layRest 98 = .ok (.iload_n 1, 1) := by decide +kernel
theorem dX6_layRest_99 : decode cX6_layRest 99 = .ok (.i2l, 1) := by decide +kernel
theorem dX6_layRest_100 : decode cX6_layRest 100 = .ok (.aload_n 0, 1) := by decide +kernel
theorem dX6_layRest_101 : decode cX6_layRest 101 = .ok (.getfield 239, 3) := by decide +kernel
theorem dX6_layRest_104 : decode cX6_layRest 104 = .ok (.lmul, 1) := by decide +kernel
theorem dX6_layRest_105 : decode cX6_layRest 105 = .ok (.lcmp, 1) := by decide +kernel
theorem dX6_layRest_106 : decode cX6_layRest 106 = .ok (.ifCond .ge 14, 3) := by decide +kernel
theorem dX6_layRest_109 : decode cX6_layRest 109 = .ok (.aload_n 0, 1) := by decide +kernel
theorem dX6_layRest_110 : decode cX6_layRest 110 = .ok (.iload_n 1, 1) := by decide +kernel
theorem dX6_layRest_111 : decode cX6_layRest 111 = .ok (.i2l, 1) := by decide +kernel
theorem dX6_layRest_112 : decode cX6_layRest 112 = .ok (.putfield 236, 3) := by decide +kernel
theorem dX6_layRest_115 : decode cX6_layRest 115 = .ok (.aload_n 0, 1) := by decide +kernel
theorem dX6_layRest_116 : decode cX6_layRest 116 = .ok (.lconst 1, 1) := by decide +kernel
theorem dX6_layRest_117 : decode cX6_layRest 117 = .ok (.putfield 239, 3) := by decide +kernel
theorem dX6_layRest_120 : decode cX6_layRest 120 = .ok (.aload_n 0, 1) := by decide +kernel
theorem dX6_layRest_121 : decode cX6_layRest 121 = .ok (.getfield 236, 3) := by decide +kernel
theorem dX6_layRest_124 : decode cX6_layRest 124 = .ok (.lconst 0, 1) := by decide +kernel
theorem dX6_layRest_125 : decode cX6_layRest 125 = .ok (.lcmp, 1) := by decide +kernel
theorem dX6_layRest_126 : decode cX6_layRest 126 = .ok (.ifCond .ge 13, 3) := by decide +kernel
theorem dX6_layRest_129 : decode cX6_layRest 129 = .ok (.aload_n 0, 1) := by decide +kernel
theorem dX6_layRest_130 : decode cX6_layRest 130 = .ok (.lconst 0, 1) := by decide +kernel
theorem dX6_layRest_131 : decode cX6_layRest 131 = .ok (.putfield 236, 3) := by decide +kernel
theorem dX6_layRest_134 : decode cX6_layRest 134 = .ok (.aload_n 0, 1) := by decide +kernel
theorem dX6_layRest_135 : decode cX6_layRest 135 = .ok (.lconst 1, 1) := by decide +kernel
theorem dX6_layRest_136 : decode cX6_layRest 136 = .ok (.putfield 239, 3) := by decide +kernel
theorem dX6_layRest_139 : decode cX6_layRest 139 = .ok (.aload_n 0, 1) := by decide +kernel
theorem dX6_layRest_140 : decode cX6_layRest 140 = .ok (.getfield 236, 3) := by decide +kernel
theorem dX6_layRest_143 : decode cX6_layRest 143 = .ok (.aload_n 0, 1) := by decide +kernel
theorem dX6_layRest_144 : decode cX6_layRest 144 = .ok (.getfield 239, 3) := by decide +kernel
theorem dX6_layRest_147 : decode cX6_layRest 147 = .ok (.invokestatic 111, 3) := by decide +kernel
theorem dX6_layRest_150 : decode cX6_layRest 150 = .ok (.lstore 5, 2) := by decide +kernel
theorem dX6_layRest_152 : decode cX6_layRest 152 = .ok (.aload_n 0, 1) := by decide +kernel
theorem dX6_layRest_153 : decode cX6_layRest 153 = .ok (.dup, 1) := by decide +kernel
theorem dX6_layRest_154 : decode cX6_layRest 154 = .ok (.getfield 236, 3) := by decide +kernel
theorem dX6_layRest_157 : decode cX6_layRest 157 = .ok (.lload 5, 2) := by decide +kernel
theorem dX6_layRest_159 : decode cX6_layRest 159 = .ok (.ldiv, 1) := by decide +kernel
theorem dX6_layRest_160 : decode cX6_layRest 160 = .ok (.putfield 236, 3) := by decide +kernel
theorem dX6_layRest_163 : decode cX6_layRest 163 = .ok (.aload_n 0, 1) := by decide +kernel
theorem dX6_layRest_164 : decode cX6_layRest 164 = .ok (.dup, 1) := by decide +kernel
theorem dX6_layRest_165 : decode cX6_layRest 165 = .ok (.getfield 239, 3) := by decide +kernel
theorem dX6_layRest_168 : decode cX6_layRest 168 = .ok (.lload 5, 2) := by decide +kernel
theorem dX6_layRest_170 : decode cX6_layRest 170 = .ok (.ldiv, 1) := by decide +kernel
theorem dX6_layRest_171 : decode cX6_layRest 171 = .ok (.putfield 239, 3) := by decide +kernel
theorem dX6_layRest_174 : decode cX6_layRest 174 = .ok (.aload_n 0, 1) := by decide +kernel
theorem dX6_layRest_175 : decode cX6_layRest 175 = .ok (.iload_n 2, 1) := by decide +kernel
theorem dX6_layRest_176 : decode cX6_layRest 176 = .ok (.ifCond .eq 22, 3) := by decide +kernel
theorem dX6_layRest_179 : decode cX6_layRest 179 = .ok (.aload_n 0, 1) := by decide +kernel
theorem dX6_layRest_180 : decode cX6_layRest 180 = .ok (.getfield 236, 3) := by decide +kernel
theorem dX6_layRest_183 : decode cX6_layRest 183 = .ok (.iload_n 1, 1) := by decide +kernel
theorem dX6_layRest_184 : decode cX6_layRest 184 = .ok (.i2l, 1) := by decide +kernel
theorem dX6_layRest_185 : decode cX6_layRest 185 = .ok (.aload_n 0, 1) := by decide +kernel
theorem dX6_layRest_186 : decode cX6_layRest 186 = .ok (.getfield 239, 3) := by decide +kernel
theorem dX6_layRest_189 : decode cX6_layRest 189 = .ok (.lmul, 1) := by decide +kernel
theorem dX6_layRest_190 : decode cX6_layRest 190 = .ok (.lcmp, 1) := by decide +kernel
theorem dX6_layRest_191 : decode cX6_layRest 191 = .ok (.ifCond .ne 7, 3) := by decide +kernel
theorem dX6_layRest_194 : decode cX6_layRest 194 = .ok (.iconst 1, 1) := by decide +kernel
theorem dX6_layRest_195 : decode cX6_layRest 195 = .ok (.goto 4, 3) := by decide +kernel
theorem dX6_layRest_198 : decode cX6_layRest 198 = .ok (.iconst 0, 1) := by decide +kernel
theorem dX6_layRest_199 : decode cX6_layRest 199 = .ok (.putfield 252, 3) := by decide +kernel
theorem dX6_layRest_202 : decode cX6_layRest 202 = .ok (.return_, 1) := by decide +kernel
theorem dX6_rest_0 : decode cX6_rest 0 = .ok (.aload_n 0, 1) := by decide +kernel
theorem dX6_rest_1 : decode cX6_rest 1 = .ok (.iconst 1, 1) := by decide +kernel
theorem dX6_rest_2 : decode cX6_rest 2 = .ok (.iconst 1, 1) := by decide +kernel
theorem dX6_rest_3 : decode cX6_rest 3 = .ok (.invokevirtual 242, 3) := by decide +kernel
theorem dX6_rest_6 : decode cX6_rest 6 = .ok (.pop, 1) := by decide +kernel
theorem dX6_rest_7 : decode cX6_rest 7 = .ok (.aload_n 0, 1) := by decide +kernel
theorem dX6_rest_8 : decode cX6_rest 8 = .ok (.getfield 226, 3) := by decide +kernel
theorem dX6_rest_11 : decode cX6_rest 11 = .ok (.ifCond .ne 6, 3) := by decide +kernel
theorem dX6_rest_14 : decode cX6_rest 14 = .ok (.bipush (-4), 2) := by decide +kernel
theorem dX6_rest_16 : decode cX6_rest 16 = .ok (.ireturn, 1) := by decide +kernel
theorem dX6_rest_17 : decode cX6_rest 17 = .ok (.aload_n 0, 1) := by decide +kernel
theorem dX6_rest_18 : decode cX6_rest 18 = .ok (.invokevirtual 255, 3) := by decide +kernel
theorem dX6_rest_21 : decode cX6_rest 21 = .ok (.aload_n 0, 1) := by decide +kernel
theorem dX6_rest_22 : decode cX6_rest 22 = .ok (.aload_n 0, 1) := by decide +kernel
theorem dX6_rest_23 : decode cX6_rest 23 = .ok (.getfield 236, 3) := by decide +kernel
theorem dX6_rest_26 : decode cX6_rest 26 = .ok (.aload_n 0, 1) := by decide +kernel
theorem dX6_rest_27 : decode cX6_rest 27 = .ok (.getfield 239, 3) := by decide +kernel
theorem dX6_rest_30 : decode cX6_rest 30 = .ok (.aload_n 0, 1) := by decide +kernel
theorem dX6_rest_31 : decode cX6_rest 31 = .ok (.getfield 252, 3) := by decide +kernel
theorem dX6_rest_34 : decode cX6_rest 34 = .ok (.ifCond .eq 7, 3) := by decide +kernel
theorem dX6_rest_37 : decode cX6_rest 37 = .ok (.iconst 1, 1) := by decide +kernel
theorem dX6_rest_38 : decode cX6_rest 38 = .ok (.goto 17, 3) := by decide +kernel
theorem dX6_rest_41 : decode cX6_rest 41 = .ok (.aload_n 0, 1) := by decide +kernel
theorem dX6_rest_42 : decode cX6_rest 42 = .ok (.getfield 236, 3) := by decide +kernel
theorem dX6_rest_45 : decode cX6_rest 45 = .ok (.lconst 0, 1) := by decide +kernel
theorem dX6_rest_46 : decode cX6_rest 46 = .ok (.lcmp, 1) := by decide +kernel
theorem dX6_rest_47 : decode cX6_rest 47 = .ok (.ifCond .ne 7, 3) := by decide +kernel
theorem dX6_rest_50 : decode cX6_rest 50 = .ok (.iconst 2, 1) := by decide +kernel
theorem dX6_rest_51 : decode cX6_rest 51 = .ok (.goto 4, 3) := by decide +kernel
theorem dX6_rest_54 : decode cX6_rest 54 = .ok (.iconst 0, 1) := by decide +kernel
theorem dX6_rest_55 : decode cX6_rest 55 = .ok (.invokevirtual 191, 3) := by decide +kernel
theorem dX6_rest_58 : decode cX6_rest 58 = .ok (.ireturn, 1) := by decide +kernel
theorem dX6_layPress_0 : decode cX6_layPress 0 = .ok (.aload_n 0, 1) := by decide +kernel
theorem dX6_layPress_1 : decode cX6_layPress 1 = .ok (.getfield 66, 3) := by decide +kernel
theorem dX6_layPress_4 : decode cX6_layPress 4 = .ok (.iload_n 1, 1) := by decide +kernel
theorem dX6_layPress_5 : decode cX6_layPress 5 = .ok (.iaload, 1) := by decide +kernel
theorem dX6_layPress_6 : decode cX6_layPress 6 = .ok (.istore_n 2, 1) := by decide +kernel
theorem dX6_layPress_7 : decode cX6_layPress 7 = .ok (.aload_n 0, 1) := by decide +kernel
theorem dX6_layPress_8 : decode cX6_layPress 8 = .ok (.aload_n 0, 1) := by decide +kernel
theorem dX6_layPress_9 : decode cX6_layPress 9 = .ok (.iload_n 1, 1) := by decide +kernel
theorem dX6_layPress_10 : decode cX6_layPress 10 = .ok (.invokevirtual 230, 3) := by decide +kernel
theorem dX6_layPress_13 : decode cX6_layPress 13 = .ok (.i2l, 1) := by decide +kernel
theorem dX6_layPress_14 : decode cX6_layPress 14 = .ok (.aload_n 0, 1) := by decide +kernel
theorem dX6_layPress_15 : decode cX6_layPress 15 = .ok (.getfield 239, 3) := by decide +kernel
theorem dX6_layPress_18 : decode cX6_layPress 18 = .ok (.lmul, 1) := by decide +kernel
theorem dX6_layPress_19 : decode cX6_layPress 19 = .ok (.aload_n 0, 1) := by decide +kernel
theorem dX6_layPress_20 : decode cX6_layPress 20 = .ok (.getfield 236, 3) := by decide +kernel
theorem dX6_layPress_23 : decode cX6_layPress 23 = .ok (.lsub, 1) := by decide +kernel
theorem dX6_layPress_24 : decode cX6_layPress 24 = .ok (.putfield 258, 3) := by decide +kernel
theorem dX6_layPress_27 : decode cX6_layPress 27 = .ok (.aload_n 0, 1) := by decide +kernel
theorem dX6_layPress_28 : decode cX6_layPress 28 = .ok (.aload_n 0, 1) := by decide +kernel
theorem dX6_layPress_29 : decode cX6_layPress 29 = .ok (.getfield 258, 3) := by decide +kernel
theorem dX6_layPress_32 : decode cX6_layPress 32 = .ok (.lconst 0, 1) := by decide +kernel
theorem dX6_layPress_33 : decode cX6_layPress 33 = .ok (.lcmp, 1) := by decide +kernel
theorem dX6_layPress_34 : decode cX6_layPress 34 = .ok (.ifCond .le 10, 3) := by decide +kernel
theorem dX6_layPress_37 : decode cX6_layPress 37 = .ok (.aload_n 0, 1) := by decide +kernel
theorem dX6_layPress_38 : decode cX6_layPress 38 = .ok (.getfield 258, 3) := by decide +kernel
theorem dX6_layPress_41 : decode cX6_layPress 41 = .ok (.goto 4, 3) := by decide +kernel
theorem dX6_layPress_44 : decode cX6_layPress 44 = .ok (.lconst 0, 1) := by decide +kernel
theorem dX6_layPress_45 : decode cX6_layPress 45 = .ok (.putfield 258, 3) := by decide +kernel
theorem dX6_layPress_48 : decode cX6_layPress 48 = .ok (.aload_n 0, 1) := by decide +kernel
theorem dX6_layPress_49 : decode cX6_layPress 49 = .ok (.iload_n 2, 1) := by decide +kernel
theorem dX6_layPress_50 : decode cX6_layPress 50 = .ok (.aload_n 0, 1) := by decide +kernel
theorem dX6_layPress_51 : decode cX6_layPress 51 = .ok (.getfield 258, 3) := by decide +kernel
theorem dX6_layPress_54 : decode cX6_layPress 54 = .ok (.aload_n 0, 1) := by decide +kernel
theorem dX6_layPress_55 : decode cX6_layPress 55 = .ok (.getfield 239, 3) := by decide +kernel
theorem dX6_layPress_58 : decode cX6_layPress 58 = .ok (.invokevirtual 187, 3) := by decide +kernel
theorem dX6_layPress_61 : decode cX6_layPress 61 = .ok (.aload_n 0, 1) := by decide +kernel
theorem dX6_layPress_62 : decode cX6_layPress 62 = .ok (.aload_n 0, 1) := by decide +kernel
theorem dX6_layPress_63 : decode cX6_layPress 63 = .ok (.getfield 181, 3) := by decide +kernel
theorem dX6_layPress_66 : decode cX6_layPress 66 = .ok (.aload_n 0, 1) := by decide +kernel
theorem dX6_layPress_67 : decode cX6_layPress 67 = .ok (.iload_n 2, 1) := by decide +kernel
theorem dX6_layPress_68 : decode cX6_layPress 68 = .ok (.invokevirtual 233, 3) := by decide +kernel
theorem dX6_layPress_71 : decode cX6_layPress 71 = .ok (.i2l, 1) := by decide +kernel
theorem dX6_layPress_72 : decode cX6_layPress 72 = .ok (.lmul, 1) := by decide +kernel
theorem dX6_layPress_73 : decode cX6_layPress 73 = .ok (.putfield 261, 3) := by decide +kernel
theorem dX6_layPress_76 : decode cX6_layPress 76 = .ok (.aload_n 0, 1) := by decide +kernel
theorem dX6_layPress_77 : decode cX6_layPress 77 = .ok (.aload_n 0, 1) := by decide +kernel
theorem dX6_layPress_78 : decode cX6_layPress 78 = .ok (.getfield 184, 3) := by decide +kernel
theorem dX6_layPress_81 : decode cX6_layPress 81 = .ok (.putfield 264, 3) := by decide +kernel
theorem dX6_layPress_84 : decode cX6_layPress 84 = .ok (.return_, 1) := by decide +kernel
theorem dX6_isOpen_0 : decode cX6_isOpen 0 = .ok (.aload_n 0, 1) := by decide +kernel
theorem dX6_isOpen_1 : decode cX6_isOpen 1 = .ok (.getfield 261, 3) := by decide +kernel
theorem dX6_isOpen_4 : decode cX6_isOpen 4 = .ok (.aload_n 0, 1) := by decide +kernel
theorem dX6_isOpen_5 : decode cX6_isOpen 5 = .ok (.getfield 220, 3) := by decide +kernel
theorem dX6_isOpen_8 : decode cX6_isOpen 8 = .ok (.i2l, 1) := by decide +kernel
theorem dX6_isOpen_9 : decode cX6_isOpen 9 = .ok (.aload_n 0, 1) := by decide +kernel
theorem dX6_isOpen_10 : decode cX6_isOpen 10 = .ok (.getfield 264, 3) := by decide +kernel
theorem dX6_isOpen_13 : decode cX6_isOpen 13 = .ok (.lmul, 1) := by decide +kernel
theorem dX6_isOpen_14 : decode cX6_isOpen 14 = .ok (.lcmp, 1) := by decide +kernel
theorem dX6_isOpen_15 : decode cX6_isOpen 15 = .ok (.ifCond .ge 7, 3) := by decide +kernel
theorem dX6_isOpen_18 : decode cX6_isOpen 18 = .ok (.iconst 1, 1) := by decide +kernel
theorem dX6_isOpen_19 : decode cX6_isOpen 19 = .ok (.goto 4, 3) := by decide +kernel
theorem dX6_isOpen_22 : decode cX6_isOpen 22 = .ok (.iconst 0, 1) := by decide +kernel
theorem dX6_isOpen_23 : decode cX6_isOpen 23 = .ok (.ireturn, 1) := by decide +kernel
theorem dX6_press_0 : decode cX6_press 0 = .ok (.aload_n 0, 1) := by decide +kernel
theorem dX6_press_1 : decode cX6_press 1 = .ok (.iconst 1, 1) := by decide +kernel
theorem dX6_press_2 : decode cX6_press 2 = .ok (.iload_n 1, 1) := by decide +kernel
theorem dX6_press_3 : decode cX6_press 3 = .ok (.invokevirtual 267, 3) := by decide +kernel
theorem dX6_press_6 : decode cX6_press 6 = .ok (.istore_n 2, 1) := by decide +kernel
theorem dX6_press_7 : decode cX6_press 7 = .ok (.iload_n 2, 1) := by decide +kernel
theorem dX6_press_8 : decode cX6_press 8 = .ok (.ifCond .ge 5, 3) := by decide +kernel
theorem dX6_press_11 : decode cX6_press 11 = .ok (.iload_n 2, 1) := by decide +kernel
theorem dX6_press_12 : decode cX6_press 12 = .ok (.ireturn, 1) := by decide +kernel
theorem dX6_press_13 : decode cX6_press 13 = .ok (.aload_n 0, 1) := by decide +kernel
theorem dX6_press_14 : decode cX6_press 14 = .ok (.invokevirtual 255, 3) := by decide +kernel
theorem dX6_press_17 : decode cX6_press 17 = .ok (.aload_n 0, 1) := by decide +kernel
theorem dX6_press_18 : decode cX6_press 18 = .ok (.iload_n 1, 1) := by decide +kernel
theorem dX6_press_19 : decode cX6_press 19 = .ok (.invokevirtual 270, 3) := by decide +kernel
theorem dX6_press_22 : decode cX6_press 22 = .ok (.aload_n 0, 1) := by decide +kernel
theorem dX6_press_23 : decode cX6_press 23 = .ok (.aload_n 0, 1) := by decide +kernel
theorem dX6_press_24 : decode cX6_press 24 = .ok (.getfield 261, 3) := by decide +kernel
theorem dX6_press_27 : decode cX6_press 27 = .ok (.aload_n 0, 1) := by decide +kernel
theorem dX6_press_28 : decode cX6_press 28 = .ok (.getfield 264, 3) := by decide +kernel
theorem dX6_press_31 : decode cX6_press 31 = .ok (.aload_n 0, 1) := by decide +kernel
theorem dX6_press_32 : decode cX6_press 32 = .ok (.invokevirtual 274, 3) := by decide +kernel
theorem dX6_press_35 : decode cX6_press 35 = .ok (.ifCond .eq 7, 3) := by decide +kernel
theorem dX6_press_38 : decode cX6_press 38 = .ok (.iconst 1, 1) := by decide +kernel
theorem dX6_press_39 : decode cX6_press 39 = .ok (.goto 4, 3) := by decide +kernel
theorem dX6_press_42 : decode cX6_press 42 = .ok (.iconst 0, 1) := by decide +kernel
theorem dX6_press_43 : decode cX6_press 43 = .ok (.invokevirtual 191, 3) := by decide +kernel
theorem dX6_press_46 : decode cX6_press 46 = .ok (.ireturn, 1) := by decide +kernel
theorem dX6_openNow_0 : decode cX6_openNow 0 = .ok (.iconst 0, 1) := by decide +kernel
theorem dX6_openNow_1 : decode cX6_openNow 1 = .ok (.istore_n 1, 1) := by decide +kernel
theorem dX6_openNow_2 : decode cX6_openNow 2 = .ok (.aload_n 0, 1) := by decide +kernel
theorem dX6_openNow_3 : decode cX6_openNow 3 = .ok (.iconst 0, 1) := by decide +kernel
theorem dX6_openNow_4 : decode cX6_openNow 4 = .ok (.iconst 1, 1) := by decide +kernel
theorem dX6_openNow_5 : decode cX6_openNow 5 = .ok (.invokevirtual 242, 3) := by decide +kernel
theorem dX6_openNow_8 : decode cX6_openNow 8 = .ok (.pop, 1) := by decide +kernel
theorem dX6_openNow_9 : decode cX6_openNow 9 = .ok (.aload_n 0, 1) := by decide +kernel
theorem dX6_openNow_10 : decode cX6_openNow 10 = .ok (.getfield 226, 3) := by decide +kernel
theorem dX6_openNow_13 : decode cX6_openNow 13 = .ok (.ifCond .eq 7, 3) := by decide +kernel
theorem dX6_openNow_16 : decode cX6_openNow 16 = .ok (.aload_n 0, 1) := by decide +kernel
theorem dX6_openNow_17 : decode cX6_openNow 17 = .ok (.invokevirtual 255, 3) := by decide +kernel
theorem dX6_openNow_20 : decode cX6_openNow 20 = .ok (.iconst 0, 1) := by decide +kernel
theorem dX6_openNow_21 : decode cX6_openNow 21 = .ok (.istore_n 2, 1) := by decide +kernel
theorem dX6_openNow_22 : decode cX6_openNow 22 = .ok (.iload_n 2, 1) := by decide +kernel
theorem dX6_openNow_23 : decode cX6_openNow 23 = .ok (.iconst 4, 1) := by decide +kernel
theorem dX6_openNow_24 : decode cX6_openNow 24 = .ok (.if_icmp .ge 39, 3) := by decide +kernel
theorem dX6_openNow_27 : decode cX6_openNow 27 = .ok (.aload_n 0, 1) := by decide +kernel
theorem dX6_openNow_28 : decode cX6_openNow 28 = .ok (.iload_n 2, 1) := by decide +kernel
theorem dX6_openNow_29 : decode cX6_openNow 29 = .ok (.invokevirtual 204, 3) := by decide +kernel
theorem dX6_openNow_32 : decode cX6_openNow 32 = .ok (.ifCond .eq 25, 3) := by decide +kernel
theorem dX6_openNow_35 : decode cX6_openNow 35 = .ok (.aload_n 0, 1) := by decide +kernel
theorem dX6_openNow_36 : decode cX6_openNow 36 = .ok (.iload_n 2, 1) := by decide +kernel
theorem dX6_openNow_37 : decode cX6_openNow 37 = .ok (.invokevirtual 270, 3) := by decide +kernel
theorem dX6_openNow_40 : decode cX6_openNow 40 = .ok (.iload_n 1, 1) := by decide +kernel
theorem dX6_openNow_41 : decode cX6_openNow 41 = .ok (.aload_n 0, 1) := by decide +kernel
theorem dX6_openNow_42 : decode cX6_openNow 42 = .ok (.invokevirtual 274, 3) := by decide +kernel
theorem dX6_openNow_45 : decode cX6_openNow 45 = .ok (.ifCond .eq 9, 3) := by decide +kernel
theorem dX6_openNow_48 : decode cX6_openNow 48 = .ok (.iconst 1, 1) := by decide +kernel
theorem dX6_openNow_49 : decode cX6_openNow 49 = .ok (.iload_n 2, 1) := by decide +kernel
theorem dX6_openNow_50 : decode cX6_openNow 50 = .ok (.ishl, 1) := by decide +kernel
theorem dX6_openNow_51 : decode cX6_openNow 51 = .ok (.goto 4, 3) := by decide +kernel
theorem dX6_openNow_54 : decode cX6_openNow 54 = .ok (.iconst 0, 1) := by decide +kernel
theorem dX6_openNow_55 : decode cX6_openNow 55 = .ok (.ior, 1) := by decide +kernel
theorem dX6_openNow_56 : decode cX6_openNow 56 = .ok (.istore_n 1, 1) := by decide +kernel
theorem dX6_openNow_57 : decode cX6_openNow 57 = .ok (.iinc 2 1, 3) := by decide +kernel
theorem dX6_openNow_60 : decode cX6_openNow 60 = .ok (.goto (-38), 3) := by decide +kernel
theorem dX6_openNow_63 : decode cX6_openNow 63 = .ok (.iload_n 1, 1) := by decide +kernel
theorem dX6_openNow_64 : decode cX6_openNow 64 = .ok (.ireturn, 1) := by decide +kernel
theorem dX6_opens_0 : decode cX6_opens 0 = .ok (.aload_n 0, 1) := by decide +kernel
theorem dX6_opens_1 : decode cX6_opens 1 = .ok (.invokevirtual 278, 3) := by decide +kernel
theorem dX6_opens_4 : decode cX6_opens 4 = .ok (.ireturn, 1) := by decide +kernel
theorem dX6_weakest_0 : decode cX6_weakest 0 = .ok (.aload_n 0, 1) := by decide +kernel
theorem dX6_weakest_1 : decode cX6_weakest 1 = .ok (.iconst 0, 1) := by decide +kernel
theorem dX6_weakest_2 : decode cX6_weakest 2 = .ok (.iconst 1, 1) := by decide +kernel
theorem dX6_weakest_3 : decode cX6_weakest 3 = .ok (.invokevirtual 242, 3) := by decide +kernel
theorem dX6_weakest_6 : decode cX6_weakest 6 = .ok (.pop, 1) := by decide +kernel
theorem dX6_weakest_7 : decode cX6_weakest 7 = .ok (.aload_n 0, 1) := by decide +kernel
theorem dX6_weakest_8 : decode cX6_weakest 8 = .ok (.getfield 226, 3) := by decide +kernel
theorem dX6_weakest_11 : decode cX6_weakest 11 = .ok (.ifCond .ne 6, 3) := by decide +kernel
theorem dX6_weakest_14 : decode cX6_weakest 14 = .ok (.bipush (-9), 2) := by decide +kernel
theorem dX6_weakest_16 : decode cX6_weakest 16 = .ok (.ireturn, 1) := by decide +kernel
theorem dX6_weakest_17 : decode cX6_weakest 17 = .ok (.aload_n 0, 1) := by decide +kernel
theorem dX6_weakest_18 : decode cX6_weakest 18 = .ok (.invokevirtual 255, 3) := by decide +kernel
theorem dX6_weakest_21 : decode cX6_weakest 21 = .ok (.bipush (-9), 2) := by decide +kernel
theorem dX6_weakest_23 : decode cX6_weakest 23 = .ok (.istore_n 1, 1) := by decide +kernel
theorem dX6_weakest_24 : decode cX6_weakest 24 = .ok (.lconst 0, 1) := by decide +kernel
theorem dX6_weakest_25 : decode cX6_weakest 25 = .ok (.lstore_n 2, 1) := by decide +kernel
theorem dX6_weakest_26 : decode cX6_weakest 26 = .ok (.lconst 1, 1) := by decide +kernel
theorem dX6_weakest_27 : decode cX6_weakest 27 = .ok (.lstore 4, 2) := by decide +kernel
theorem dX6_weakest_29 : decode cX6_weakest 29 = .ok (.iconst 0, 1) := by decide +kernel
theorem dX6_weakest_30 : decode cX6_weakest 30 = .ok (.istore 6, 2) := by decide +kernel
theorem dX6_weakest_32 : decode cX6_weakest 32 = .ok (.iload 6, 2) := by decide +kernel
theorem dX6_weakest_34 : decode cX6_weakest 34 = .ok (.iconst 4, 1) := by decide +kernel
theorem dX6_weakest_35 : decode cX6_weakest 35 = .ok (.if_icmp .ge 61, 3) := by decide +kernel
theorem dX6_weakest_38 : decode cX6_weakest 38 = .ok (.aload_n 0, 1) := by decide +kernel
theorem dX6_weakest_39 : decode cX6_weakest 39 = .ok (.iload 6, 2) := by decide +kernel
theorem dX6_weakest_41 : decode cX6_weakest 41 = .ok (.invokevirtual 204, 3) := by decide +kernel
theorem dX6_weakest_44 : decode cX6_weakest 44 = .ok (.ifCond .eq 46, 3) := by decide +kernel
theorem dX6_weakest_47 : decode cX6_weakest 47 = .ok (.aload_n 0, 1) := by decide +kernel
theorem dX6_weakest_48 : decode cX6_weakest 48 = .ok (.iload 6, 2) := by decide +kernel
theorem dX6_weakest_50 : decode cX6_weakest 50 = .ok (.invokevirtual 270, 3) := by decide +kernel
theorem dX6_weakest_53 : decode cX6_weakest 53 = .ok (.iload_n 1, 1) := by decide +kernel
theorem dX6_weakest_54 : decode cX6_weakest 54 = .ok (.bipush (-9), 2) := by decide +kernel
theorem dX6_weakest_56 : decode cX6_weakest 56 = .ok (.if_icmp .eq 20, 3) := by decide +kernel
theorem dX6_weakest_59 : decode cX6_weakest 59 = .ok (.aload_n 0, 1) := by decide +kernel
theorem dX6_weakest_60 : decode cX6_weakest 60 = .ok (.getfield 261, 3) := by decide +kernel
theorem dX6_weakest_63 : decode cX6_weakest 63 = .ok (.aload_n 0, 1) := by decide +kernel
theorem dX6_weakest_64 : decode cX6_weakest 64 = .ok (.getfield 264, 3) := by decide +kernel
theorem dX6_weakest_67 : decode cX6_weakest 67 = .ok (.lload_n 2, 1) := by decide +kernel
theorem dX6_weakest_68 : decode cX6_weakest 68 = .ok (.lload 4, 2) := by decide +kernel
theorem dX6_weakest_70 : decode cX6_weakest 70 = .ok (.invokestatic 282, 3) := by decide +kernel
theorem dX6_weakest_73 : decode cX6_weakest 73 = .ok (.ifCond .eq 17, 3) := by decide +kernel
theorem dX6_weakest_76 : decode cX6_weakest 76 = .ok (.iload 6, 2) := by decide +kernel
theorem dX6_weakest_78 : decode cX6_weakest 78 = .ok (.istore_n 1, 1) := by decide +kernel
theorem dX6_weakest_79 : decode cX6_weakest 79 = .ok (.aload_n 0, 1) := by decide +kernel
theorem dX6_weakest_80 : decode cX6_weakest 80 = .ok (.getfield 261, 3) := by decide +kernel
theorem dX6_weakest_83 : decode cX6_weakest 83 = .ok (.lstore_n 2, 1) := by decide +kernel
theorem dX6_weakest_84 : decode cX6_weakest 84 = .ok (.aload_n 0, 1) := by decide +kernel
theorem dX6_weakest_85 : decode cX6_weakest 85 = .ok (.getfield 264, 3) := by decide +kernel
theorem dX6_weakest_88 : decode cX6_weakest 88 = .ok (.lstore 4, 2) := by decide +kernel
theorem dX6_weakest_90 : decode cX6_weakest 90 = .ok (.iinc 6 1, 3) := by decide +kernel
theorem dX6_weakest_93 : decode cX6_weakest 93 = .ok (.goto (-61), 3) := by decide +kernel
theorem dX6_weakest_96 : decode cX6_weakest 96 = .ok (.aload_n 0, 1) := by decide +kernel
theorem dX6_weakest_97 : decode cX6_weakest 97 = .ok (.lload_n 2, 1) := by decide +kernel
theorem dX6_weakest_98 : decode cX6_weakest 98 = .ok (.lload 4, 2) := by decide +kernel
theorem dX6_weakest_100 : decode cX6_weakest 100 = .ok (.ldiv, 1) := by decide +kernel
theorem dX6_weakest_101 : decode cX6_weakest 101 = .ok (.l2i, 1) := by decide +kernel
theorem dX6_weakest_102 : decode cX6_weakest 102 = .ok (.iload_n 1, 1) := by decide +kernel
theorem dX6_weakest_103 : decode cX6_weakest 103 = .ok (.invokevirtual 130, 3) := by decide +kernel
theorem dX6_weakest_106 : decode cX6_weakest 106 = .ok (.ireturn, 1) := by decide +kernel
theorem dX6_isLess_0 : decode cX6_isLess 0 = .ok (.lload_n 0, 1) := by decide +kernel
theorem dX6_isLess_1 : decode cX6_isLess 1 = .ok (.lstore 8, 2) := by decide +kernel
theorem dX6_isLess_3 : decode cX6_isLess 3 = .ok (.lload_n 2, 1) := by decide +kernel
theorem dX6_isLess_4 : decode cX6_isLess 4 = .ok (.lstore 10, 2) := by decide +kernel
theorem dX6_isLess_6 : decode cX6_isLess 6 = .ok (.lload 4, 2) := by decide +kernel
theorem dX6_isLess_8 : decode cX6_isLess 8 = .ok (.lstore 12, 2) := by decide +kernel
theorem dX6_isLess_10 : decode cX6_isLess 10 = .ok (.lload 6, 2) := by decide +kernel
theorem dX6_isLess_12 : decode cX6_isLess 12 = .ok (.lstore 14, 2) := by decide +kernel
theorem dX6_isLess_14 : decode cX6_isLess 14 = .ok (.iconst 0, 1) := by decide +kernel
theorem dX6_isLess_15 : decode cX6_isLess 15 = .ok (.istore 16, 2) := by decide +kernel
theorem dX6_isLess_17 : decode cX6_isLess 17 = .ok (.lload 8, 2) := by decide +kernel
theorem dX6_isLess_19 : decode cX6_isLess 19 = .ok (.lload 10, 2) := by decide +kernel
theorem dX6_isLess_21 : decode cX6_isLess 21 = .ok (.ldiv, 1) := by decide +kernel
theorem dX6_isLess_22 : decode cX6_isLess 22 = .ok (.lload 12, 2) := by decide +kernel
theorem dX6_isLess_24 : decode cX6_isLess 24 = .ok (.lload 14, 2) := by decide +kernel
theorem dX6_isLess_26 : decode cX6_isLess 26 = .ok (.ldiv, 1) := by decide +kernel
theorem dX6_isLess_27 : decode cX6_isLess 27 = .ok (.lcmp, 1) := by decide +kernel
theorem dX6_isLess_28 : decode cX6_isLess 28 = .ok (.ifCond .ne 68, 3) := by decide +kernel
theorem dX6_isLess_31 : decode cX6_isLess 31 = .ok (.lload 8, 2) := by decide +kernel
theorem dX6_isLess_33 : decode cX6_isLess 33 = .ok (.lload 10, 2) := by decide +kernel
theorem dX6_isLess_35 : decode cX6_isLess 35 = .ok (.lrem, 1) := by decide +kernel
theorem dX6_isLess_36 : decode cX6_isLess 36 = .ok (.lconst 0, 1) := by decide +kernel
theorem dX6_isLess_37 : decode cX6_isLess 37 = .ok (.lcmp, 1) := by decide +kernel
theorem dX6_isLess_38 : decode cX6_isLess 38 = .ok (.ifCond .eq 58, 3) := by decide +kernel
theorem dX6_isLess_41 : decode cX6_isLess 41 = .ok (.lload 12, 2) := by decide +kernel
theorem dX6_isLess_43 : decode cX6_isLess 43 = .ok (.lload 14, 2) := by decide +kernel
theorem dX6_isLess_45 : decode cX6_isLess 45 = .ok (.lrem, 1) := by decide +kernel
theorem dX6_isLess_46 : decode cX6_isLess 46 = .ok (.lconst 0, 1) := by decide +kernel
theorem dX6_isLess_47 : decode cX6_isLess 47 = .ok (.lcmp, 1) := by decide +kernel
theorem dX6_isLess_48 : decode cX6_isLess 48 = .ok (.ifCond .eq 48, 3) := by decide +kernel
theorem dX6_isLess_51 : decode cX6_isLess 51 = .ok (.lload 8, 2) := by decide +kernel
theorem dX6_isLess_53 : decode cX6_isLess 53 = .ok (.lload 10, 2) := by decide +kernel
theorem dX6_isLess_55 : decode cX6_isLess 55 = .ok (.lrem, 1) := by decide +kernel
theorem dX6_isLess_56 : decode cX6_isLess 56 = .ok (.lstore 17, 2) := by decide +kernel
theorem dX6_isLess_58 : decode cX6_isLess 58 = .ok (.lload 12, 2) := by decide +kernel
theorem dX6_isLess_60 : decode cX6_isLess 60 = .ok (.lload 14, 2) := by decide +kernel
theorem dX6_isLess_62 : decode cX6_isLess 62 = .ok (.lrem, 1) := by decide +kernel
theorem dX6_isLess_63 : decode cX6_isLess 63 = .ok (.lstore 19, 2) := by decide +kernel
theorem dX6_isLess_65 : decode cX6_isLess 65 = .ok (.lload 10, 2) := by decide +kernel
theorem dX6_isLess_67 : decode cX6_isLess 67 = .ok (.lstore 8, 2) := by decide +kernel
theorem dX6_isLess_69 : decode cX6_isLess 69 = .ok (.lload 17, 2) := by decide +kernel
theorem dX6_isLess_71 : decode cX6_isLess 71 = .ok (.lstore 10, 2) := by decide +kernel
theorem dX6_isLess_73 : decode cX6_isLess 73 = .ok (.lload 14, 2) := by decide +kernel
theorem dX6_isLess_75 : decode cX6_isLess 75 = .ok (.lstore 12, 2) := by decide +kernel
theorem dX6_isLess_77 : decode cX6_isLess 77 = .ok (.lload 19, 2) := by decide +kernel
theorem dX6_isLess_79 : decode cX6_isLess 79 = .ok (.lstore 14, 2) := by decide +kernel
theorem dX6_isLess_81 : decode cX6_isLess 81 = .ok (.iload 16, 2) := by decide +kernel
theorem dX6_isLess_83 : decode cX6_isLess 83 = .ok (.ifCond .ne 7, 3) := by decide +kernel
theorem dX6_isLess_86 : decode cX6_isLess 86 = .ok (.iconst 1, 1) := by decide +kernel
theorem dX6_isLess_87 : decode cX6_isLess 87 = .ok (.goto 4, 3) := by decide +kernel
theorem dX6_isLess_90 : decode cX6_isLess 90 = .ok (.iconst 0, 1) := by decide +kernel
theorem dX6_isLess_91 : decode cX6_isLess 91 = .ok (.istore 16, 2) := by decide +kernel
theorem dX6_isLess_93 : decode cX6_isLess 93 = .ok (.goto (-76), 3) := by decide +kernel
theorem dX6_isLess_96 : decode cX6_isLess 96 = .ok (.lload 8, 2) := by decide +kernel
theorem dX6_isLess_98 : decode cX6_isLess 98 = .ok (.lload 10, 2) := by decide +kernel
theorem dX6_isLess_100 : decode cX6_isLess 100 = .ok (.ldiv, 1) := by decide +kernel
theorem dX6_isLess_101 : decode cX6_isLess 101 = .ok (.lload 12, 2) := by decide +kernel
theorem dX6_isLess_103 : decode cX6_isLess 103 = .ok (.lload 14, 2) := by decide +kernel
theorem dX6_isLess_105 : decode cX6_isLess 105 = .ok (.ldiv, 1) := by decide +kernel
theorem dX6_isLess_106 : decode cX6_isLess 106 = .ok (.lcmp, 1) := by decide +kernel
theorem dX6_isLess_107 : decode cX6_isLess 107 = .ok (.ifCond .eq 33, 3) := by decide +kernel
theorem dX6_isLess_110 : decode cX6_isLess 110 = .ok (.lload 8, 2) := by decide +kernel
theorem dX6_isLess_112 : decode cX6_isLess 112 = .ok (.lload 10, 2) := by decide +kernel
theorem dX6_isLess_114 : decode cX6_isLess 114 = .ok (.ldiv, 1) := by decide +kernel
theorem dX6_isLess_115 : decode cX6_isLess 115 = .ok (.lload 12, 2) := by decide +kernel
theorem dX6_isLess_117 : decode cX6_isLess 117 = .ok (.lload 14, 2) := by decide +kernel
theorem dX6_isLess_119 : decode cX6_isLess 119 = .ok (.ldiv, 1) := by decide +kernel
theorem dX6_isLess_120 : decode cX6_isLess 120 = .ok (.lcmp, 1) := by decide +kernel
theorem dX6_isLess_121 : decode cX6_isLess 121 = .ok (.ifCond .ge 7, 3) := by decide +kernel
theorem dX6_isLess_124 : decode cX6_isLess 124 = .ok (.iconst 1, 1) := by decide +kernel
theorem dX6_isLess_125 : decode cX6_isLess 125 = .ok (.goto 4, 3) := by decide +kernel
theorem dX6_isLess_128 : decode cX6_isLess 128 = .ok (.iconst 0, 1) := by decide +kernel
theorem dX6_isLess_129 : decode cX6_isLess 129 = .ok (.iload 16, 2) := by decide +kernel
theorem dX6_isLess_131 : decode cX6_isLess 131 = .ok (.if_icmp .eq 7, 3) := by decide +kernel
theorem dX6_isLess_134 : decode cX6_isLess 134 = .ok (.iconst 1, 1) := by decide +kernel
theorem dX6_isLess_135 : decode cX6_isLess 135 = .ok (.goto 4, 3) := by decide +kernel
theorem dX6_isLess_138 : decode cX6_isLess 138 = .ok (.iconst 0, 1) := by decide +kernel
theorem dX6_isLess_139 : decode cX6_isLess 139 = .ok (.ireturn, 1) := by decide +kernel
theorem dX6_isLess_140 : decode cX6_isLess 140 = .ok (.lload 8, 2) := by decide +kernel
theorem dX6_isLess_142 : decode cX6_isLess 142 = .ok (.lload 10, 2) := by decide +kernel
theorem dX6_isLess_144 : decode cX6_isLess 144 = .ok (.lrem, 1) := by decide +kernel
theorem dX6_isLess_145 : decode cX6_isLess 145 = .ok (.lconst 0, 1) := by decide +kernel
theorem dX6_isLess_146 : decode cX6_isLess 146 = .ok (.lcmp, 1) := by decide +kernel
theorem dX6_isLess_147 : decode cX6_isLess 147 = .ok (.ifCond .ne 7, 3) := by decide +kernel
theorem dX6_isLess_150 : decode cX6_isLess 150 = .ok (.iconst 1, 1) := by decide +kernel
theorem dX6_isLess_151 : decode cX6_isLess 151 = .ok (.goto 4, 3) := by decide +kernel
theorem dX6_isLess_154 : decode cX6_isLess 154 = .ok (.iconst 0, 1) := by decide +kernel
theorem dX6_isLess_155 : decode cX6_isLess 155 = .ok (.istore 17, 2) := by decide +kernel
theorem dX6_isLess_157 : decode cX6_isLess 157 = .ok (.lload 12, 2) := by decide +kernel
theorem dX6_isLess_159 : decode cX6_isLess 159 = .ok (.lload 14, 2) := by decide +kernel
theorem dX6_isLess_161 : decode cX6_isLess 161 = .ok (.lrem, 1) := by decide +kernel
theorem dX6_isLess_162 : decode cX6_isLess 162 = .ok (.lconst 0, 1) := by decide +kernel
theorem dX6_isLess_163 : decode cX6_isLess 163 = .ok (.lcmp, 1) := by decide +kernel
theorem dX6_isLess_164 : decode cX6_isLess 164 = .ok (.ifCond .ne 7, 3) := by decide +kernel
theorem dX6_isLess_167 : decode cX6_isLess 167 = .ok (.iconst 1, 1) := by decide +kernel
theorem dX6_isLess_168 : decode cX6_isLess 168 = .ok (.goto 4, 3) := by decide +kernel
theorem dX6_isLess_171 : decode cX6_isLess 171 = .ok (.iconst 0, 1) := by decide +kernel
theorem dX6_isLess_172 : decode cX6_isLess 172 = .ok (.istore 18, 2) := by decide +kernel
theorem dX6_isLess_174 : decode cX6_isLess 174 = .ok (.iload 17, 2) := by decide +kernel
theorem dX6_isLess_176 : decode cX6_isLess 176 = .ok (.iload 18, 2) := by decide +kernel
theorem dX6_isLess_178 : decode cX6_isLess 178 = .ok (.if_icmp .eq 14, 3) := by decide +kernel
theorem dX6_isLess_181 : decode cX6_isLess 181 = .ok (.iload 17, 2) := by decide +kernel
theorem dX6_isLess_183 : decode cX6_isLess 183 = .ok (.iload 16, 2) := by decide +kernel
theorem dX6_isLess_185 : decode cX6_isLess 185 = .ok (.if_icmp .eq 7, 3) := by decide +kernel
theorem dX6_isLess_188 : decode cX6_isLess 188 = .ok (.iconst 1, 1) := by decide +kernel
theorem dX6_isLess_189 : decode cX6_isLess 189 = .ok (.goto 4, 3) := by decide +kernel
theorem dX6_isLess_192 : decode cX6_isLess 192 = .ok (.iconst 0, 1) := by decide +kernel
theorem dX6_isLess_193 : decode cX6_isLess 193 = .ok (.ireturn, 1) := by decide +kernel
theorem dX6_leak_0 : decode cX6_leak 0 = .ok (.aload_n 0, 1) := by decide +kernel
theorem dX6_leak_1 : decode cX6_leak 1 = .ok (.invokevirtual 278, 3) := by decide +kernel
theorem dX6_leak_4 : decode cX6_leak 4 = .ok (.istore_n 1, 1) := by decide +kernel
theorem dX6_leak_5 : decode cX6_leak 5 = .ok (.iconst 0, 1) := by decide +kernel
theorem dX6_leak_6 : decode cX6_leak 6 = .ok (.istore_n 2, 1) := by decide +kernel
theorem dX6_leak_7 : decode cX6_leak 7 = .ok (.iconst 0, 1) := by decide +kernel
theorem dX6_leak_8 : decode cX6_leak 8 = .ok (.istore_n 3, 1) := by decide +kernel
theorem dX6_leak_9 : decode cX6_leak 9 = .ok (.iload_n 3, 1) := by decide +kernel
theorem dX6_leak_10 : decode cX6_leak 10 = .ok (.iconst 4, 1) := by decide +kernel
theorem dX6_leak_11 : decode cX6_leak 11 = .ok (.if_icmp .ge 54, 3) := by decide +kernel
theorem dX6_leak_14 : decode cX6_leak 14 = .ok (.iload_n 1, 1) := by decide +kernel
theorem dX6_leak_15 : decode cX6_leak 15 = .ok (.iload_n 3, 1) := by decide +kernel
theorem dX6_leak_16 : decode cX6_leak 16 = .ok (.invokestatic 286, 3) := by decide +kernel
theorem dX6_leak_19 : decode cX6_leak 19 = .ok (.ifCond .eq 40, 3) := by decide +kernel
theorem dX6_leak_22 : decode cX6_leak 22 = .ok (.aload_n 0, 1) := by decide +kernel
theorem dX6_leak_23 : decode cX6_leak 23 = .ok (.iload_n 3, 1) := by decide +kernel
theorem dX6_leak_24 : decode cX6_leak 24 = .ok (.invokevirtual 270, 3) := by decide +kernel
theorem dX6_leak_27 : decode cX6_leak 27 = .ok (.iload_n 2, 1) := by decide +kernel
theorem dX6_leak_28 : decode cX6_leak 28 = .ok (.aload_n 0, 1) := by decide +kernel
theorem dX6_leak_29 : decode cX6_leak 29 = .ok (.getfield 75, 3) := by decide +kernel
theorem dX6_leak_32 : decode cX6_leak 32 = .ok (.iload_n 3, 1) := by decide +kernel
theorem dX6_leak_33 : decode cX6_leak 33 = .ok (.iaload, 1) := by decide +kernel
theorem dX6_leak_34 : decode cX6_leak 34 = .ok (.i2l, 1) := by decide +kernel
theorem dX6_leak_35 : decode cX6_leak 35 = .ok (.aload_n 0, 1) := by decide +kernel
theorem dX6_leak_36 : decode cX6_leak 36 = .ok (.getfield 220, 3) := by decide +kernel
theorem dX6_leak_39 : decode cX6_leak 39 = .ok (.i2l, 1) := by decide +kernel
theorem dX6_leak_40 : decode cX6_leak 40 = .ok (.aload_n 0, 1) := by decide +kernel
theorem dX6_leak_41 : decode cX6_leak 41 = .ok (.getfield 264, 3) := by decide +kernel
theorem dX6_leak_44 : decode cX6_leak 44 = .ok (.lmul, 1) := by decide +kernel
theorem dX6_leak_45 : decode cX6_leak 45 = .ok (.aload_n 0, 1) := by decide +kernel
theorem dX6_leak_46 : decode cX6_leak 46 = .ok (.getfield 261, 3) := by decide +kernel
theorem dX6_leak_49 : decode cX6_leak 49 = .ok (.lsub, 1) := by decide +kernel
theorem dX6_leak_50 : decode cX6_leak 50 = .ok (.lmul, 1) := by decide +kernel
theorem dX6_leak_51 : decode cX6_leak 51 = .ok (.aload_n 0, 1) := by decide +kernel
theorem dX6_leak_52 : decode cX6_leak 52 = .ok (.getfield 264, 3) := by decide +kernel
theorem dX6_leak_55 : decode cX6_leak 55 = .ok (.ldiv, 1) := by decide +kernel
theorem dX6_leak_56 : decode cX6_leak 56 = .ok (.l2i, 1) := by decide +kernel
theorem dX6_leak_57 : decode cX6_leak 57 = .ok (.iadd, 1) := by decide +kernel
theorem dX6_leak_58 : decode cX6_leak 58 = .ok (.istore_n 2, 1) := by decide +kernel
theorem dX6_leak_59 : decode cX6_leak 59 = .ok (.iinc 3 1, 3) := by decide +kernel
theorem dX6_leak_62 : decode cX6_leak 62 = .ok (.goto (-53), 3) := by decide +kernel
theorem dX6_leak_65 : decode cX6_leak 65 = .ok (.iload_n 2, 1) := by decide +kernel
theorem dX6_leak_66 : decode cX6_leak 66 = .ok (.ireturn, 1) := by decide +kernel
theorem dX6_through_0 : decode cX6_through 0 = .ok (.aload_n 0, 1) := by decide +kernel
theorem dX6_through_1 : decode cX6_through 1 = .ok (.iconst 1, 1) := by decide +kernel
theorem dX6_through_2 : decode cX6_through 2 = .ok (.iload_n 1, 1) := by decide +kernel
theorem dX6_through_3 : decode cX6_through 3 = .ok (.invokevirtual 267, 3) := by decide +kernel
theorem dX6_through_6 : decode cX6_through 6 = .ok (.istore_n 2, 1) := by decide +kernel
theorem dX6_through_7 : decode cX6_through 7 = .ok (.iload_n 2, 1) := by decide +kernel
theorem dX6_through_8 : decode cX6_through 8 = .ok (.ifCond .ge 5, 3) := by decide +kernel
theorem dX6_through_11 : decode cX6_through 11 = .ok (.iload_n 2, 1) := by decide +kernel
theorem dX6_through_12 : decode cX6_through 12 = .ok (.ireturn, 1) := by decide +kernel
theorem dX6_through_13 : decode cX6_through 13 = .ok (.aload_n 0, 1) := by decide +kernel
theorem dX6_through_14 : decode cX6_through 14 = .ok (.invokevirtual 255, 3) := by decide +kernel
theorem dX6_through_17 : decode cX6_through 17 = .ok (.aload_n 0, 1) := by decide +kernel
theorem dX6_through_18 : decode cX6_through 18 = .ok (.iload_n 1, 1) := by decide +kernel
theorem dX6_through_19 : decode cX6_through 19 = .ok (.invokevirtual 270, 3) := by decide +kernel
theorem dX6_through_22 : decode cX6_through 22 = .ok (.aload_n 0, 1) := by decide +kernel
theorem dX6_through_23 : decode cX6_through 23 = .ok (.getfield 72, 3) := by decide +kernel
theorem dX6_through_26 : decode cX6_through 26 = .ok (.iload_n 1, 1) := by decide +kernel
theorem dX6_through_27 : decode cX6_through 27 = .ok (.iaload, 1) := by decide +kernel
theorem dX6_through_28 : decode cX6_through 28 = .ok (.i2l, 1) := by decide +kernel
theorem dX6_through_29 : decode cX6_through 29 = .ok (.aload_n 0, 1) := by decide +kernel
theorem dX6_through_30 : decode cX6_through 30 = .ok (.getfield 239, 3) := by decide +kernel
theorem dX6_through_33 : decode cX6_through 33 = .ok (.lmul, 1) := by decide +kernel
theorem dX6_through_34 : decode cX6_through 34 = .ok (.aload_n 0, 1) := by decide +kernel
theorem dX6_through_35 : decode cX6_through 35 = .ok (.getfield 258, 3) := by decide +kernel
theorem dX6_through_38 : decode cX6_through 38 = .ok (.lsub, 1) := by decide +kernel
theorem dX6_through_39 : decode cX6_through 39 = .ok (.lstore_n 3, 1) := by decide +kernel
theorem dX6_through_40 : decode cX6_through 40 = .ok (.lload_n 3, 1) := by decide +kernel
theorem dX6_through_41 : decode cX6_through 41 = .ok (.lconst 0, 1) := by decide +kernel
theorem dX6_through_42 : decode cX6_through 42 = .ok (.lcmp, 1) := by decide +kernel
theorem dX6_through_43 : decode cX6_through 43 = .ok (.ifCond .gt 9, 3) := by decide +kernel
theorem dX6_through_46 : decode cX6_through 46 = .ok (.aload_n 0, 1) := by decide +kernel
theorem dX6_through_47 : decode cX6_through 47 = .ok (.iconst 4, 1) := by decide +kernel
theorem dX6_through_48 : decode cX6_through 48 = .ok (.invokevirtual 122, 3) := by decide +kernel
theorem dX6_through_51 : decode cX6_through 51 = .ok (.ireturn, 1) := by decide +kernel
theorem dX6_through_52 : decode cX6_through 52 = .ok (.aload_n 0, 1) := by decide +kernel
theorem dX6_through_53 : decode cX6_through 53 = .ok (.aload_n 0, 1) := by decide +kernel
theorem dX6_through_54 : decode cX6_through 54 = .ok (.getfield 51, 3) := by decide +kernel
theorem dX6_through_57 : decode cX6_through 57 = .ok (.aload_n 0, 1) := by decide +kernel
theorem dX6_through_58 : decode cX6_through 58 = .ok (.getfield 66, 3) := by decide +kernel
theorem dX6_through_61 : decode cX6_through 61 = .ok (.iload_n 1, 1) := by decide +kernel
theorem dX6_through_62 : decode cX6_through 62 = .ok (.iaload, 1) := by decide +kernel
theorem dX6_through_63 : decode cX6_through 63 = .ok (.iaload, 1) := by decide +kernel
theorem dX6_through_64 : decode cX6_through 64 = .ok (.i2l, 1) := by decide +kernel
theorem dX6_through_65 : decode cX6_through 65 = .ok (.aload_n 0, 1) := by decide +kernel
theorem dX6_through_66 : decode cX6_through 66 = .ok (.getfield 220, 3) := by decide +kernel
theorem dX6_through_69 : decode cX6_through 69 = .ok (.i2l, 1) := by decide +kernel
theorem dX6_through_70 : decode cX6_through 70 = .ok (.lmul, 1) := by decide +kernel
theorem dX6_through_71 : decode cX6_through 71 = .ok (.aload_n 0, 1) := by decide +kernel
theorem dX6_through_72 : decode cX6_through 72 = .ok (.getfield 75, 3) := by decide +kernel
theorem dX6_through_75 : decode cX6_through 75 = .ok (.iload_n 1, 1) := by decide +kernel
theorem dX6_through_76 : decode cX6_through 76 = .ok (.iaload, 1) := by decide +kernel
theorem dX6_through_77 : decode cX6_through 77 = .ok (.i2l, 1) := by decide +kernel
theorem dX6_through_78 : decode cX6_through 78 = .ok (.lmul, 1) := by decide +kernel
theorem dX6_through_79 : decode cX6_through 79 = .ok (.aload_n 0, 1) := by decide +kernel
theorem dX6_through_80 : decode cX6_through 80 = .ok (.getfield 239, 3) := by decide +kernel
theorem dX6_through_83 : decode cX6_through 83 = .ok (.lmul, 1) := by decide +kernel
theorem dX6_through_84 : decode cX6_through 84 = .ok (.lload_n 3, 1) := by decide +kernel
theorem dX6_through_85 : decode cX6_through 85 = .ok (.iconst 1, 1) := by decide +kernel
theorem dX6_through_86 : decode cX6_through 86 = .ok (.invokevirtual 191, 3) := by decide +kernel
theorem dX6_through_89 : decode cX6_through 89 = .ok (.ireturn, 1) := by decide +kernel
theorem dX6_age_0 : decode cX6_age 0 = .ok (.iload_n 1, 1) := by decide +kernel
theorem dX6_age_1 : decode cX6_age 1 = .ok (.iconst 1, 1) := by decide +kernel
theorem dX6_age_2 : decode cX6_age 2 = .ok (.bipush 9, 2) := by decide +kernel
theorem dX6_age_4 : decode cX6_age 4 = .ok (.invokestatic 104, 3) := by decide +kernel
theorem dX6_age_7 : decode cX6_age 7 = .ok (.ifCond .ne 5, 3) := by decide +kernel
theorem dX6_age_10 : decode cX6_age 10 = .ok (.iconst (-1), 1) := by decide +kernel
theorem dX6_age_11 : decode cX6_age 11 = .ok (.ireturn, 1) := by decide +kernel
theorem dX6_age_12 : decode cX6_age 12 = .ok (.aload_n 0, 1) := by decide +kernel
theorem dX6_age_13 : decode cX6_age 13 = .ok (.iconst 0, 1) := by decide +kernel
theorem dX6_age_14 : decode cX6_age 14 = .ok (.iconst 1, 1) := by decide +kernel
theorem dX6_age_15 : decode cX6_age 15 = .ok (.invokevirtual 242, 3) := by decide +kernel
theorem dX6_age_18 : decode cX6_age 18 = .ok (.pop, 1) := by decide +kernel
theorem dX6_age_19 : decode cX6_age 19 = .ok (.aload_n 0, 1) := by decide +kernel
theorem dX6_age_20 : decode cX6_age 20 = .ok (.getfield 226, 3) := by decide +kernel
theorem dX6_age_23 : decode cX6_age 23 = .ok (.ifCond .eq 7, 3) := by decide +kernel
theorem dX6_age_26 : decode cX6_age 26 = .ok (.aload_n 0, 1) := by decide +kernel
theorem dX6_age_27 : decode cX6_age 27 = .ok (.invokevirtual 255, 3) := by decide +kernel
theorem dX6_age_30 : decode cX6_age 30 = .ok (.iconst 0, 1) := by decide +kernel
theorem dX6_age_31 : decode cX6_age 31 = .ok (.istore_n 2, 1) := by decide +kernel
theorem dX6_age_32 : decode cX6_age 32 = .ok (.iconst 0, 1) := by decide +kernel
theorem dX6_age_33 : decode cX6_age 33 = .ok (.istore_n 3, 1) := by decide +kernel
theorem dX6_age_34 : decode cX6_age 34 = .ok (.iload_n 3, 1) := by decide +kernel
theorem dX6_age_35 : decode cX6_age 35 = .ok (.iconst 4, 1) := by decide +kernel
theorem dX6_age_36 : decode cX6_age 36 = .ok (.if_icmp .ge 108, 3) := by decide +kernel
theorem dX6_age_39 : decode cX6_age 39 = .ok (.aload_n 0, 1) := by decide +kernel
theorem dX6_age_40 : decode cX6_age 40 = .ok (.getfield 87, 3) := by decide +kernel
theorem dX6_age_43 : decode cX6_age 43 = .ok (.iload_n 3, 1) := by decide +kernel
theorem dX6_age_44 : decode cX6_age 44 = .ok (.iconst 0, 1) := by decide +kernel
theorem dX6_age_45 : decode cX6_age 45 = .ok (.iastore, 1) := by decide +kernel
theorem dX6_age_46 : decode cX6_age 46 = .ok (.aload_n 0, 1) := by decide +kernel
theorem dX6_age_47 : decode cX6_age 47 = .ok (.iload_n 3, 1) := by decide +kernel
theorem dX6_age_48 : decode cX6_age 48 = .ok (.invokevirtual 204, 3) := by decide +kernel
theorem dX6_age_51 : decode cX6_age 51 = .ok (.ifCond .eq 87, 3) := by decide +kernel
theorem dX6_age_54 : decode cX6_age 54 = .ok (.aload_n 0, 1) := by decide +kernel
theorem dX6_age_55 : decode cX6_age 55 = .ok (.iload_n 3, 1) := by decide +kernel
theorem dX6_age_56 : decode cX6_age 56 = .ok (.invokevirtual 270, 3) := by decide +kernel
theorem dX6_age_59 : decode cX6_age 59 = .ok (.aload_n 0, 1) := by decide +kernel
theorem dX6_age_60 : decode cX6_age 60 = .ok (.getfield 42, 3) := by decide +kernel
theorem dX6_age_63 : decode cX6_age 63 = .ok (.aload_n 0, 1) := by decide +kernel
theorem dX6_age_64 : decode cX6_age 64 = .ok (.getfield 66, 3) := by decide +kernel
theorem dX6_age_67 : decode cX6_age 67 = .ok (.iload_n 3, 1) := by decide +kernel
theorem dX6_age_68 : decode cX6_age 68 = .ok (.iaload, 1) := by decide +kernel
theorem dX6_age_69 : decode cX6_age 69 = .ok (.iaload, 1) := by decide +kernel
theorem dX6_age_70 : decode cX6_age 70 = .ok (.iload_n 1, 1) := by decide +kernel
theorem dX6_age_71 : decode cX6_age 71 = .ok (.imul, 1) := by decide +kernel
theorem dX6_age_72 : decode cX6_age 72 = .ok (.bipush 100, 2) := by decide +kernel
theorem dX6_age_74 : decode cX6_age 74 = .ok (.if_icmp .le 8, 3) := by decide +kernel
theorem dX6_age_77 : decode cX6_age 77 = .ok (.bipush 100, 2) := by decide +kernel
theorem dX6_age_79 : decode cX6_age 79 = .ok (.goto 16, 3) := by decide +kernel
theorem dX6_age_82 : decode cX6_age 82 = .ok (.aload_n 0, 1) := by decide +kernel
theorem dX6_age_83 : decode cX6_age 83 = .ok (.getfield 42, 3) := by decide +kernel
theorem dX6_age_86 : decode cX6_age 86 = .ok (.aload_n 0, 1) := by decide +kernel
theorem dX6_age_87 : decode cX6_age 87 = .ok (.getfield 66, 3) := by decide +kernel
theorem dX6_age_90 : decode cX6_age 90 = .ok (.iload_n 3, 1) := by decide +kernel
theorem dX6_age_91 : decode cX6_age 91 = .ok (.iaload, 1) := by decide +kernel
theorem dX6_age_92 : decode cX6_age 92 = .ok (.iaload, 1) := by decide +kernel
theorem dX6_age_93 : decode cX6_age 93 = .ok (.iload_n 1, 1) := by decide +kernel
theorem dX6_age_94 : decode cX6_age 94 = .ok (.imul, 1) := by decide +kernel
theorem dX6_age_95 : decode cX6_age 95 = .ok (.istore 4, 2) := by decide +kernel
theorem dX6_age_97 : decode cX6_age 97 = .ok (.aload_n 0, 1) := by decide +kernel
theorem dX6_age_98 : decode cX6_age 98 = .ok (.getfield 87, 3) := by decide +kernel
theorem dX6_age_101 : decode cX6_age 101 = .ok (.iload_n 3, 1) := by decide +kernel
theorem dX6_age_102 : decode cX6_age 102 = .ok (.aload_n 0, 1) := by decide +kernel
theorem dX6_age_103 : decode cX6_age 103 = .ok (.getfield 258, 3) := by decide +kernel
theorem dX6_age_106 : decode cX6_age 106 = .ok (.iload 4, 2) := by decide +kernel
theorem dX6_age_108 : decode cX6_age 108 = .ok (.i2l, 1) := by decide +kernel
theorem dX6_age_109 : decode cX6_age 109 = .ok (.lmul, 1) := by decide +kernel
theorem dX6_age_110 : decode cX6_age 110 = .ok (.ldc2_w 289, 3) := by decide +kernel
theorem dX6_age_113 : decode cX6_age 113 = .ok (.aload_n 0, 1) := by decide +kernel
theorem dX6_age_114 : decode cX6_age 114 = .ok (.getfield 239, 3) := by decide +kernel
theorem dX6_age_117 : decode cX6_age 117 = .ok (.lmul, 1) := by decide +kernel
theorem dX6_age_118 : decode cX6_age 118 = .ok (.ldiv, 1) := by decide +kernel
theorem dX6_age_119 : decode cX6_age 119 = .ok (.l2i, 1) := by decide +kernel
theorem dX6_age_120 : decode cX6_age 120 = .ok (.iastore, 1) := by decide +kernel
theorem dX6_age_121 : decode cX6_age 121 = .ok (.iload_n 2, 1) := by decide +kernel
theorem dX6_age_122 : decode cX6_age 122 = .ok (.aload_n 0, 1) := by decide +kernel
theorem dX6_age_123 : decode cX6_age 123 = .ok (.getfield 87, 3) := by decide +kernel
theorem dX6_age_126 : decode cX6_age 126 = .ok (.iload_n 3, 1) := by decide +kernel
theorem dX6_age_127 : decode cX6_age 127 = .ok (.iaload, 1) := by decide +kernel
theorem dX6_age_128 : decode cX6_age 128 = .ok (.ifCond .le 7, 3) := by decide +kernel
theorem dX6_age_131 : decode cX6_age 131 = .ok (.iconst 1, 1) := by decide +kernel
theorem dX6_age_132 : decode cX6_age 132 = .ok (.goto 4, 3) := by decide +kernel
theorem dX6_age_135 : decode cX6_age 135 = .ok (.iconst 0, 1) := by decide +kernel
theorem dX6_age_136 : decode cX6_age 136 = .ok (.iadd, 1) := by decide +kernel
theorem dX6_age_137 : decode cX6_age 137 = .ok (.istore_n 2, 1) := by decide +kernel
theorem dX6_age_138 : decode cX6_age 138 = .ok (.iinc 3 1, 3) := by decide +kernel
theorem dX6_age_141 : decode cX6_age 141 = .ok (.goto (-107), 3) := by decide +kernel
theorem dX6_age_144 : decode cX6_age 144 = .ok (.iconst 0, 1) := by decide +kernel
theorem dX6_age_145 : decode cX6_age 145 = .ok (.istore_n 3, 1) := by decide +kernel
theorem dX6_age_146 : decode cX6_age 146 = .ok (.iload_n 3, 1) := by decide +kernel
theorem dX6_age_147 : decode cX6_age 147 = .ok (.iconst 4, 1) := by decide +kernel
theorem dX6_age_148 : decode cX6_age 148 = .ok (.if_icmp .ge 24, 3) := by decide +kernel
theorem dX6_age_151 : decode cX6_age 151 = .ok (.aload_n 0, 1) := by decide +kernel
theorem dX6_age_152 : decode cX6_age 152 = .ok (.getfield 72, 3) := by decide +kernel
theorem dX6_age_155 : decode cX6_age 155 = .ok (.iload_n 3, 1) := by decide +kernel
theorem dX6_age_156 : decode cX6_age 156 = .ok (.dup2, 1) := by decide +kernel
theorem dX6_age_157 : decode cX6_age 157 = .ok (.iaload, 1) := by decide +kernel
theorem dX6_age_158 : decode cX6_age 158 = .ok (.aload_n 0, 1) := by decide +kernel
theorem dX6_age_159 : decode cX6_age 159 = .ok (.getfield 87, 3) := by decide +kernel
theorem dX6_age_162 : decode cX6_age 162 = .ok (.iload_n 3, 1) := by decide +kernel
theorem dX6_age_163 : decode cX6_age 163 = .ok (.iaload, 1) := by decide +kernel
theorem dX6_age_164 : decode cX6_age 164 = .ok (.isub, 1) := by decide +kernel
theorem dX6_age_165 : decode cX6_age 165 = .ok (.iastore, 1) := by decide +kernel
theorem dX6_age_166 : decode cX6_age 166 = .ok (.iinc 3 1, 3) := by decide +kernel
theorem dX6_age_169 : decode cX6_age 169 = .ok (.goto (-23), 3) := by decide +kernel
theorem dX6_age_172 : decode cX6_age 172 = .ok (.iload_n 2, 1) := by decide +kernel
theorem dX6_age_173 : decode cX6_age 173 = .ok (.ireturn, 1) := by decide +kernel
theorem dX6_swollen_0 : decode cX6_swollen 0 = .ok (.aload_n 0, 1) := by decide +kernel
theorem dX6_swollen_1 : decode cX6_swollen 1 = .ok (.getfield 72, 3) := by decide +kernel
theorem dX6_swollen_4 : decode cX6_swollen 4 = .ok (.iload_n 1, 1) := by decide +kernel
theorem dX6_swollen_5 : decode cX6_swollen 5 = .ok (.iaload, 1) := by decide +kernel
theorem dX6_swollen_6 : decode cX6_swollen 6 = .ok (.aload_n 0, 1) := by decide +kernel
theorem dX6_swollen_7 : decode cX6_swollen 7 = .ok (.getfield 48, 3) := by decide +kernel
theorem dX6_swollen_10 : decode cX6_swollen 10 = .ok (.aload_n 0, 1) := by decide +kernel
theorem dX6_swollen_11 : decode cX6_swollen 11 = .ok (.getfield 66, 3) := by decide +kernel
theorem dX6_swollen_14 : decode cX6_swollen 14 = .ok (.iload_n 1, 1) := by decide +kernel
theorem dX6_swollen_15 : decode cX6_swollen 15 = .ok (.iaload, 1) := by decide +kernel
theorem dX6_swollen_16 : decode cX6_swollen 16 = .ok (.iaload, 1) := by decide +kernel
theorem dX6_swollen_17 : decode cX6_swollen 17 = .ok (.imul, 1) := by decide +kernel
theorem dX6_swollen_18 : decode cX6_swollen 18 = .ok (.sipush 1000, 3) := by decide +kernel
theorem dX6_swollen_21 : decode cX6_swollen 21 = .ok (.idiv, 1) := by decide +kernel
theorem dX6_swollen_22 : decode cX6_swollen 22 = .ok (.istore_n 2, 1) := by decide +kernel
theorem dX6_swollen_23 : decode cX6_swollen 23 = .ok (.aload_n 0, 1) := by decide +kernel
theorem dX6_swollen_24 : decode cX6_swollen 24 = .ok (.getfield 72, 3) := by decide +kernel
theorem dX6_swollen_27 : decode cX6_swollen 27 = .ok (.iload_n 1, 1) := by decide +kernel
theorem dX6_swollen_28 : decode cX6_swollen 28 = .ok (.iaload, 1) := by decide +kernel
theorem dX6_swollen_29 : decode cX6_swollen 29 = .ok (.iload_n 2, 1) := by decide +kernel
theorem dX6_swollen_30 : decode cX6_swollen 30 = .ok (.iadd, 1) := by decide +kernel
theorem dX6_swollen_31 : decode cX6_swollen 31 = .ok (.sipush 800, 3) := by decide +kernel
theorem dX6_swollen_34 : decode cX6_swollen 34 = .ok (.if_icmp .le 16, 3) := by decide +kernel
theorem dX6_swollen_37 : decode cX6_swollen 37 = .ok (.sipush 800, 3) := by decide +kernel
theorem dX6_swollen_40 : decode cX6_swollen 40 = .ok (.aload_n 0, 1) := by decide +kernel
theorem dX6_swollen_41 : decode cX6_swollen 41 = .ok (.getfield 72, 3) := by decide +kernel
theorem dX6_swollen_44 : decode cX6_swollen 44 = .ok (.iload_n 1, 1) := by decide +kernel
theorem dX6_swollen_45 : decode cX6_swollen 45 = .ok (.iaload, 1) := by decide +kernel
theorem dX6_swollen_46 : decode cX6_swollen 46 = .ok (.isub, 1) := by decide +kernel
theorem dX6_swollen_47 : decode cX6_swollen 47 = .ok (.goto 4, 3) := by decide +kernel
theorem dX6_swollen_50 : decode cX6_swollen 50 = .ok (.iload_n 2, 1) := by decide +kernel
theorem dX6_swollen_51 : decode cX6_swollen 51 = .ok (.ireturn, 1) := by decide +kernel
theorem dX6_swell_0 : decode cX6_swell 0 = .ok (.iconst 0, 1) := by decide +kernel
theorem dX6_swell_1 : decode cX6_swell 1 = .ok (.istore_n 1, 1) := by decide +kernel
theorem dX6_swell_2 : decode cX6_swell 2 = .ok (.iconst 0, 1) := by decide +kernel
theorem dX6_swell_3 : decode cX6_swell 3 = .ok (.istore_n 2, 1) := by decide +kernel
theorem dX6_swell_4 : decode cX6_swell 4 = .ok (.iload_n 2, 1) := by decide +kernel
theorem dX6_swell_5 : decode cX6_swell 5 = .ok (.iconst 4, 1) := by decide +kernel
theorem dX6_swell_6 : decode cX6_swell 6 = .ok (.if_icmp .ge 37, 3) := by decide +kernel
theorem dX6_swell_9 : decode cX6_swell 9 = .ok (.aload_n 0, 1) := by decide +kernel
theorem dX6_swell_10 : decode cX6_swell 10 = .ok (.iload_n 2, 1) := by decide +kernel
theorem dX6_swell_11 : decode cX6_swell 11 = .ok (.invokevirtual 204, 3) := by decide +kernel
theorem dX6_swell_14 : decode cX6_swell 14 = .ok (.ifCond .eq 23, 3) := by decide +kernel
theorem dX6_swell_17 : decode cX6_swell 17 = .ok (.aload_n 0, 1) := by decide +kernel
theorem dX6_swell_18 : decode cX6_swell 18 = .ok (.iload_n 2, 1) := by decide +kernel
theorem dX6_swell_19 : decode cX6_swell 19 = .ok (.invokevirtual 291, 3) := by decide +kernel
theorem dX6_swell_22 : decode cX6_swell 22 = .ok (.istore_n 3, 1) := by decide +kernel
theorem dX6_swell_23 : decode cX6_swell 23 = .ok (.aload_n 0, 1) := by decide +kernel
theorem dX6_swell_24 : decode cX6_swell 24 = .ok (.getfield 72, 3) := by decide +kernel
theorem dX6_swell_27 : decode cX6_swell 27 = .ok (.iload_n 2, 1) := by decide +kernel
theorem dX6_swell_28 : decode cX6_swell 28 = .ok (.dup2, 1) := by decide +kernel
theorem dX6_swell_29 : decode cX6_swell 29 = .ok (.iaload, 1) := by decide +kernel
theorem dX6_swell_30 : decode cX6_swell 30 = .ok (.iload_n 3, 1) := by decide +kernel
theorem dX6_swell_31 : decode cX6_swell 31 = .ok (.iadd, 1) := by decide +kernel
theorem dX6_swell_32 : decode cX6_swell 32 = .ok (.iastore, 1) := by decide +kernel
theorem dX6_swell_33 : decode cX6_swell 33 = .ok (.iload_n 1, 1) := by decide +kernel
theorem dX6_swell_34 : decode cX6_swell 34 = .ok (.iload_n 3, 1) := by decide +kernel
theorem dX6_swell_35 : decode cX6_swell 35 = .ok (.iadd, 1) := by decide +kernel
theorem dX6_swell_36 : decode cX6_swell 36 = .ok (.istore_n 1, 1) := by decide +kernel
theorem dX6_swell_37 : decode cX6_swell 37 = .ok (.iinc 2 1, 3) := by decide +kernel
theorem dX6_swell_40 : decode cX6_swell 40 = .ok (.goto (-36), 3) := by decide +kernel
theorem dX6_swell_43 : decode cX6_swell 43 = .ok (.iload_n 1, 1) := by decide +kernel
theorem dX6_swell_44 : decode cX6_swell 44 = .ok (.ireturn, 1) := by decide +kernel
theorem dX6_renew_0 : decode cX6_renew 0 = .ok (.aload_n 0, 1) := by decide +kernel
theorem dX6_renew_1 : decode cX6_renew 1 = .ok (.iconst 1, 1) := by decide +kernel
theorem dX6_renew_2 : decode cX6_renew 2 = .ok (.iload_n 1, 1) := by decide +kernel
theorem dX6_renew_3 : decode cX6_renew 3 = .ok (.invokevirtual 201, 3) := by decide +kernel
theorem dX6_renew_6 : decode cX6_renew 6 = .ok (.istore_n 2, 1) := by decide +kernel
theorem dX6_renew_7 : decode cX6_renew 7 = .ok (.iload_n 2, 1) := by decide +kernel
theorem dX6_renew_8 : decode cX6_renew 8 = .ok (.ifCond .ge 5, 3) := by decide +kernel
theorem dX6_renew_11 : decode cX6_renew 11 = .ok (.iload_n 2, 1) := by decide +kernel
theorem dX6_renew_12 : decode cX6_renew 12 = .ok (.ireturn, 1) := by decide +kernel
theorem dX6_renew_13 : decode cX6_renew 13 = .ok (.aload_n 0, 1) := by decide +kernel
theorem dX6_renew_14 : decode cX6_renew 14 = .ok (.getfield 69, 3) := by decide +kernel
theorem dX6_renew_17 : decode cX6_renew 17 = .ok (.iload_n 1, 1) := by decide +kernel
theorem dX6_renew_18 : decode cX6_renew 18 = .ok (.iaload, 1) := by decide +kernel
theorem dX6_renew_19 : decode cX6_renew 19 = .ok (.aload_n 0, 1) := by decide +kernel
theorem dX6_renew_20 : decode cX6_renew 20 = .ok (.getfield 72, 3) := by decide +kernel
theorem dX6_renew_23 : decode cX6_renew 23 = .ok (.iload_n 1, 1) := by decide +kernel
theorem dX6_renew_24 : decode cX6_renew 24 = .ok (.iaload, 1) := by decide +kernel
theorem dX6_renew_25 : decode cX6_renew 25 = .ok (.isub, 1) := by decide +kernel
theorem dX6_renew_26 : decode cX6_renew 26 = .ok (.istore_n 3, 1) := by decide +kernel
theorem dX6_renew_27 : decode cX6_renew 27 = .ok (.aload_n 0, 1) := by decide +kernel
theorem dX6_renew_28 : decode cX6_renew 28 = .ok (.getfield 72, 3) := by decide +kernel
theorem dX6_renew_31 : decode cX6_renew 31 = .ok (.iload_n 1, 1) := by decide +kernel
theorem dX6_renew_32 : decode cX6_renew 32 = .ok (.aload_n 0, 1) := by decide +kernel
theorem dX6_renew_33 : decode cX6_renew 33 = .ok (.getfield 69, 3) := by decide +kernel
theorem dX6_renew_36 : decode cX6_renew 36 = .ok (.iload_n 1, 1) := by decide +kernel
theorem dX6_renew_37 : decode cX6_renew 37 = .ok (.iaload, 1) := by decide +kernel
theorem dX6_renew_38 : decode cX6_renew 38 = .ok (.iastore, 1) := by decide +kernel
theorem dX6_renew_39 : decode cX6_renew 39 = .ok (.aload_n 0, 1) := by decide +kernel
theorem dX6_renew_40 : decode cX6_renew 40 = .ok (.getfield 78, 3) := by decide +kernel
theorem dX6_renew_43 : decode cX6_renew 43 = .ok (.iload_n 1, 1) := by decide +kernel
theorem dX6_renew_44 : decode cX6_renew 44 = .ok (.iconst 0, 1) := by decide +kernel
theorem dX6_renew_45 : decode cX6_renew 45 = .ok (.iastore, 1) := by decide +kernel
theorem dX6_renew_46 : decode cX6_renew 46 = .ok (.aload_n 0, 1) := by decide +kernel
theorem dX6_renew_47 : decode cX6_renew 47 = .ok (.iload_n 3, 1) := by decide +kernel
theorem dX6_renew_48 : decode cX6_renew 48 = .ok (.iconst 1, 1) := by decide +kernel
theorem dX6_renew_49 : decode cX6_renew 49 = .ok (.invokevirtual 130, 3) := by decide +kernel
theorem dX6_renew_52 : decode cX6_renew 52 = .ok (.ireturn, 1) := by decide +kernel
theorem dX6_blown_0 : decode cX6_blown 0 = .ok (.aload_n 0, 1) := by decide +kernel
theorem dX6_blown_1 : decode cX6_blown 1 = .ok (.iconst 1, 1) := by decide +kernel
theorem dX6_blown_2 : decode cX6_blown 2 = .ok (.iload_n 1, 1) := by decide +kernel
theorem dX6_blown_3 : decode cX6_blown 3 = .ok (.invokevirtual 267, 3) := by decide +kernel
theorem dX6_blown_6 : decode cX6_blown 6 = .ok (.istore_n 2, 1) := by decide +kernel
theorem dX6_blown_7 : decode cX6_blown 7 = .ok (.iload_n 2, 1) := by decide +kernel
theorem dX6_blown_8 : decode cX6_blown 8 = .ok (.ifCond .ge 5, 3) := by decide +kernel
theorem dX6_blown_11 : decode cX6_blown 11 = .ok (.iload_n 2, 1) := by decide +kernel
theorem dX6_blown_12 : decode cX6_blown 12 = .ok (.ireturn, 1) := by decide +kernel
theorem dX6_blown_13 : decode cX6_blown 13 = .ok (.aload_n 0, 1) := by decide +kernel
theorem dX6_blown_14 : decode cX6_blown 14 = .ok (.getfield 63, 3) := by decide +kernel
theorem dX6_blown_17 : decode cX6_blown 17 = .ok (.iload_n 1, 1) := by decide +kernel
theorem dX6_blown_18 : decode cX6_blown 18 = .ok (.iaload, 1) := by decide +kernel
theorem dX6_blown_19 : decode cX6_blown 19 = .ok (.iconst 4, 1) := by decide +kernel
theorem dX6_blown_20 : decode cX6_blown 20 = .ok (.if_icmp .ne 15, 3) := by decide +kernel
theorem dX6_blown_23 : decode cX6_blown 23 = .ok (.aload_n 0, 1) := by decide +kernel
theorem dX6_blown_24 : decode cX6_blown 24 = .ok (.getfield 81, 3) := by decide +kernel
theorem dX6_blown_27 : decode cX6_blown 27 = .ok (.iload_n 1, 1) := by decide +kernel
theorem dX6_blown_28 : decode cX6_blown 28 = .ok (.dup2, 1) := by decide +kernel
theorem dX6_blown_29 : decode cX6_blown 29 = .ok (.iaload, 1) := by decide +kernel
theorem dX6_blown_30 : decode cX6_blown 30 = .ok (.iconst 1, 1) := by decide +kernel
theorem dX6_blown_31 : decode cX6_blown 31 = .ok (.iadd, 1) := by decide +kernel
theorem dX6_blown_32 : decode cX6_blown 32 = .ok (.iastore, 1) := by decide +kernel
theorem dX6_blown_33 : decode cX6_blown 33 = .ok (.iconst 0, 1) := by decide +kernel
theorem dX6_blown_34 : decode cX6_blown 34 = .ok (.ireturn, 1) := by decide +kernel
theorem dX6_blown_35 : decode cX6_blown 35 = .ok (.aload_n 0, 1) := by decide +kernel
theorem dX6_blown_36 : decode cX6_blown 36 = .ok (.aload_n 0, 1) := by decide +kernel
theorem dX6_blown_37 : decode cX6_blown 37 = .ok (.getfield 66, 3) := by decide +kernel
theorem dX6_blown_40 : decode cX6_blown 40 = .ok (.iload_n 1, 1) := by decide +kernel
theorem dX6_blown_41 : decode cX6_blown 41 = .ok (.iaload, 1) := by decide +kernel
theorem dX6_blown_42 : decode cX6_blown 42 = .ok (.ldc2_w 294, 3) := by decide +kernel
theorem dX6_blown_45 : decode cX6_blown 45 = .ok (.lconst 1, 1) := by decide +kernel
theorem dX6_blown_46 : decode cX6_blown 46 = .ok (.invokevirtual 187, 3) := by decide +kernel
theorem dX6_blown_49 : decode cX6_blown 49 = .ok (.aload_n 0, 1) := by decide +kernel
theorem dX6_blown_50 : decode cX6_blown 50 = .ok (.getfield 220, 3) := by decide +kernel
theorem dX6_blown_53 : decode cX6_blown 53 = .ok (.i2l, 1) := by decide +kernel
theorem dX6_blown_54 : decode cX6_blown 54 = .ok (.aload_n 0, 1) := by decide +kernel
theorem dX6_blown_55 : decode cX6_blown 55 = .ok (.getfield 223, 3) := by decide +kernel
theorem dX6_blown_58 : decode cX6_blown 58 = .ok (.i2l, 1) := by decide +kernel
theorem dX6_blown_59 : decode cX6_blown 59 = .ok (.lmul, 1) := by decide +kernel
theorem dX6_blown_60 : decode cX6_blown 60 = .ok (.aload_n 0, 1) := by decide +kernel
theorem dX6_blown_61 : decode cX6_blown 61 = .ok (.getfield 184, 3) := by decide +kernel
theorem dX6_blown_64 : decode cX6_blown 64 = .ok (.lmul, 1) := by decide +kernel
theorem dX6_blown_65 : decode cX6_blown 65 = .ok (.ldc2_w 289, 3) := by decide +kernel
theorem dX6_blown_68 : decode cX6_blown 68 = .ok (.aload_n 0, 1) := by decide +kernel
theorem dX6_blown_69 : decode cX6_blown 69 = .ok (.getfield 181, 3) := by decide +kernel
theorem dX6_blown_72 : decode cX6_blown 72 = .ok (.lmul, 1) := by decide +kernel
theorem dX6_blown_73 : decode cX6_blown 73 = .ok (.lcmp, 1) := by decide +kernel
theorem dX6_blown_74 : decode cX6_blown 74 = .ok (.ifCond .le 7, 3) := by decide +kernel
theorem dX6_blown_77 : decode cX6_blown 77 = .ok (.iconst 1, 1) := by decide +kernel
theorem dX6_blown_78 : decode cX6_blown 78 = .ok (.goto 4, 3) := by decide +kernel
theorem dX6_blown_81 : decode cX6_blown 81 = .ok (.iconst 0, 1) := by decide +kernel
theorem dX6_blown_82 : decode cX6_blown 82 = .ok (.ireturn, 1) := by decide +kernel
theorem dX6_keepAll_0 : decode cX6_keepAll 0 = .ok (.iconst 0, 1) := by decide +kernel
theorem dX6_keepAll_1 : decode cX6_keepAll 1 = .ok (.istore_n 1, 1) := by decide +kernel
theorem dX6_keepAll_2 : decode cX6_keepAll 2 = .ok (.iload_n 1, 1) := by decide +kernel
theorem dX6_keepAll_3 : decode cX6_keepAll 3 = .ok (.iconst 4, 1) := by decide +kernel
theorem dX6_keepAll_4 : decode cX6_keepAll 4 = .ok (.if_icmp .ge 21, 3) := by decide +kernel
theorem dX6_keepAll_7 : decode cX6_keepAll 7 = .ok (.aload_n 0, 1) := by decide +kernel
theorem dX6_keepAll_8 : decode cX6_keepAll 8 = .ok (.getfield 87, 3) := by decide +kernel
theorem dX6_keepAll_11 : decode cX6_keepAll 11 = .ok (.iload_n 1, 1) := by decide +kernel
theorem dX6_keepAll_12 : decode cX6_keepAll 12 = .ok (.aload_n 0, 1) := by decide +kernel
theorem dX6_keepAll_13 : decode cX6_keepAll 13 = .ok (.getfield 72, 3) := by decide +kernel
theorem dX6_keepAll_16 : decode cX6_keepAll 16 = .ok (.iload_n 1, 1) := by decide +kernel
theorem dX6_keepAll_17 : decode cX6_keepAll 17 = .ok (.iaload, 1) := by decide +kernel
theorem dX6_keepAll_18 : decode cX6_keepAll 18 = .ok (.iastore, 1) := by decide +kernel
theorem dX6_keepAll_19 : decode cX6_keepAll 19 = .ok (.iinc 1 1, 3) := by decide +kernel
theorem dX6_keepAll_22 : decode cX6_keepAll 22 = .ok (.goto (-20), 3) := by decide +kernel
theorem dX6_keepAll_25 : decode cX6_keepAll 25 = .ok (.aload_n 0, 1) := by decide +kernel
theorem dX6_keepAll_26 : decode cX6_keepAll 26 = .ok (.aload_n 0, 1) := by decide +kernel
theorem dX6_keepAll_27 : decode cX6_keepAll 27 = .ok (.getfield 217, 3) := by decide +kernel
theorem dX6_keepAll_30 : decode cX6_keepAll 30 = .ok (.putfield 296, 3) := by decide +kernel
theorem dX6_keepAll_33 : decode cX6_keepAll 33 = .ok (.return_, 1) := by decide +kernel
theorem dX6_putBack_0 : decode cX6_putBack 0 = .ok (.iconst 0, 1) := by decide +kernel
theorem dX6_putBack_1 : decode cX6_putBack 1 = .ok (.istore_n 1, 1) := by decide +kernel
theorem dX6_putBack_2 : decode cX6_putBack 2 = .ok (.iload_n 1, 1) := by decide +kernel
theorem dX6_putBack_3 : decode cX6_putBack 3 = .ok (.iconst 4, 1) := by decide +kernel
theorem dX6_putBack_4 : decode cX6_putBack 4 = .ok (.if_icmp .ge 21, 3) := by decide +kernel
theorem dX6_putBack_7 : decode cX6_putBack 7 = .ok (.aload_n 0, 1) := by decide +kernel
theorem dX6_putBack_8 : decode cX6_putBack 8 = .ok (.getfield 72, 3) := by decide +kernel
theorem dX6_putBack_11 : decode cX6_putBack 11 = .ok (.iload_n 1, 1) := by decide +kernel
theorem dX6_putBack_12 : decode cX6_putBack 12 = .ok (.aload_n 0, 1) := by decide +kernel
theorem dX6_putBack_13 : decode cX6_putBack 13 = .ok (.getfield 87, 3) := by decide +kernel
theorem dX6_putBack_16 : decode cX6_putBack 16 = .ok (.iload_n 1, 1) := by decide +kernel
theorem dX6_putBack_17 : decode cX6_putBack 17 = .ok (.iaload, 1) := by decide +kernel
theorem dX6_putBack_18 : decode cX6_putBack 18 = .ok (.iastore, 1) := by decide +kernel
theorem dX6_putBack_19 : decode cX6_putBack 19 = .ok (.iinc 1 1, 3) := by decide +kernel
theorem dX6_putBack_22 : decode cX6_putBack 22 = .ok (.goto (-20), 3) := by decide +kernel
theorem dX6_putBack_25 : decode cX6_putBack 25 = .ok (.aload_n 0, 1) := by decide +kernel
theorem dX6_putBack_26 : decode cX6_putBack 26 = .ok (.aload_n 0, 1) := by decide +kernel
theorem dX6_putBack_27 : decode cX6_putBack 27 = .ok (.getfield 296, 3) := by decide +kernel
theorem dX6_putBack_30 : decode cX6_putBack 30 = .ok (.putfield 217, 3) := by decide +kernel
theorem dX6_putBack_33 : decode cX6_putBack 33 = .ok (.return_, 1) := by decide +kernel
theorem dX6_layEnd_0 : decode cX6_layEnd 0 = .ok (.iconst 0, 1) := by decide +kernel
theorem dX6_layEnd_1 : decode cX6_layEnd 1 = .ok (.istore 4, 2) := by decide +kernel
theorem dX6_layEnd_3 : decode cX6_layEnd 3 = .ok (.iload 4, 2) := by decide +kernel
theorem dX6_layEnd_5 : decode cX6_layEnd 5 = .ok (.iconst 4, 1) := by decide +kernel
theorem dX6_layEnd_6 : decode cX6_layEnd 6 = .ok (.if_icmp .ge 65, 3) := by decide +kernel
theorem dX6_layEnd_9 : decode cX6_layEnd 9 = .ok (.aload_n 0, 1) := by decide +kernel
theorem dX6_layEnd_10 : decode cX6_layEnd 10 = .ok (.getfield 72, 3) := by decide +kernel
theorem dX6_layEnd_13 : decode cX6_layEnd 13 = .ok (.iload 4, 2) := by decide +kernel
theorem dX6_layEnd_15 : decode cX6_layEnd 15 = .ok (.aload_n 0, 1) := by decide +kernel
theorem dX6_layEnd_16 : decode cX6_layEnd 16 = .ok (.iload 4, 2) := by decide +kernel
theorem dX6_layEnd_18 : decode cX6_layEnd 18 = .ok (.invokevirtual 204, 3) := by decide +kernel
theorem dX6_layEnd_21 : decode cX6_layEnd 21 = .ok (.ifCond .ne 13, 3) := by decide +kernel
theorem dX6_layEnd_24 : decode cX6_layEnd 24 = .ok (.aload_n 0, 1) := by decide +kernel
theorem dX6_layEnd_25 : decode cX6_layEnd 25 = .ok (.getfield 87, 3) := by decide +kernel
theorem dX6_layEnd_28 : decode cX6_layEnd 28 = .ok (.iload 4, 2) := by decide +kernel
theorem dX6_layEnd_30 : decode cX6_layEnd 30 = .ok (.iaload, 1) := by decide +kernel
theorem dX6_layEnd_31 : decode cX6_layEnd 31 = .ok (.goto 33, 3) := by decide +kernel
theorem dX6_layEnd_34 : decode cX6_layEnd 34 = .ok (.iload_n 1, 1) := by decide +kernel
theorem dX6_layEnd_35 : decode cX6_layEnd 35 = .ok (.iload 4, 2) := by decide +kernel
theorem dX6_layEnd_37 : decode cX6_layEnd 37 = .ok (.invokestatic 286, 3) := by decide +kernel
theorem dX6_layEnd_40 : decode cX6_layEnd 40 = .ok (.ifCond .eq 15, 3) := by decide +kernel
theorem dX6_layEnd_43 : decode cX6_layEnd 43 = .ok (.aload_n 0, 1) := by decide +kernel
theorem dX6_layEnd_44 : decode cX6_layEnd 44 = .ok (.getfield 87, 3) := by decide +kernel
theorem dX6_layEnd_47 : decode cX6_layEnd 47 = .ok (.iload 4, 2) := by decide +kernel
theorem dX6_layEnd_49 : decode cX6_layEnd 49 = .ok (.iaload, 1) := by decide +kernel
theorem dX6_layEnd_50 : decode cX6_layEnd 50 = .ok (.iload_n 2, 1) := by decide +kernel
theorem dX6_layEnd_51 : decode cX6_layEnd 51 = .ok (.iadd, 1) := by decide +kernel
theorem dX6_layEnd_52 : decode cX6_layEnd 52 = .ok (.goto 12, 3) := by decide +kernel
theorem dX6_layEnd_55 : decode cX6_layEnd 55 = .ok (.aload_n 0, 1) := by decide +kernel
theorem dX6_layEnd_56 : decode cX6_layEnd 56 = .ok (.getfield 87, 3) := by decide +kernel
theorem dX6_layEnd_59 : decode cX6_layEnd 59 = .ok (.iload 4, 2) := by decide +kernel
theorem dX6_layEnd_61 : decode cX6_layEnd 61 = .ok (.iaload, 1) := by decide +kernel
theorem dX6_layEnd_62 : decode cX6_layEnd 62 = .ok (.iload_n 2, 1) := by decide +kernel
theorem dX6_layEnd_63 : decode cX6_layEnd 63 = .ok (.isub, 1) := by decide +kernel
theorem dX6_layEnd_64 : decode cX6_layEnd 64 = .ok (.iastore, 1) := by decide +kernel
theorem dX6_layEnd_65 : decode cX6_layEnd 65 = .ok (.iinc 4 1, 3) := by decide +kernel
theorem dX6_layEnd_68 : decode cX6_layEnd 68 = .ok (.goto (-65), 3) := by decide +kernel
theorem dX6_layEnd_71 : decode cX6_layEnd 71 = .ok (.aload_n 0, 1) := by decide +kernel
theorem dX6_layEnd_72 : decode cX6_layEnd 72 = .ok (.iload_n 1, 1) := by decide +kernel
theorem dX6_layEnd_73 : decode cX6_layEnd 73 = .ok (.iconst 4, 1) := by decide +kernel
theorem dX6_layEnd_74 : decode cX6_layEnd 74 = .ok (.invokestatic 286, 3) := by decide +kernel
theorem dX6_layEnd_77 : decode cX6_layEnd 77 = .ok (.ifCond .eq 12, 3) := by decide +kernel
theorem dX6_layEnd_80 : decode cX6_layEnd 80 = .ok (.aload_n 0, 1) := by decide +kernel
theorem dX6_layEnd_81 : decode cX6_layEnd 81 = .ok (.getfield 296, 3) := by decide +kernel
theorem dX6_layEnd_84 : decode cX6_layEnd 84 = .ok (.iload_n 3, 1) := by decide +kernel
theorem dX6_layEnd_85 : decode cX6_layEnd 85 = .ok (.iadd, 1) := by decide +kernel
theorem dX6_layEnd_86 : decode cX6_layEnd 86 = .ok (.goto 9, 3) := by decide +kernel
theorem dX6_layEnd_89 : decode cX6_layEnd 89 = .ok (.aload_n 0, 1) := by decide +kernel
theorem dX6_layEnd_90 : decode cX6_layEnd 90 = .ok (.getfield 296, 3) := by decide +kernel
theorem dX6_layEnd_93 : decode cX6_layEnd 93 = .ok (.iload_n 3, 1) := by decide +kernel
theorem dX6_layEnd_94 : decode cX6_layEnd 94 = .ok (.isub, 1) := by decide +kernel
theorem dX6_layEnd_95 : decode cX6_layEnd 95 = .ok (.putfield 217, 3) := by decide +kernel
theorem dX6_layEnd_98 : decode cX6_layEnd 98 = .ok (.aload_n 0, 1) := by decide +kernel
theorem dX6_layEnd_99 : decode cX6_layEnd 99 = .ok (.aload_n 0, 1) := by decide +kernel
theorem dX6_layEnd_100 : decode cX6_layEnd 100 = .ok (.getfield 217, 3) := by decide +kernel
theorem dX6_layEnd_103 : decode cX6_layEnd 103 = .ok (.ifCond .ge 7, 3) := by decide +kernel
theorem dX6_layEnd_106 : decode cX6_layEnd 106 = .ok (.iconst 0, 1) := by decide +kernel
theorem dX6_layEnd_107 : decode cX6_layEnd 107 = .ok (.goto 7, 3) := by decide +kernel
theorem dX6_layEnd_110 : decode cX6_layEnd 110 = .ok (.aload_n 0, 1) := by decide +kernel
theorem dX6_layEnd_111 : decode cX6_layEnd 111 = .ok (.getfield 217, 3) := by decide +kernel
theorem dX6_layEnd_114 : decode cX6_layEnd 114 = .ok (.putfield 217, 3) := by decide +kernel
theorem dX6_layEnd_117 : decode cX6_layEnd 117 = .ok (.return_, 1) := by decide +kernel
theorem dX6_areEnds_0 : decode cX6_areEnds 0 = .ok (.iload_n 0, 1) := by decide +kernel
theorem dX6_areEnds_1 : decode cX6_areEnds 1 = .ok (.iconst 0, 1) := by decide +kernel
theorem dX6_areEnds_2 : decode cX6_areEnds 2 = .ok (.bipush 20, 2) := by decide +kernel
theorem dX6_areEnds_4 : decode cX6_areEnds 4 = .ok (.invokestatic 104, 3) := by decide +kernel
theorem dX6_areEnds_7 : decode cX6_areEnds 7 = .ok (.ifCond .eq 18, 3) := by decide +kernel
theorem dX6_areEnds_10 : decode cX6_areEnds 10 = .ok (.iload_n 1, 1) := by decide +kernel
theorem dX6_areEnds_11 : decode cX6_areEnds 11 = .ok (.iconst 0, 1) := by decide +kernel
theorem dX6_areEnds_12 : decode cX6_areEnds 12 = .ok (.sipush 999, 3) := by decide +kernel
theorem dX6_areEnds_15 : decode cX6_areEnds 15 = .ok (.invokestatic 104, 3) := by decide +kernel
theorem dX6_areEnds_18 : decode cX6_areEnds 18 = .ok (.ifCond .eq 7, 3) := by decide +kernel
theorem dX6_areEnds_21 : decode cX6_areEnds 21 = .ok (.iconst 1, 1) := by decide +kernel
theorem dX6_areEnds_22 : decode cX6_areEnds 22 = .ok (.goto 4, 3) := by decide +kernel
theorem dX6_areEnds_25 : decode cX6_areEnds 25 = .ok (.iconst 0, 1) := by decide +kernel
theorem dX6_areEnds_26 : decode cX6_areEnds 26 = .ok (.ireturn, 1) := by decide +kernel
theorem dX6_ends_0 : decode cX6_ends 0 = .ok (.aload_n 0, 1) := by decide +kernel
theorem dX6_ends_1 : decode cX6_ends 1 = .ok (.iload_n 2, 1) := by decide +kernel
theorem dX6_ends_2 : decode cX6_ends 2 = .ok (.iload_n 3, 1) := by decide +kernel
theorem dX6_ends_3 : decode cX6_ends 3 = .ok (.invokestatic 299, 3) := by decide +kernel
theorem dX6_ends_6 : decode cX6_ends 6 = .ok (.iload_n 1, 1) := by decide +kernel
theorem dX6_ends_7 : decode cX6_ends 7 = .ok (.invokevirtual 267, 3) := by decide +kernel
theorem dX6_ends_10 : decode cX6_ends 10 = .ok (.istore 4, 2) := by decide +kernel
theorem dX6_ends_12 : decode cX6_ends 12 = .ok (.iload 4, 2) := by decide +kernel
theorem dX6_ends_14 : decode cX6_ends 14 = .ok (.ifCond .ge 6, 3) := by decide +kernel
theorem dX6_ends_17 : decode cX6_ends 17 = .ok (.iload 4, 2) := by decide +kernel
theorem dX6_ends_19 : decode cX6_ends 19 = .ok (.ireturn, 1) := by decide +kernel
theorem dX6_ends_20 : decode cX6_ends 20 = .ok (.aload_n 0, 1) := by decide +kernel
theorem dX6_ends_21 : decode cX6_ends 21 = .ok (.invokevirtual 302, 3) := by decide +kernel
theorem dX6_ends_24 : decode cX6_ends 24 = .ok (.ldc2_w 305, 3) := by decide +kernel
theorem dX6_ends_27 : decode cX6_ends 27 = .ok (.lstore 5, 2) := by decide +kernel
theorem dX6_ends_29 : decode cX6_ends 29 = .ok (.ldc2_w 305, 3) := by decide +kernel
theorem dX6_ends_32 : decode cX6_ends 32 = .ok (.lstore 7, 2) := by decide +kernel
theorem dX6_ends_34 : decode cX6_ends 34 = .ok (.iconst 0, 1) := by decide +kernel
theorem dX6_ends_35 : decode cX6_ends 35 = .ok (.istore 9, 2) := by decide +kernel
theorem dX6_ends_37 : decode cX6_ends 37 = .ok (.iload 9, 2) := by decide +kernel
theorem dX6_ends_39 : decode cX6_ends 39 = .ok (.bipush 32, 2) := by decide +kernel
theorem dX6_ends_41 : decode cX6_ends 41 = .ok (.if_icmp .ge 78, 3) := by decide +kernel
theorem dX6_ends_44 : decode cX6_ends 44 = .ok (.aload_n 0, 1) := by decide +kernel
theorem dX6_ends_45 : decode cX6_ends 45 = .ok (.iload 9, 2) := by decide +kernel
theorem dX6_ends_47 : decode cX6_ends 47 = .ok (.iload_n 2, 1) := by decide +kernel
theorem dX6_ends_48 : decode cX6_ends 48 = .ok (.iload_n 3, 1) := by decide +kernel
theorem dX6_ends_49 : decode cX6_ends 49 = .ok (.invokevirtual 307, 3) := by decide +kernel
theorem dX6_ends_52 : decode cX6_ends 52 = .ok (.aload_n 0, 1) := by decide +kernel
theorem dX6_ends_53 : decode cX6_ends 53 = .ok (.invokevirtual 255, 3) := by decide +kernel
theorem dX6_ends_56 : decode cX6_ends 56 = .ok (.aload_n 0, 1) := by decide +kernel
theorem dX6_ends_57 : decode cX6_ends 57 = .ok (.iload_n 1, 1) := by decide +kernel
theorem dX6_ends_58 : decode cX6_ends 58 = .ok (.invokevirtual 270, 3) := by decide +kernel
theorem dX6_ends_61 : decode cX6_ends 61 = .ok (.aload_n 0, 1) := by decide +kernel
theorem dX6_ends_62 : decode cX6_ends 62 = .ok (.getfield 261, 3) := by decide +kernel
theorem dX6_ends_65 : decode cX6_ends 65 = .ok (.aload_n 0, 1) := by decide +kernel
theorem dX6_ends_66 : decode cX6_ends 66 = .ok (.getfield 264, 3) := by decide +kernel
theorem dX6_ends_69 : decode cX6_ends 69 = .ok (.ldiv, 1) := by decide +kernel
theorem dX6_ends_70 : decode cX6_ends 70 = .ok (.lstore 10, 2) := by decide +kernel
theorem dX6_ends_72 : decode cX6_ends 72 = .ok (.lload 5, 2) := by decide +kernel
theorem dX6_ends_74 : decode cX6_ends 74 = .ok (.lconst 0, 1) := by decide +kernel
theorem dX6_ends_75 : decode cX6_ends 75 = .ok (.lcmp, 1) := by decide +kernel
theorem dX6_ends_76 : decode cX6_ends 76 = .ok (.ifCond .lt 11, 3) := by decide +kernel
theorem dX6_ends_79 : decode cX6_ends 79 = .ok (.lload 10, 2) := by decide +kernel
theorem dX6_ends_81 : decode cX6_ends 81 = .ok (.lload 5, 2) := by decide +kernel
theorem dX6_ends_83 : decode cX6_ends 83 = .ok (.lcmp, 1) := by decide +kernel
theorem dX6_ends_84 : decode cX6_ends 84 = .ok (.ifCond .ge 8, 3) := by decide +kernel
theorem dX6_ends_87 : decode cX6_ends 87 = .ok (.lload 10, 2) := by decide +kernel
theorem dX6_ends_89 : decode cX6_ends 89 = .ok (.goto 5, 3) := by decide +kernel
theorem dX6_ends_92 : decode cX6_ends 92 = .ok (.lload 5, 2) := by decide +kernel
theorem dX6_ends_94 : decode cX6_ends 94 = .ok (.lstore 5, 2) := by decide +kernel
theorem dX6_ends_96 : decode cX6_ends 96 = .ok (.lload 10, 2) := by decide +kernel
theorem dX6_ends_98 : decode cX6_ends 98 = .ok (.lload 7, 2) := by decide +kernel
theorem dX6_ends_100 : decode cX6_ends 100 = .ok (.lcmp, 1) := by decide +kernel
theorem dX6_ends_101 : decode cX6_ends 101 = .ok (.ifCond .le 8, 3) := by decide +kernel
theorem dX6_ends_104 : decode cX6_ends 104 = .ok (.lload 10, 2) := by decide +kernel
theorem dX6_ends_106 : decode cX6_ends 106 = .ok (.goto 5, 3) := by decide +kernel
theorem dX6_ends_109 : decode cX6_ends 109 = .ok (.lload 7, 2) := by decide +kernel
theorem dX6_ends_111 : decode cX6_ends 111 = .ok (.lstore 7, 2) := by decide +kernel
theorem dX6_ends_113 : decode cX6_ends 113 = .ok (.iinc 9 1, 3) := by decide +kernel
theorem dX6_ends_116 : decode cX6_ends 116 = .ok (.goto (-79), 3) := by decide +kernel
theorem dX6_ends_119 : decode cX6_ends 119 = .ok (.aload_n 0, 1) := by decide +kernel
theorem dX6_ends_120 : decode cX6_ends 120 = .ok (.invokevirtual 311, 3) := by decide +kernel
theorem dX6_ends_123 : decode cX6_ends 123 = .ok (.aload_n 0, 1) := by decide +kernel
theorem dX6_ends_124 : decode cX6_ends 124 = .ok (.lload 7, 2) := by decide +kernel
theorem dX6_ends_126 : decode cX6_ends 126 = .ok (.l2i, 1) := by decide +kernel
theorem dX6_ends_127 : decode cX6_ends 127 = .ok (.lload 5, 2) := by decide +kernel
theorem dX6_ends_129 : decode cX6_ends 129 = .ok (.l2i, 1) := by decide +kernel
theorem dX6_ends_130 : decode cX6_ends 130 = .ok (.invokevirtual 130, 3) := by decide +kernel
theorem dX6_ends_133 : decode cX6_ends 133 = .ok (.ireturn, 1) := by decide +kernel
theorem dX6_sure_0 : decode cX6_sure 0 = .ok (.iload_n 1, 1) := by decide +kernel
theorem dX6_sure_1 : decode cX6_sure 1 = .ok (.iload_n 2, 1) := by decide +kernel
theorem dX6_sure_2 : decode cX6_sure 2 = .ok (.invokestatic 299, 3) := by decide +kernel
theorem dX6_sure_5 : decode cX6_sure 5 = .ok (.ifCond .ne 5, 3) := by decide +kernel
theorem dX6_sure_8 : decode cX6_sure 8 = .ok (.iconst (-1), 1) := by decide +kernel
theorem dX6_sure_9 : decode cX6_sure 9 = .ok (.ireturn, 1) := by decide +kernel
theorem dX6_sure_10 : decode cX6_sure 10 = .ok (.aload_n 0, 1) := by decide +kernel
theorem dX6_sure_11 : decode cX6_sure 11 = .ok (.invokevirtual 302, 3) := by decide +kernel
theorem dX6_sure_14 : decode cX6_sure 14 = .ok (.iconst 0, 1) := by decide +kernel
theorem dX6_sure_15 : decode cX6_sure 15 = .ok (.istore_n 3, 1) := by decide +kernel
theorem dX6_sure_16 : decode cX6_sure 16 = .ok (.iconst 0, 1) := by decide +kernel
theorem dX6_sure_17 : decode cX6_sure 17 = .ok (.istore 4, 2) := by decide +kernel
theorem dX6_sure_19 : decode cX6_sure 19 = .ok (.iload 4, 2) := by decide +kernel
theorem dX6_sure_21 : decode cX6_sure 21 = .ok (.bipush 32, 2) := by decide +kernel
theorem dX6_sure_23 : decode cX6_sure 23 = .ok (.if_icmp .ge 32, 3) := by decide +kernel
theorem dX6_sure_26 : decode cX6_sure 26 = .ok (.aload_n 0, 1) := by decide +kernel
theorem dX6_sure_27 : decode cX6_sure 27 = .ok (.iload 4, 2) := by decide +kernel
theorem dX6_sure_29 : decode cX6_sure 29 = .ok (.iload_n 1, 1) := by decide +kernel
theorem dX6_sure_30 : decode cX6_sure 30 = .ok (.iload_n 2, 1) := by decide +kernel
theorem dX6_sure_31 : decode cX6_sure 31 = .ok (.invokevirtual 307, 3) := by decide +kernel
theorem dX6_sure_34 : decode cX6_sure 34 = .ok (.iload_n 3, 1) := by decide +kernel
theorem dX6_sure_35 : decode cX6_sure 35 = .ok (.aload_n 0, 1) := by decide +kernel
theorem dX6_sure_36 : decode cX6_sure 36 = .ok (.invokevirtual 278, 3) := by decide +kernel
theorem dX6_sure_39 : decode cX6_sure 39 = .ok (.ifCond .ne 7, 3) := by decide +kernel
theorem dX6_sure_42 : decode cX6_sure 42 = .ok (.iconst 1, 1) := by decide +kernel
theorem dX6_sure_43 : decode cX6_sure 43 = .ok (.goto 4, 3) := by decide +kernel
theorem dX6_sure_46 : decode cX6_sure 46 = .ok (.iconst 0, 1) := by decide +kernel
theorem dX6_sure_47 : decode cX6_sure 47 = .ok (.iadd, 1) := by decide +kernel
theorem dX6_sure_48 : decode cX6_sure 48 = .ok (.istore_n 3, 1) := by decide +kernel
theorem dX6_sure_49 : decode cX6_sure 49 = .ok (.iinc 4 1, 3) := by decide +kernel
theorem dX6_sure_52 : decode cX6_sure 52 = .ok (.goto (-33), 3) := by decide +kernel
theorem dX6_sure_55 : decode cX6_sure 55 = .ok (.aload_n 0, 1) := by decide +kernel
theorem dX6_sure_56 : decode cX6_sure 56 = .ok (.invokevirtual 311, 3) := by decide +kernel
theorem dX6_sure_59 : decode cX6_sure 59 = .ok (.iload_n 3, 1) := by decide +kernel
theorem dX6_sure_60 : decode cX6_sure 60 = .ok (.bipush 32, 2) := by decide +kernel
theorem dX6_sure_62 : decode cX6_sure 62 = .ok (.if_icmp .ne 7, 3) := by decide +kernel
theorem dX6_sure_65 : decode cX6_sure 65 = .ok (.iconst 2, 1) := by decide +kernel
theorem dX6_sure_66 : decode cX6_sure 66 = .ok (.goto 12, 3) := by decide +kernel
theorem dX6_sure_69 : decode cX6_sure 69 = .ok (.iload_n 3, 1) := by decide +kernel
theorem dX6_sure_70 : decode cX6_sure 70 = .ok (.ifCond .le 7, 3) := by decide +kernel
theorem dX6_sure_73 : decode cX6_sure 73 = .ok (.iconst 1, 1) := by decide +kernel
theorem dX6_sure_74 : decode cX6_sure 74 = .ok (.goto 4, 3) := by decide +kernel
theorem dX6_sure_77 : decode cX6_sure 77 = .ok (.iconst 0, 1) := by decide +kernel
theorem dX6_sure_78 : decode cX6_sure 78 = .ok (.ireturn, 1) := by decide +kernel
theorem dX6_follows_0 : decode cX6_follows 0 = .ok (.aload_n 0, 1) := by decide +kernel
theorem dX6_follows_1 : decode cX6_follows 1 = .ok (.iload_n 2, 1) := by decide +kernel
theorem dX6_follows_2 : decode cX6_follows 2 = .ok (.iconst 1, 1) := by decide +kernel
theorem dX6_follows_3 : decode cX6_follows 3 = .ok (.sipush 9999, 3) := by decide +kernel
theorem dX6_follows_6 : decode cX6_follows 6 = .ok (.invokestatic 104, 3) := by decide +kernel
theorem dX6_follows_9 : decode cX6_follows 9 = .ok (.ifCond .eq 17, 3) := by decide +kernel
theorem dX6_follows_12 : decode cX6_follows 12 = .ok (.iload_n 3, 1) := by decide +kernel
theorem dX6_follows_13 : decode cX6_follows 13 = .ok (.iconst 1, 1) := by decide +kernel
theorem dX6_follows_14 : decode cX6_follows 14 = .ok (.bipush 20, 2) := by decide +kernel
theorem dX6_follows_16 : decode cX6_follows 16 = .ok (.invokestatic 104, 3) := by decide +kernel
theorem dX6_follows_19 : decode cX6_follows 19 = .ok (.ifCond .eq 7, 3) := by decide +kernel
theorem dX6_follows_22 : decode cX6_follows 22 = .ok (.iconst 1, 1) := by decide +kernel
theorem dX6_follows_23 : decode cX6_follows 23 = .ok (.goto 4, 3) := by decide +kernel
theorem dX6_follows_26 : decode cX6_follows 26 = .ok (.iconst 0, 1) := by decide +kernel
theorem dX6_follows_27 : decode cX6_follows 27 = .ok (.iload_n 1, 1) := by decide +kernel
theorem dX6_follows_28 : decode cX6_follows 28 = .ok (.invokevirtual 201, 3) := by decide +kernel
theorem dX6_follows_31 : decode cX6_follows 31 = .ok (.istore 4, 2) := by decide +kernel
theorem dX6_follows_33 : decode cX6_follows 33 = .ok (.iload 4, 2) := by decide +kernel
theorem dX6_follows_35 : decode cX6_follows 35 = .ok (.ifCond .ge 6, 3) := by decide +kernel
theorem dX6_follows_38 : decode cX6_follows 38 = .ok (.iload 4, 2) := by decide +kernel
theorem dX6_follows_40 : decode cX6_follows 40 = .ok (.ireturn, 1) := by decide +kernel
theorem dX6_follows_41 : decode cX6_follows 41 = .ok (.aload_n 0, 1) := by decide +kernel
theorem dX6_follows_42 : decode cX6_follows 42 = .ok (.getfield 63, 3) := by decide +kernel
theorem dX6_follows_45 : decode cX6_follows 45 = .ok (.iload_n 1, 1) := by decide +kernel
theorem dX6_follows_46 : decode cX6_follows 46 = .ok (.iaload, 1) := by decide +kernel
theorem dX6_follows_47 : decode cX6_follows 47 = .ok (.iconst 3, 1) := by decide +kernel
theorem dX6_follows_48 : decode cX6_follows 48 = .ok (.if_icmp .eq 9, 3) := by decide +kernel
theorem dX6_follows_51 : decode cX6_follows 51 = .ok (.aload_n 0, 1) := by decide +kernel
theorem dX6_follows_52 : decode cX6_follows 52 = .ok (.iconst 3, 1) := by decide +kernel
theorem dX6_follows_53 : decode cX6_follows 53 = .ok (.invokevirtual 122, 3) := by decide +kernel
theorem dX6_follows_56 : decode cX6_follows 56 = .ok (.ireturn, 1) := by decide +kernel
theorem dX6_follows_57 : decode cX6_follows 57 = .ok (.aload_n 0, 1) := by decide +kernel
theorem dX6_follows_58 : decode cX6_follows 58 = .ok (.getfield 81, 3) := by decide +kernel
theorem dX6_follows_61 : decode cX6_follows 61 = .ok (.iload_n 1, 1) := by decide +kernel
theorem dX6_follows_62 : decode cX6_follows 62 = .ok (.dup2, 1) := by decide +kernel
theorem dX6_follows_63 : decode cX6_follows 63 = .ok (.iaload, 1) := by decide +kernel
theorem dX6_follows_64 : decode cX6_follows 64 = .ok (.iconst 1, 1) := by decide +kernel
theorem dX6_follows_65 : decode cX6_follows 65 = .ok (.iadd, 1) := by decide +kernel
theorem dX6_follows_66 : decode cX6_follows 66 = .ok (.iastore, 1) := by decide +kernel
theorem dX6_follows_67 : decode cX6_follows 67 = .ok (.aload_n 0, 1) := by decide +kernel
theorem dX6_follows_68 : decode cX6_follows 68 = .ok (.aload_n 0, 1) := by decide +kernel
theorem dX6_follows_69 : decode cX6_follows 69 = .ok (.getfield 66, 3) := by decide +kernel
theorem dX6_follows_72 : decode cX6_follows 72 = .ok (.iload_n 1, 1) := by decide +kernel
theorem dX6_follows_73 : decode cX6_follows 73 = .ok (.iaload, 1) := by decide +kernel
theorem dX6_follows_74 : decode cX6_follows 74 = .ok (.iload_n 3, 1) := by decide +kernel
theorem dX6_follows_75 : decode cX6_follows 75 = .ok (.i2l, 1) := by decide +kernel
theorem dX6_follows_76 : decode cX6_follows 76 = .ok (.lconst 1, 1) := by decide +kernel
theorem dX6_follows_77 : decode cX6_follows 77 = .ok (.invokevirtual 187, 3) := by decide +kernel
theorem dX6_follows_80 : decode cX6_follows 80 = .ok (.ldc2_w 294, 3) := by decide +kernel
theorem dX6_follows_83 : decode cX6_follows 83 = .ok (.aload_n 0, 1) := by decide +kernel
theorem dX6_follows_84 : decode cX6_follows 84 = .ok (.getfield 181, 3) := by decide +kernel
theorem dX6_follows_87 : decode cX6_follows 87 = .ok (.lmul, 1) := by decide +kernel
theorem dX6_follows_88 : decode cX6_follows 88 = .ok (.aload_n 0, 1) := by decide +kernel
theorem dX6_follows_89 : decode cX6_follows 89 = .ok (.getfield 184, 3) := by decide +kernel
theorem dX6_follows_92 : decode cX6_follows 92 = .ok (.ldiv, 1) := by decide +kernel
theorem dX6_follows_93 : decode cX6_follows 93 = .ok (.lstore 5, 2) := by decide +kernel
theorem dX6_follows_95 : decode cX6_follows 95 = .ok (.iload_n 2, 1) := by decide +kernel
theorem dX6_follows_96 : decode cX6_follows 96 = .ok (.i2l, 1) := by decide +kernel
theorem dX6_follows_97 : decode cX6_follows 97 = .ok (.iload_n 3, 1) := by decide +kernel
theorem dX6_follows_98 : decode cX6_follows 98 = .ok (.i2l, 1) := by decide +kernel
theorem dX6_follows_99 : decode cX6_follows 99 = .ok (.lmul, 1) := by decide +kernel
theorem dX6_follows_100 : decode cX6_follows 100 = .ok (.lstore 7, 2) := by decide +kernel
theorem dX6_follows_102 : decode cX6_follows 102 = .ok (.ldc2_w 314, 3) := by decide +kernel
theorem dX6_follows_105 : decode cX6_follows 105 = .ok (.lload 7, 2) := by decide +kernel
theorem dX6_follows_107 : decode cX6_follows 107 = .ok (.lmul, 1) := by decide +kernel
theorem dX6_follows_108 : decode cX6_follows 108 = .ok (.lload 5, 2) := by decide +kernel
theorem dX6_follows_110 : decode cX6_follows 110 = .ok (.lcmp, 1) := by decide +kernel
theorem dX6_follows_111 : decode cX6_follows 111 = .ok (.ifCond .gt 7, 3) := by decide +kernel
theorem dX6_follows_114 : decode cX6_follows 114 = .ok (.iconst 2, 1) := by decide +kernel
theorem dX6_follows_115 : decode cX6_follows 115 = .ok (.goto 16, 3) := by decide +kernel
theorem dX6_follows_118 : decode cX6_follows 118 = .ok (.lload 7, 2) := by decide +kernel
theorem dX6_follows_120 : decode cX6_follows 120 = .ok (.lload 5, 2) := by decide +kernel
theorem dX6_follows_122 : decode cX6_follows 122 = .ok (.lcmp, 1) := by decide +kernel
theorem dX6_follows_123 : decode cX6_follows 123 = .ok (.ifCond .le 7, 3) := by decide +kernel
theorem dX6_follows_126 : decode cX6_follows 126 = .ok (.iconst 0, 1) := by decide +kernel
theorem dX6_follows_127 : decode cX6_follows 127 = .ok (.goto 4, 3) := by decide +kernel
theorem dX6_follows_130 : decode cX6_follows 130 = .ok (.iconst 1, 1) := by decide +kernel
theorem dX6_follows_131 : decode cX6_follows 131 = .ok (.ireturn, 1) := by decide +kernel
theorem dX6_strip_0 : decode cX6_strip 0 = .ok (.iload_n 1, 1) := by decide +kernel
theorem dX6_strip_1 : decode cX6_strip 1 = .ok (.invokestatic 118, 3) := by decide +kernel
theorem dX6_strip_4 : decode cX6_strip 4 = .ok (.ifCond .eq 13, 3) := by decide +kernel
theorem dX6_strip_7 : decode cX6_strip 7 = .ok (.iload_n 2, 1) := by decide +kernel
theorem dX6_strip_8 : decode cX6_strip 8 = .ok (.iconst 0, 1) := by decide +kernel
theorem dX6_strip_9 : decode cX6_strip 9 = .ok (.bipush 99, 2) := by decide +kernel
theorem dX6_strip_11 : decode cX6_strip 11 = .ok (.invokestatic 104, 3) := by decide +kernel
theorem dX6_strip_14 : decode cX6_strip 14 = .ok (.ifCond .ne 5, 3) := by decide +kernel
theorem dX6_strip_17 : decode cX6_strip 17 = .ok (.iconst (-1), 1) := by decide +kernel
theorem dX6_strip_18 : decode cX6_strip 18 = .ok (.ireturn, 1) := by decide +kernel
theorem dX6_strip_19 : decode cX6_strip 19 = .ok (.aload_n 0, 1) := by decide +kernel
theorem dX6_strip_20 : decode cX6_strip 20 = .ok (.getfield 13, 3) := by decide +kernel
theorem dX6_strip_23 : decode cX6_strip 23 = .ok (.iload_n 1, 1) := by decide +kernel
theorem dX6_strip_24 : decode cX6_strip 24 = .ok (.iaload, 1) := by decide +kernel
theorem dX6_strip_25 : decode cX6_strip 25 = .ok (.ifCond .ge 9, 3) := by decide +kernel
theorem dX6_strip_28 : decode cX6_strip 28 = .ok (.aload_n 0, 1) := by decide +kernel
theorem dX6_strip_29 : decode cX6_strip 29 = .ok (.iconst 1, 1) := by decide +kernel
theorem dX6_strip_30 : decode cX6_strip 30 = .ok (.invokevirtual 122, 3) := by decide +kernel
theorem dX6_strip_33 : decode cX6_strip 33 = .ok (.ireturn, 1) := by decide +kernel
theorem dX6_strip_34 : decode cX6_strip 34 = .ok (.aload_n 0, 1) := by decide +kernel
theorem dX6_strip_35 : decode cX6_strip 35 = .ok (.getfield 13, 3) := by decide +kernel
theorem dX6_strip_38 : decode cX6_strip 38 = .ok (.iload_n 1, 1) := by decide +kernel
theorem dX6_strip_39 : decode cX6_strip 39 = .ok (.iaload, 1) := by decide +kernel
theorem dX6_strip_40 : decode cX6_strip 40 = .ok (.ifCond .eq 15, 3) := by decide +kernel
theorem dX6_strip_43 : decode cX6_strip 43 = .ok (.aload_n 0, 1) := by decide +kernel
theorem dX6_strip_44 : decode cX6_strip 44 = .ok (.getfield 13, 3) := by decide +kernel
theorem dX6_strip_47 : decode cX6_strip 47 = .ok (.iload_n 1, 1) := by decide +kernel
theorem dX6_strip_48 : decode cX6_strip 48 = .ok (.iaload, 1) := by decide +kernel
theorem dX6_strip_49 : decode cX6_strip 49 = .ok (.iconst 2, 1) := by decide +kernel
theorem dX6_strip_50 : decode cX6_strip 50 = .ok (.irem, 1) := by decide +kernel
theorem dX6_strip_51 : decode cX6_strip 51 = .ok (.iconst 1, 1) := by decide +kernel
theorem dX6_strip_52 : decode cX6_strip 52 = .ok (.if_icmp .ne 9, 3) := by decide +kernel
theorem dX6_strip_55 : decode cX6_strip 55 = .ok (.aload_n 0, 1) := by decide +kernel
theorem dX6_strip_56 : decode cX6_strip 56 = .ok (.iconst 5, 1) := by decide +kernel
theorem dX6_strip_57 : decode cX6_strip 57 = .ok (.invokevirtual 122, 3) := by decide +kernel
theorem dX6_strip_60 : decode cX6_strip 60 = .ok (.ireturn, 1) := by decide +kernel
theorem dX6_strip_61 : decode cX6_strip 61 = .ok (.iconst 1, 1) := by decide +kernel
theorem dX6_strip_62 : decode cX6_strip 62 = .ok (.istore_n 3, 1) := by decide +kernel
theorem dX6_strip_63 : decode cX6_strip 63 = .ok (.iconst 0, 1) := by decide +kernel
theorem dX6_strip_64 : decode cX6_strip 64 = .ok (.istore 4, 2) := by decide +kernel
theorem dX6_strip_66 : decode cX6_strip 66 = .ok (.iload 4, 2) := by decide +kernel
theorem dX6_strip_68 : decode cX6_strip 68 = .ok (.aload_n 0, 1) := by decide +kernel
theorem dX6_strip_69 : decode cX6_strip 69 = .ok (.getfield 13, 3) := by decide +kernel
theorem dX6_strip_72 : decode cX6_strip 72 = .ok (.iload_n 1, 1) := by decide +kernel
theorem dX6_strip_73 : decode cX6_strip 73 = .ok (.iaload, 1) := by decide +kernel
theorem dX6_strip_74 : decode cX6_strip 74 = .ok (.if_icmp .ge 54, 3) := by decide +kernel
theorem dX6_strip_77 : decode cX6_strip 77 = .ok (.iload_n 3, 1) := by decide +kernel
theorem dX6_strip_78 : decode cX6_strip 78 = .ok (.ifCond .eq 42, 3) := by decide +kernel
theorem dX6_strip_81 : decode cX6_strip 81 = .ok (.aload_n 0, 1) := by decide +kernel
theorem dX6_strip_82 : decode cX6_strip 82 = .ok (.iload_n 1, 1) := by decide +kernel
theorem dX6_strip_83 : decode cX6_strip 83 = .ok (.iload 4, 2) := by decide +kernel
theorem dX6_strip_85 : decode cX6_strip 85 = .ok (.invokevirtual 126, 3) := by decide +kernel
theorem dX6_strip_88 : decode cX6_strip 88 = .ok (.iconst 0, 1) := by decide +kernel
theorem dX6_strip_89 : decode cX6_strip 89 = .ok (.bipush 20, 2) := by decide +kernel
theorem dX6_strip_91 : decode cX6_strip 91 = .ok (.invokestatic 104, 3) := by decide +kernel
theorem dX6_strip_94 : decode cX6_strip 94 = .ok (.ifCond .eq 26, 3) := by decide +kernel
theorem dX6_strip_97 : decode cX6_strip 97 = .ok (.aload_n 0, 1) := by decide +kernel
theorem dX6_strip_98 : decode cX6_strip 98 = .ok (.iload_n 1, 1) := by decide +kernel
theorem dX6_strip_99 : decode cX6_strip 99 = .ok (.iload 4, 2) := by decide +kernel
theorem dX6_strip_101 : decode cX6_strip 101 = .ok (.iconst 1, 1) := by decide +kernel
theorem dX6_strip_102 : decode cX6_strip 102 = .ok (.iadd, 1) := by decide +kernel
theorem dX6_strip_103 : decode cX6_strip 103 = .ok (.invokevirtual 126, 3) := by decide +kernel
theorem dX6_strip_106 : decode cX6_strip 106 = .ok (.iconst 0, 1) := by decide +kernel
theorem dX6_strip_107 : decode cX6_strip 107 = .ok (.sipush 9999, 3) := by decide +kernel
theorem dX6_strip_110 : decode cX6_strip 110 = .ok (.invokestatic 104, 3) := by decide +kernel
theorem dX6_strip_113 : decode cX6_strip 113 = .ok (.ifCond .eq 7, 3) := by decide +kernel
theorem dX6_strip_116 : decode cX6_strip 116 = .ok (.iconst 1, 1) := by decide +kernel
theorem dX6_strip_117 : decode cX6_strip 117 = .ok (.goto 4, 3) := by decide +kernel
theorem dX6_strip_120 : decode cX6_strip 120 = .ok (.iconst 0, 1) := by decide +kernel
theorem dX6_strip_121 : decode cX6_strip 121 = .ok (.istore_n 3, 1) := by decide +kernel
theorem dX6_strip_122 : decode cX6_strip 122 = .ok (.iinc 4 2, 3) := by decide +kernel
theorem dX6_strip_125 : decode cX6_strip 125 = .ok (.goto (-59), 3) := by decide +kernel
theorem dX6_strip_128 : decode cX6_strip 128 = .ok (.iload_n 3, 1) := by decide +kernel
theorem dX6_strip_129 : decode cX6_strip 129 = .ok (.ifCond .ne 9, 3) := by decide +kernel
theorem dX6_strip_132 : decode cX6_strip 132 = .ok (.aload_n 0, 1) := by decide +kernel
theorem dX6_strip_133 : decode cX6_strip 133 = .ok (.iconst 3, 1) := by decide +kernel
theorem dX6_strip_134 : decode cX6_strip 134 = .ok (.invokevirtual 122, 3) := by decide +kernel
theorem dX6_strip_137 : decode cX6_strip 137 = .ok (.ireturn, 1) := by decide +kernel
theorem dX6_strip_138 : decode cX6_strip 138 = .ok (.iconst 0, 1) := by decide +kernel
theorem dX6_strip_139 : decode cX6_strip 139 = .ok (.istore 4, 2) := by decide +kernel
theorem dX6_strip_141 : decode cX6_strip 141 = .ok (.iconst 0, 1) := by decide +kernel
theorem dX6_strip_142 : decode cX6_strip 142 = .ok (.istore 5, 2) := by decide +kernel
theorem dX6_strip_144 : decode cX6_strip 144 = .ok (.iload 5, 2) := by decide +kernel
theorem dX6_strip_146 : decode cX6_strip 146 = .ok (.bipush 6, 2) := by decide +kernel
theorem dX6_strip_148 : decode cX6_strip 148 = .ok (.if_icmp .ge 43, 3) := by decide +kernel
theorem dX6_strip_151 : decode cX6_strip 151 = .ok (.iload 4, 2) := by decide +kernel
theorem dX6_strip_153 : decode cX6_strip 153 = .ok (.aload_n 0, 1) := by decide +kernel
theorem dX6_strip_154 : decode cX6_strip 154 = .ok (.getfield 29, 3) := by decide +kernel
theorem dX6_strip_157 : decode cX6_strip 157 = .ok (.iload 5, 2) := by decide +kernel
theorem dX6_strip_159 : decode cX6_strip 159 = .ok (.baload, 1) := by decide +kernel
theorem dX6_strip_160 : decode cX6_strip 160 = .ok (.ifCond .eq 21, 3) := by decide +kernel
theorem dX6_strip_163 : decode cX6_strip 163 = .ok (.aload_n 0, 1) := by decide +kernel
theorem dX6_strip_164 : decode cX6_strip 164 = .ok (.iload 5, 2) := by decide +kernel
theorem dX6_strip_166 : decode cX6_strip 166 = .ok (.iload_n 1, 1) := by decide +kernel
theorem dX6_strip_167 : decode cX6_strip 167 = .ok (.iload_n 2, 1) := by decide +kernel
theorem dX6_strip_168 : decode cX6_strip 168 = .ok (.invokevirtual 316, 3) := by decide +kernel
theorem dX6_strip_171 : decode cX6_strip 171 = .ok (.ifCond .eq 10, 3) := by decide +kernel
theorem dX6_strip_174 : decode cX6_strip 174 = .ok (.iconst 1, 1) := by decide +kernel
theorem dX6_strip_175 : decode cX6_strip 175 = .ok (.iload 5, 2) := by decide +kernel
theorem dX6_strip_177 : decode cX6_strip 177 = .ok (.ishl, 1) := by decide +kernel
theorem dX6_strip_178 : decode cX6_strip 178 = .ok (.goto 4, 3) := by decide +kernel
theorem dX6_strip_181 : decode cX6_strip 181 = .ok (.iconst 0, 1) := by decide +kernel
theorem dX6_strip_182 : decode cX6_strip 182 = .ok (.ior, 1) := by decide +kernel
theorem dX6_strip_183 : decode cX6_strip 183 = .ok (.istore 4, 2) := by decide +kernel
theorem dX6_strip_185 : decode cX6_strip 185 = .ok (.iinc 5 1, 3) := by decide +kernel
theorem dX6_strip_188 : decode cX6_strip 188 = .ok (.goto (-44), 3) := by decide +kernel
theorem dX6_strip_191 : decode cX6_strip 191 = .ok (.iload 4, 2) := by decide +kernel
theorem dX6_strip_193 : decode cX6_strip 193 = .ok (.ireturn, 1) := by decide +kernel
theorem dX6_isKept_0 : decode cX6_isKept 0 = .ok (.iconst 1, 1) := by decide +kernel
theorem dX6_isKept_1 : decode cX6_isKept 1 = .ok (.istore 4, 2) := by decide +kernel
theorem dX6_isKept_3 : decode cX6_isKept 3 = .ok (.iconst 0, 1) := by decide +kernel
theorem dX6_isKept_4 : decode cX6_isKept 4 = .ok (.istore 5, 2) := by decide +kernel
theorem dX6_isKept_6 : decode cX6_isKept 6 = .ok (.iload 5, 2) := by decide +kernel
theorem dX6_isKept_8 : decode cX6_isKept 8 = .ok (.aload_n 0, 1) := by decide +kernel
theorem dX6_isKept_9 : decode cX6_isKept 9 = .ok (.getfield 13, 3) := by decide +kernel
theorem dX6_isKept_12 : decode cX6_isKept 12 = .ok (.iload_n 2, 1) := by decide +kernel
theorem dX6_isKept_13 : decode cX6_isKept 13 = .ok (.iaload, 1) := by decide +kernel
theorem dX6_isKept_14 : decode cX6_isKept 14 = .ok (.if_icmp .ge 87, 3) := by decide +kernel
theorem dX6_isKept_17 : decode cX6_isKept 17 = .ok (.aload_n 0, 1) := by decide +kernel
theorem dX6_isKept_18 : decode cX6_isKept 18 = .ok (.iload_n 1, 1) := by decide +kernel
theorem dX6_isKept_19 : decode cX6_isKept 19 = .ok (.aload_n 0, 1) := by decide +kernel
theorem dX6_isKept_20 : decode cX6_isKept 20 = .ok (.iload_n 2, 1) := by decide +kernel
theorem dX6_isKept_21 : decode cX6_isKept 21 = .ok (.iload 5, 2) := by decide +kernel
theorem dX6_isKept_23 : decode cX6_isKept 23 = .ok (.invokevirtual 126, 3) := by decide +kernel
theorem dX6_isKept_26 : decode cX6_isKept 26 = .ok (.i2l, 1) := by decide +kernel
theorem dX6_isKept_27 : decode cX6_isKept 27 = .ok (.lconst 1, 1) := by decide +kernel
theorem dX6_isKept_28 : decode cX6_isKept 28 = .ok (.invokevirtual 187, 3) := by decide +kernel
theorem dX6_isKept_31 : decode cX6_isKept 31 = .ok (.aload_n 0, 1) := by decide +kernel
theorem dX6_isKept_32 : decode cX6_isKept 32 = .ok (.getfield 181, 3) := by decide +kernel
theorem dX6_isKept_35 : decode cX6_isKept 35 = .ok (.aload_n 0, 1) := by decide +kernel
theorem dX6_isKept_36 : decode cX6_isKept 36 = .ok (.iload_n 2, 1) := by decide +kernel
theorem dX6_isKept_37 : decode cX6_isKept 37 = .ok (.iload 5, 2) := by decide +kernel
theorem dX6_isKept_39 : decode cX6_isKept 39 = .ok (.iconst 1, 1) := by decide +kernel
theorem dX6_isKept_40 : decode cX6_isKept 40 = .ok (.iadd, 1) := by decide +kernel
theorem dX6_isKept_41 : decode cX6_isKept 41 = .ok (.invokevirtual 126, 3) := by decide +kernel
theorem dX6_isKept_44 : decode cX6_isKept 44 = .ok (.i2l, 1) := by decide +kernel
theorem dX6_isKept_45 : decode cX6_isKept 45 = .ok (.aload_n 0, 1) := by decide +kernel
theorem dX6_isKept_46 : decode cX6_isKept 46 = .ok (.getfield 184, 3) := by decide +kernel
theorem dX6_isKept_49 : decode cX6_isKept 49 = .ok (.lmul, 1) := by decide +kernel
theorem dX6_isKept_50 : decode cX6_isKept 50 = .ok (.lsub, 1) := by decide +kernel
theorem dX6_isKept_51 : decode cX6_isKept 51 = .ok (.lstore 6, 2) := by decide +kernel
theorem dX6_isKept_53 : decode cX6_isKept 53 = .ok (.lload 6, 2) := by decide +kernel
theorem dX6_isKept_55 : decode cX6_isKept 55 = .ok (.lconst 0, 1) := by decide +kernel
theorem dX6_isKept_56 : decode cX6_isKept 56 = .ok (.lcmp, 1) := by decide +kernel
theorem dX6_isKept_57 : decode cX6_isKept 57 = .ok (.ifCond .ge 9, 3) := by decide +kernel
theorem dX6_isKept_60 : decode cX6_isKept 60 = .ok (.lload 6, 2) := by decide +kernel
theorem dX6_isKept_62 : decode cX6_isKept 62 = .ok (.lneg, 1) := by decide +kernel
theorem dX6_isKept_63 : decode cX6_isKept 63 = .ok (.goto 5, 3) := by decide +kernel
theorem dX6_isKept_66 : decode cX6_isKept 66 = .ok (.lload 6, 2) := by decide +kernel
theorem dX6_isKept_68 : decode cX6_isKept 68 = .ok (.lstore 6, 2) := by decide +kernel
theorem dX6_isKept_70 : decode cX6_isKept 70 = .ok (.iload 4, 2) := by decide +kernel
theorem dX6_isKept_72 : decode cX6_isKept 72 = .ok (.ifCond .eq 20, 3) := by decide +kernel
theorem dX6_isKept_75 : decode cX6_isKept 75 = .ok (.lload 6, 2) := by decide +kernel
theorem dX6_isKept_77 : decode cX6_isKept 77 = .ok (.iload_n 3, 1) := by decide +kernel
theorem dX6_isKept_78 : decode cX6_isKept 78 = .ok (.i2l, 1) := by decide +kernel
theorem dX6_isKept_79 : decode cX6_isKept 79 = .ok (.aload_n 0, 1) := by decide +kernel
theorem dX6_isKept_80 : decode cX6_isKept 80 = .ok (.getfield 184, 3) := by decide +kernel
theorem dX6_isKept_83 : decode cX6_isKept 83 = .ok (.lmul, 1) := by decide +kernel
theorem dX6_isKept_84 : decode cX6_isKept 84 = .ok (.lcmp, 1) := by decide +kernel
theorem dX6_isKept_85 : decode cX6_isKept 85 = .ok (.ifCond .gt 7, 3) := by decide +kernel
theorem dX6_isKept_88 : decode cX6_isKept 88 = .ok (.iconst 1, 1) := by decide +kernel
theorem dX6_isKept_89 : decode cX6_isKept 89 = .ok (.goto 4, 3) := by decide +kernel
theorem dX6_isKept_92 : decode cX6_isKept 92 = .ok (.iconst 0, 1) := by decide +kernel
theorem dX6_isKept_93 : decode cX6_isKept 93 = .ok (.istore 4, 2) := by decide +kernel
theorem dX6_isKept_95 : decode cX6_isKept 95 = .ok (.iinc 5 2, 3) := by decide +kernel
theorem dX6_isKept_98 : decode cX6_isKept 98 = .ok (.goto (-92), 3) := by decide +kernel
theorem dX6_isKept_101 : decode cX6_isKept 101 = .ok (.iload 4, 2) := by decide +kernel
theorem dX6_isKept_103 : decode cX6_isKept 103 = .ok (.ireturn, 1) := by decide +kernel
theorem dX6_bits_0 : decode cX6_bits 0 = .ok (.iconst 0, 1) := by decide +kernel
theorem dX6_bits_1 : decode cX6_bits 1 = .ok (.istore_n 1, 1) := by decide +kernel
theorem dX6_bits_2 : decode cX6_bits 2 = .ok (.iconst 0, 1) := by decide +kernel
theorem dX6_bits_3 : decode cX6_bits 3 = .ok (.istore_n 2, 1) := by decide +kernel
theorem dX6_bits_4 : decode cX6_bits 4 = .ok (.iload_n 2, 1) := by decide +kernel
theorem dX6_bits_5 : decode cX6_bits 5 = .ok (.bipush 6, 2) := by decide +kernel
theorem dX6_bits_7 : decode cX6_bits 7 = .ok (.if_icmp .ge 17, 3) := by decide +kernel
theorem dX6_bits_10 : decode cX6_bits 10 = .ok (.iload_n 1, 1) := by decide +kernel
theorem dX6_bits_11 : decode cX6_bits 11 = .ok (.iload_n 0, 1) := by decide +kernel
theorem dX6_bits_12 : decode cX6_bits 12 = .ok (.iload_n 2, 1) := by decide +kernel
theorem dX6_bits_13 : decode cX6_bits 13 = .ok (.ishr, 1) := by decide +kernel
theorem dX6_bits_14 : decode cX6_bits 14 = .ok (.iconst 1, 1) := by decide +kernel
theorem dX6_bits_15 : decode cX6_bits 15 = .ok (.iand, 1) := by decide +kernel
theorem dX6_bits_16 : decode cX6_bits 16 = .ok (.iadd, 1) := by decide +kernel
theorem dX6_bits_17 : decode cX6_bits 17 = .ok (.istore_n 1, 1) := by decide +kernel
theorem dX6_bits_18 : decode cX6_bits 18 = .ok (.iinc 2 1, 3) := by decide +kernel
theorem dX6_bits_21 : decode cX6_bits 21 = .ok (.goto (-17), 3) := by decide +kernel
theorem dX6_bits_24 : decode cX6_bits 24 = .ok (.iload_n 1, 1) := by decide +kernel
theorem dX6_bits_25 : decode cX6_bits 25 = .ok (.ireturn, 1) := by decide +kernel
theorem dX6_areThere_0 : decode cX6_areThere 0 = .ok (.iconst 1, 1) := by decide +kernel
theorem dX6_areThere_1 : decode cX6_areThere 1 = .ok (.istore_n 2, 1) := by decide +kernel
theorem dX6_areThere_2 : decode cX6_areThere 2 = .ok (.iconst 0, 1) := by decide +kernel
theorem dX6_areThere_3 : decode cX6_areThere 3 = .ok (.istore_n 3, 1) := by decide +kernel
theorem dX6_areThere_4 : decode cX6_areThere 4 = .ok (.iload_n 3, 1) := by decide +kernel
theorem dX6_areThere_5 : decode cX6_areThere 5 = .ok (.bipush 6, 2) := by decide +kernel
theorem dX6_areThere_7 : decode cX6_areThere 7 = .ok (.if_icmp .ge 36, 3) := by decide +kernel
theorem dX6_areThere_10 : decode cX6_areThere 10 = .ok (.iload_n 2, 1) := by decide +kernel
theorem dX6_areThere_11 : decode cX6_areThere 11 = .ok (.ifCond .eq 24, 3) := by decide +kernel
theorem dX6_areThere_14 : decode cX6_areThere 14 = .ok (.iload_n 1, 1) := by decide +kernel
theorem dX6_areThere_15 : decode cX6_areThere 15 = .ok (.iload_n 3, 1) := by decide +kernel
theorem dX6_areThere_16 : decode cX6_areThere 16 = .ok (.invokestatic 286, 3) := by decide +kernel
theorem dX6_areThere_19 : decode cX6_areThere 19 = .ok (.ifCond .eq 12, 3) := by decide +kernel
theorem dX6_areThere_22 : decode cX6_areThere 22 = .ok (.aload_n 0, 1) := by decide +kernel
theorem dX6_areThere_23 : decode cX6_areThere 23 = .ok (.getfield 29, 3) := by decide +kernel
theorem dX6_areThere_26 : decode cX6_areThere 26 = .ok (.iload_n 3, 1) := by decide +kernel
theorem dX6_areThere_27 : decode cX6_areThere 27 = .ok (.baload, 1) := by decide +kernel
theorem dX6_areThere_28 : decode cX6_areThere 28 = .ok (.ifCond .eq 7, 3) := by decide +kernel
theorem dX6_areThere_31 : decode cX6_areThere 31 = .ok (.iconst 1, 1) := by decide +kernel
theorem dX6_areThere_32 : decode cX6_areThere 32 = .ok (.goto 4, 3) := by decide +kernel
theorem dX6_areThere_35 : decode cX6_areThere 35 = .ok (.iconst 0, 1) := by decide +kernel
theorem dX6_areThere_36 : decode cX6_areThere 36 = .ok (.istore_n 2, 1) := by decide +kernel
theorem dX6_areThere_37 : decode cX6_areThere 37 = .ok (.iinc 3 1, 3) := by decide +kernel
theorem dX6_areThere_40 : decode cX6_areThere 40 = .ok (.goto (-36), 3) := by decide +kernel
theorem dX6_areThere_43 : decode cX6_areThere 43 = .ok (.iload_n 2, 1) := by decide +kernel
theorem dX6_areThere_44 : decode cX6_areThere 44 = .ok (.ireturn, 1) := by decide +kernel
theorem dX6_layFar_0 : decode cX6_layFar 0 = .ok (.lconst 0, 1) := by decide +kernel
theorem dX6_layFar_1 : decode cX6_layFar 1 = .ok (.lstore_n 3, 1) := by decide +kernel
theorem dX6_layFar_2 : decode cX6_layFar 2 = .ok (.lconst 0, 1) := by decide +kernel
theorem dX6_layFar_3 : decode cX6_layFar 3 = .ok (.lstore 5, 2) := by decide +kernel
theorem dX6_layFar_5 : decode cX6_layFar 5 = .ok (.lconst 0, 1) := by decide +kernel
theorem dX6_layFar_6 : decode cX6_layFar 6 = .ok (.lstore 7, 2) := by decide +kernel
theorem dX6_layFar_8 : decode cX6_layFar 8 = .ok (.lconst 0, 1) := by decide +kernel
theorem dX6_layFar_9 : decode cX6_layFar 9 = .ok (.lstore 9, 2) := by decide +kernel
theorem dX6_layFar_11 : decode cX6_layFar 11 = .ok (.iconst 0, 1) := by decide +kernel
theorem dX6_layFar_12 : decode cX6_layFar 12 = .ok (.istore 11, 2) := by decide +kernel
theorem dX6_layFar_14 : decode cX6_layFar 14 = .ok (.iload 11, 2) := by decide +kernel
theorem dX6_layFar_16 : decode cX6_layFar 16 = .ok (.bipush 6, 2) := by decide +kernel
theorem dX6_layFar_18 : decode cX6_layFar 18 = .ok (.if_icmp .ge 99, 3) := by decide +kernel
theorem dX6_layFar_21 : decode cX6_layFar 21 = .ok (.iload_n 1, 1) := by decide +kernel
theorem dX6_layFar_22 : decode cX6_layFar 22 = .ok (.iload 11, 2) := by decide +kernel
theorem dX6_layFar_24 : decode cX6_layFar 24 = .ok (.invokestatic 286, 3) := by decide +kernel
theorem dX6_layFar_27 : decode cX6_layFar 27 = .ok (.ifCond .eq 84, 3) := by decide +kernel
theorem dX6_layFar_30 : decode cX6_layFar 30 = .ok (.aload_n 0, 1) := by decide +kernel
theorem dX6_layFar_31 : decode cX6_layFar 31 = .ok (.iload 11, 2) := by decide +kernel
theorem dX6_layFar_33 : decode cX6_layFar 33 = .ok (.iload_n 2, 1) := by decide +kernel
theorem dX6_layFar_34 : decode cX6_layFar 34 = .ok (.i2l, 1) := by decide +kernel
theorem dX6_layFar_35 : decode cX6_layFar 35 = .ok (.lconst 1, 1) := by decide +kernel
theorem dX6_layFar_36 : decode cX6_layFar 36 = .ok (.invokevirtual 187, 3) := by decide +kernel
theorem dX6_layFar_39 : decode cX6_layFar 39 = .ok (.lload 5, 2) := by decide +kernel
theorem dX6_layFar_41 : decode cX6_layFar 41 = .ok (.lconst 0, 1) := by decide +kernel
theorem dX6_layFar_42 : decode cX6_layFar 42 = .ok (.lcmp, 1) := by decide +kernel
theorem dX6_layFar_43 : decode cX6_layFar 43 = .ok (.ifCond .eq 20, 3) := by decide +kernel
theorem dX6_layFar_46 : decode cX6_layFar 46 = .ok (.aload_n 0, 1) := by decide +kernel
theorem dX6_layFar_47 : decode cX6_layFar 47 = .ok (.getfield 181, 3) := by decide +kernel
theorem dX6_layFar_50 : decode cX6_layFar 50 = .ok (.lload 5, 2) := by decide +kernel
theorem dX6_layFar_52 : decode cX6_layFar 52 = .ok (.lmul, 1) := by decide +kernel
theorem dX6_layFar_53 : decode cX6_layFar 53 = .ok (.lload_n 3, 1) := by decide +kernel
theorem dX6_layFar_54 : decode cX6_layFar 54 = .ok (.aload_n 0, 1) := by decide +kernel
theorem dX6_layFar_55 : decode cX6_layFar 55 = .ok (.getfield 184, 3) := by decide +kernel
theorem dX6_layFar_58 : decode cX6_layFar 58 = .ok (.lmul, 1) := by decide +kernel
theorem dX6_layFar_59 : decode cX6_layFar 59 = .ok (.lcmp, 1) := by decide +kernel
theorem dX6_layFar_60 : decode cX6_layFar 60 = .ok (.ifCond .le 14, 3) := by decide +kernel
theorem dX6_layFar_63 : decode cX6_layFar 63 = .ok (.aload_n 0, 1) := by decide +kernel
theorem dX6_layFar_64 : decode cX6_layFar 64 = .ok (.getfield 181, 3) := by decide +kernel
theorem dX6_layFar_67 : decode cX6_layFar 67 = .ok (.lstore_n 3, 1) := by decide +kernel
theorem dX6_layFar_68 : decode cX6_layFar 68 = .ok (.aload_n 0, 1) := by decide +kernel
theorem dX6_layFar_69 : decode cX6_layFar 69 = .ok (.getfield 184, 3) := by decide +kernel
theorem dX6_layFar_72 : decode cX6_layFar 72 = .ok (.lstore 5, 2) := by decide +kernel
theorem dX6_layFar_74 : decode cX6_layFar 74 = .ok (.lload 9, 2) := by decide +kernel
theorem dX6_layFar_76 : decode cX6_layFar 76 = .ok (.lconst 0, 1) := by decide +kernel
theorem dX6_layFar_77 : decode cX6_layFar 77 = .ok (.lcmp, 1) := by decide +kernel
theorem dX6_layFar_78 : decode cX6_layFar 78 = .ok (.ifCond .eq 21, 3) := by decide +kernel
theorem dX6_layFar_81 : decode cX6_layFar 81 = .ok (.aload_n 0, 1) := by decide +kernel
theorem dX6_layFar_82 : decode cX6_layFar 82 = .ok (.getfield 181, 3) := by decide +kernel
theorem dX6_layFar_85 : decode cX6_layFar 85 = .ok (.lload 9, 2) := by decide +kernel
theorem dX6_layFar_87 : decode cX6_layFar 87 = .ok (.lmul, 1) := by decide +kernel
theorem dX6_layFar_88 : decode cX6_layFar 88 = .ok (.lload 7, 2) := by decide +kernel
theorem dX6_layFar_90 : decode cX6_layFar 90 = .ok (.aload_n 0, 1) := by decide +kernel
theorem dX6_layFar_91 : decode cX6_layFar 91 = .ok (.getfield 184, 3) := by decide +kernel
theorem dX6_layFar_94 : decode cX6_layFar 94 = .ok (.lmul, 1) := by decide +kernel
theorem dX6_layFar_95 : decode cX6_layFar 95 = .ok (.lcmp, 1) := by decide +kernel
theorem dX6_layFar_96 : decode cX6_layFar 96 = .ok (.ifCond .ge 15, 3) := by decide +kernel
theorem dX6_layFar_99 : decode cX6_layFar 99 = .ok (.aload_n 0, 1) := by decide +kernel
theorem dX6_layFar_100 : decode cX6_layFar 100 = .ok (.getfield 181, 3) := by decide +kernel
theorem dX6_layFar_103 : decode cX6_layFar 103 = .ok (.lstore 7, 2) := by decide +kernel
theorem dX6_layFar_105 : decode cX6_layFar 105 = .ok (.aload_n 0, 1) := by decide +kernel
theorem dX6_layFar_106 : decode cX6_layFar 106 = .ok (.getfield 184, 3) := by decide +kernel
theorem dX6_layFar_109 : decode cX6_layFar 109 = .ok (.lstore 9, 2) := by decide +kernel
theorem dX6_layFar_111 : decode cX6_layFar 111 = .ok (.iinc 11 1, 3) := by decide +kernel
theorem dX6_layFar_114 : decode cX6_layFar 114 = .ok (.goto (-100), 3) := by decide +kernel
theorem dX6_layFar_117 : decode cX6_layFar 117 = .ok (.aload_n 0, 1) := by decide +kernel
theorem dX6_layFar_118 : decode cX6_layFar 118 = .ok (.lload_n 3, 1) := by decide +kernel
theorem dX6_layFar_119 : decode cX6_layFar 119 = .ok (.lload 9, 2) := by decide +kernel
theorem dX6_layFar_121 : decode cX6_layFar 121 = .ok (.lmul, 1) := by decide +kernel
theorem dX6_layFar_122 : decode cX6_layFar 122 = .ok (.lload 7, 2) := by decide +kernel
theorem dX6_layFar_124 : decode cX6_layFar 124 = .ok (.lload 5, 2) := by decide +kernel
theorem dX6_layFar_126 : decode cX6_layFar 126 = .ok (.lmul, 1) := by decide +kernel
theorem dX6_layFar_127 : decode cX6_layFar 127 = .ok (.lsub, 1) := by decide +kernel
theorem dX6_layFar_128 : decode cX6_layFar 128 = .ok (.putfield 319, 3) := by decide +kernel
theorem dX6_layFar_131 : decode cX6_layFar 131 = .ok (.aload_n 0, 1) := by decide +kernel
theorem dX6_layFar_132 : decode cX6_layFar 132 = .ok (.lload 5, 2) := by decide +kernel
theorem dX6_layFar_134 : decode cX6_layFar 134 = .ok (.lload 9, 2) := by decide +kernel
theorem dX6_layFar_136 : decode cX6_layFar 136 = .ok (.lmul, 1) := by decide +kernel
theorem dX6_layFar_137 : decode cX6_layFar 137 = .ok (.putfield 322, 3) := by decide +kernel
theorem dX6_layFar_140 : decode cX6_layFar 140 = .ok (.return_, 1) := by decide +kernel
theorem dX6_parting_0 : decode cX6_parting 0 = .ok (.iload_n 1, 1) := by decide +kernel
theorem dX6_parting_1 : decode cX6_parting 1 = .ok (.iconst 1, 1) := by decide +kernel
theorem dX6_parting_2 : decode cX6_parting 2 = .ok (.bipush 63, 2) := by decide +kernel
theorem dX6_parting_4 : decode cX6_parting 4 = .ok (.invokestatic 104, 3) := by decide +kernel
theorem dX6_parting_7 : decode cX6_parting 7 = .ok (.ifCond .eq 11, 3) := by decide +kernel
theorem dX6_parting_10 : decode cX6_parting 10 = .ok (.iload_n 1, 1) := by decide +kernel
theorem dX6_parting_11 : decode cX6_parting 11 = .ok (.invokestatic 325, 3) := by decide +kernel
theorem dX6_parting_14 : decode cX6_parting 14 = .ok (.iconst 2, 1) := by decide +kernel
theorem dX6_parting_15 : decode cX6_parting 15 = .ok (.if_icmp .ge 5, 3) := by decide +kernel
theorem dX6_parting_18 : decode cX6_parting 18 = .ok (.iconst (-1), 1) := by decide +kernel
theorem dX6_parting_19 : decode cX6_parting 19 = .ok (.ireturn, 1) := by decide +kernel
theorem dX6_parting_20 : decode cX6_parting 20 = .ok (.aload_n 0, 1) := by decide +kernel
theorem dX6_parting_21 : decode cX6_parting 21 = .ok (.iload_n 1, 1) := by decide +kernel
theorem dX6_parting_22 : decode cX6_parting 22 = .ok (.invokevirtual 328, 3) := by decide +kernel
theorem dX6_parting_25 : decode cX6_parting 25 = .ok (.ifCond .ne 9, 3) := by decide +kernel
theorem dX6_parting_28 : decode cX6_parting 28 = .ok (.aload_n 0, 1) := by decide +kernel
theorem dX6_parting_29 : decode cX6_parting 29 = .ok (.iconst 1, 1) := by decide +kernel
theorem dX6_parting_30 : decode cX6_parting 30 = .ok (.invokevirtual 122, 3) := by decide +kernel
theorem dX6_parting_33 : decode cX6_parting 33 = .ok (.ireturn, 1) := by decide +kernel
theorem dX6_parting_34 : decode cX6_parting 34 = .ok (.iconst 0, 1) := by decide +kernel
theorem dX6_parting_35 : decode cX6_parting 35 = .ok (.istore_n 2, 1) := by decide +kernel
theorem dX6_parting_36 : decode cX6_parting 36 = .ok (.ldc2_w 305, 3) := by decide +kernel
theorem dX6_parting_39 : decode cX6_parting 39 = .ok (.lstore_n 3, 1) := by decide +kernel
theorem dX6_parting_40 : decode cX6_parting 40 = .ok (.lconst 1, 1) := by decide +kernel
theorem dX6_parting_41 : decode cX6_parting 41 = .ok (.lstore 5, 2) := by decide +kernel
theorem dX6_parting_43 : decode cX6_parting 43 = .ok (.iconst 1, 1) := by decide +kernel
theorem dX6_parting_44 : decode cX6_parting 44 = .ok (.istore 7, 2) := by decide +kernel
theorem dX6_parting_46 : decode cX6_parting 46 = .ok (.iload 7, 2) := by decide +kernel
theorem dX6_parting_48 : decode cX6_parting 48 = .ok (.bipush 20, 2) := by decide +kernel
theorem dX6_parting_50 : decode cX6_parting 50 = .ok (.if_icmp .gt 47, 3) := by decide +kernel
theorem dX6_parting_53 : decode cX6_parting 53 = .ok (.aload_n 0, 1) := by decide +kernel
theorem dX6_parting_54 : decode cX6_parting 54 = .ok (.iload_n 1, 1) := by decide +kernel
theorem dX6_parting_55 : decode cX6_parting 55 = .ok (.iload 7, 2) := by decide +kernel
theorem dX6_parting_57 : decode cX6_parting 57 = .ok (.invokevirtual 331, 3) := by decide +kernel
theorem dX6_parting_60 : decode cX6_parting 60 = .ok (.aload_n 0, 1) := by decide +kernel
theorem dX6_parting_61 : decode cX6_parting 61 = .ok (.getfield 319, 3) := by decide +kernel
theorem dX6_parting_64 : decode cX6_parting 64 = .ok (.lload 5, 2) := by decide +kernel
theorem dX6_parting_66 : decode cX6_parting 66 = .ok (.lmul, 1) := by decide +kernel
theorem dX6_parting_67 : decode cX6_parting 67 = .ok (.lload_n 3, 1) := by decide +kernel
theorem dX6_parting_68 : decode cX6_parting 68 = .ok (.aload_n 0, 1) := by decide +kernel
theorem dX6_parting_69 : decode cX6_parting 69 = .ok (.getfield 322, 3) := by decide +kernel
theorem dX6_parting_72 : decode cX6_parting 72 = .ok (.lmul, 1) := by decide +kernel
theorem dX6_parting_73 : decode cX6_parting 73 = .ok (.lcmp, 1) := by decide +kernel
theorem dX6_parting_74 : decode cX6_parting 74 = .ok (.ifCond .le 17, 3) := by decide +kernel
theorem dX6_parting_77 : decode cX6_parting 77 = .ok (.iload 7, 2) := by decide +kernel
theorem dX6_parting_79 : decode cX6_parting 79 = .ok (.istore_n 2, 1) := by decide +kernel
theorem dX6_parting_80 : decode cX6_parting 80 = .ok (.aload_n 0, 1) := by decide +kernel
theorem dX6_parting_81 : decode cX6_parting 81 = .ok (.getfield 319, 3) := by decide +kernel
theorem dX6_parting_84 : decode cX6_parting 84 = .ok (.lstore_n 3, 1) := by decide +kernel
theorem dX6_parting_85 : decode cX6_parting 85 = .ok (.aload_n 0, 1) := by decide +kernel
theorem dX6_parting_86 : decode cX6_parting 86 = .ok (.getfield 322, 3) := by decide +kernel
theorem dX6_parting_89 : decode cX6_parting 89 = .ok (.lstore 5, 2) := by decide +kernel
theorem dX6_parting_91 : decode cX6_parting 91 = .ok (.iinc 7 1, 3) := by decide +kernel
theorem dX6_parting_94 : decode cX6_parting 94 = .ok (.goto (-48), 3) := by decide +kernel
theorem dX6_parting_97 : decode cX6_parting 97 = .ok (.aload_n 0, 1) := by decide +kernel
theorem dX6_parting_98 : decode cX6_parting 98 = .ok (.lload_n 3, 1) := by decide +kernel
theorem dX6_parting_99 : decode cX6_parting 99 = .ok (.lload 5, 2) := by decide +kernel
theorem dX6_parting_101 : decode cX6_parting 101 = .ok (.ldiv, 1) := by decide +kernel
theorem dX6_parting_102 : decode cX6_parting 102 = .ok (.l2i, 1) := by decide +kernel
theorem dX6_parting_103 : decode cX6_parting 103 = .ok (.iload_n 2, 1) := by decide +kernel
theorem dX6_parting_104 : decode cX6_parting 104 = .ok (.invokevirtual 130, 3) := by decide +kernel
theorem dX6_parting_107 : decode cX6_parting 107 = .ok (.ireturn, 1) := by decide +kernel
theorem dX6_chosen_0 : decode cX6_chosen 0 = .ok (.iload_n 1, 1) := by decide +kernel
theorem dX6_chosen_1 : decode cX6_chosen 1 = .ok (.ifCond .lt 8, 3) := by decide +kernel
theorem dX6_chosen_4 : decode cX6_chosen 4 = .ok (.iload_n 1, 1) := by decide +kernel
theorem dX6_chosen_5 : decode cX6_chosen 5 = .ok (.iload_n 0, 1) := by decide +kernel
theorem dX6_chosen_6 : decode cX6_chosen 6 = .ok (.if_icmp .le 7, 3) := by decide +kernel
theorem dX6_chosen_9 : decode cX6_chosen 9 = .ok (.lconst 0, 1) := by decide +kernel
theorem dX6_chosen_10 : decode cX6_chosen 10 = .ok (.goto 4, 3) := by decide +kernel
theorem dX6_chosen_13 : decode cX6_chosen 13 = .ok (.lconst 1, 1) := by decide +kernel
theorem dX6_chosen_14 : decode cX6_chosen 14 = .ok (.lstore_n 2, 1) := by decide +kernel
theorem dX6_chosen_15 : decode cX6_chosen 15 = .ok (.iconst 1, 1) := by decide +kernel
theorem dX6_chosen_16 : decode cX6_chosen 16 = .ok (.istore 4, 2) := by decide +kernel
theorem dX6_chosen_18 : decode cX6_chosen 18 = .ok (.iload 4, 2) := by decide +kernel
theorem dX6_chosen_20 : decode cX6_chosen 20 = .ok (.iload_n 1, 1) := by decide +kernel
theorem dX6_chosen_21 : decode cX6_chosen 21 = .ok (.if_icmp .gt 29, 3) := by decide +kernel
theorem dX6_chosen_24 : decode cX6_chosen 24 = .ok (.lload_n 2, 1) := by decide +kernel
theorem dX6_chosen_25 : decode cX6_chosen 25 = .ok (.lconst 0, 1) := by decide +kernel
theorem dX6_chosen_26 : decode cX6_chosen 26 = .ok (.lcmp, 1) := by decide +kernel
theorem dX6_chosen_27 : decode cX6_chosen 27 = .ok (.ifCond .le 23, 3) := by decide +kernel
theorem dX6_chosen_30 : decode cX6_chosen 30 = .ok (.lload_n 2, 1) := by decide +kernel
theorem dX6_chosen_31 : decode cX6_chosen 31 = .ok (.iload_n 0, 1) := by decide +kernel
theorem dX6_chosen_32 : decode cX6_chosen 32 = .ok (.iload 4, 2) := by decide +kernel
theorem dX6_chosen_34 : decode cX6_chosen 34 = .ok (.isub, 1) := by decide +kernel
theorem dX6_chosen_35 : decode cX6_chosen 35 = .ok (.iconst 1, 1) := by decide +kernel
theorem dX6_chosen_36 : decode cX6_chosen 36 = .ok (.iadd, 1) := by decide +kernel
theorem dX6_chosen_37 : decode cX6_chosen 37 = .ok (.i2l, 1) := by decide +kernel
theorem dX6_chosen_38 : decode cX6_chosen 38 = .ok (.lmul, 1) := by decide +kernel
theorem dX6_chosen_39 : decode cX6_chosen 39 = .ok (.iload 4, 2) := by decide +kernel
theorem dX6_chosen_41 : decode cX6_chosen 41 = .ok (.i2l, 1) := by decide +kernel
theorem dX6_chosen_42 : decode cX6_chosen 42 = .ok (.ldiv, 1) := by decide +kernel
theorem dX6_chosen_43 : decode cX6_chosen 43 = .ok (.lstore_n 2, 1) := by decide +kernel
theorem dX6_chosen_44 : decode cX6_chosen 44 = .ok (.iinc 4 1, 3) := by decide +kernel
theorem dX6_chosen_47 : decode cX6_chosen 47 = .ok (.goto (-29), 3) := by decide +kernel
theorem dX6_chosen_50 : decode cX6_chosen 50 = .ok (.lload_n 2, 1) := by decide +kernel
theorem dX6_chosen_51 : decode cX6_chosen 51 = .ok (.lreturn, 1) := by decide +kernel
theorem dX6_batch_0 : decode cX6_batch 0 = .ok (.iload_n 1, 1) := by decide +kernel
theorem dX6_batch_1 : decode cX6_batch 1 = .ok (.iconst 1, 1) := by decide +kernel
theorem dX6_batch_2 : decode cX6_batch 2 = .ok (.bipush 40, 2) := by decide +kernel
theorem dX6_batch_4 : decode cX6_batch 4 = .ok (.invokestatic 104, 3) := by decide +kernel
theorem dX6_batch_7 : decode cX6_batch 7 = .ok (.ifCond .eq 37, 3) := by decide +kernel
theorem dX6_batch_10 : decode cX6_batch 10 = .ok (.iload_n 2, 1) := by decide +kernel
theorem dX6_batch_11 : decode cX6_batch 11 = .ok (.iconst 0, 1) := by decide +kernel
theorem dX6_batch_12 : decode cX6_batch 12 = .ok (.iload_n 1, 1) := by decide +kernel
theorem dX6_batch_13 : decode cX6_batch 13 = .ok (.invokestatic 104, 3) := by decide +kernel
theorem dX6_batch_16 : decode cX6_batch 16 = .ok (.ifCond .eq 28, 3) := by decide +kernel
theorem dX6_batch_19 : decode cX6_batch 19 = .ok (.iload_n 3, 1) := by decide +kernel
theorem dX6_batch_20 : decode cX6_batch 20 = .ok (.iconst 1, 1) := by decide +kernel
theorem dX6_batch_21 : decode cX6_batch 21 = .ok (.bipush 10, 2) := by decide +kernel
theorem dX6_batch_23 : decode cX6_batch 23 = .ok (.invokestatic 104, 3) := by decide +kernel
theorem dX6_batch_26 : decode cX6_batch 26 = .ok (.ifCond .eq 18, 3) := by decide +kernel
theorem dX6_batch_29 : decode cX6_batch 29 = .ok (.iload_n 3, 1) := by decide +kernel
theorem dX6_batch_30 : decode cX6_batch 30 = .ok (.iload_n 1, 1) := by decide +kernel
theorem dX6_batch_31 : decode cX6_batch 31 = .ok (.if_icmp .gt 13, 3) := by decide +kernel
theorem dX6_batch_34 : decode cX6_batch 34 = .ok (.iload 4, 2) := by decide +kernel
theorem dX6_batch_36 : decode cX6_batch 36 = .ok (.iconst 0, 1) := by decide +kernel
theorem dX6_batch_37 : decode cX6_batch 37 = .ok (.iload_n 3, 1) := by decide +kernel
theorem dX6_batch_38 : decode cX6_batch 38 = .ok (.invokestatic 104, 3) := by decide +kernel
theorem dX6_batch_41 : decode cX6_batch 41 = .ok (.ifCond .ne 5, 3) := by decide +kernel
theorem dX6_batch_44 : decode cX6_batch 44 = .ok (.iconst (-1), 1) := by decide +kernel
theorem dX6_batch_45 : decode cX6_batch 45 = .ok (.ireturn, 1) := by decide +kernel
theorem dX6_batch_46 : decode cX6_batch 46 = .ok (.lconst 0, 1) := by decide +kernel
theorem dX6_batch_47 : decode cX6_batch 47 = .ok (.lstore 5, 2) := by decide +kernel
theorem dX6_batch_49 : decode cX6_batch 49 = .ok (.iconst 0, 1) := by decide +kernel
theorem dX6_batch_50 : decode cX6_batch 50 = .ok (.istore 7, 2) := by decide +kernel
theorem dX6_batch_52 : decode cX6_batch 52 = .ok (.iload 7, 2) := by decide +kernel
theorem dX6_batch_54 : decode cX6_batch 54 = .ok (.iload 4, 2) := by decide +kernel
theorem dX6_batch_56 : decode cX6_batch 56 = .ok (.if_icmp .gt 31, 3) := by decide +kernel
theorem dX6_batch_59 : decode cX6_batch 59 = .ok (.lload 5, 2) := by decide +kernel
theorem dX6_batch_61 : decode cX6_batch 61 = .ok (.iload_n 2, 1) := by decide +kernel
theorem dX6_batch_62 : decode cX6_batch 62 = .ok (.iload 7, 2) := by decide +kernel
theorem dX6_batch_64 : decode cX6_batch 64 = .ok (.invokestatic 335, 3) := by decide +kernel
theorem dX6_batch_67 : decode cX6_batch 67 = .ok (.iload_n 1, 1) := by decide +kernel
theorem dX6_batch_68 : decode cX6_batch 68 = .ok (.iload_n 2, 1) := by decide +kernel
theorem dX6_batch_69 : decode cX6_batch 69 = .ok (.isub, 1) := by decide +kernel
theorem dX6_batch_70 : decode cX6_batch 70 = .ok (.iload_n 3, 1) := by decide +kernel
theorem dX6_batch_71 : decode cX6_batch 71 = .ok (.iload 7, 2) := by decide +kernel
theorem dX6_batch_73 : decode cX6_batch 73 = .ok (.isub, 1) := by decide +kernel
theorem dX6_batch_74 : decode cX6_batch 74 = .ok (.invokestatic 335, 3) := by decide +kernel
theorem dX6_batch_77 : decode cX6_batch 77 = .ok (.lmul, 1) := by decide +kernel
theorem dX6_batch_78 : decode cX6_batch 78 = .ok (.ladd, 1) := by decide +kernel
theorem dX6_batch_79 : decode cX6_batch 79 = .ok (.lstore 5, 2) := by decide +kernel
theorem dX6_batch_81 : decode cX6_batch 81 = .ok (.iinc 7 1, 3) := by decide +kernel
theorem dX6_batch_84 : decode cX6_batch 84 = .ok (.goto (-32), 3) := by decide +kernel
theorem dX6_batch_87 : decode cX6_batch 87 = .ok (.aload_n 0, 1) := by decide +kernel
theorem dX6_batch_88 : decode cX6_batch 88 = .ok (.lload 5, 2) := by decide +kernel
theorem dX6_batch_90 : decode cX6_batch 90 = .ok (.iload_n 1, 1) := by decide +kernel
theorem dX6_batch_91 : decode cX6_batch 91 = .ok (.iload_n 3, 1) := by decide +kernel
theorem dX6_batch_92 : decode cX6_batch 92 = .ok (.invokestatic 335, 3) := by decide +kernel
theorem dX6_batch_95 : decode cX6_batch 95 = .ok (.iconst 1, 1) := by decide +kernel
theorem dX6_batch_96 : decode cX6_batch 96 = .ok (.invokevirtual 191, 3) := by decide +kernel
theorem dX6_batch_99 : decode cX6_batch 99 = .ok (.ireturn, 1) := by decide +kernel
theorem dX6_isShutWithout_0 : decode cX6_isShutWithout 0 = .ok (.aload_n 0, 1) := by decide +kernel
theorem dX6_isShutWithout_1 : decode cX6_isShutWithout 1 = .ok (.invokevirtual 302, 3) := by decide +kernel
theorem dX6_isShutWithout_4 : decode cX6_isShutWithout 4 = .ok (.aload_n 0, 1) := by decide +kernel
theorem dX6_isShutWithout_5 : decode cX6_isShutWithout 5 = .ok (.getfield 97, 3) := by decide +kernel
theorem dX6_isShutWithout_8 : decode cX6_isShutWithout 8 = .ok (.istore_n 2, 1) := by decide +kernel
theorem dX6_isShutWithout_9 : decode cX6_isShutWithout 9 = .ok (.aload_n 0, 1) := by decide +kernel
theorem dX6_isShutWithout_10 : decode cX6_isShutWithout 10 = .ok (.getfield 220, 3) := by decide +kernel
theorem dX6_isShutWithout_13 : decode cX6_isShutWithout 13 = .ok (.istore_n 3, 1) := by decide +kernel
theorem dX6_isShutWithout_14 : decode cX6_isShutWithout 14 = .ok (.iconst 0, 1) := by decide +kernel
theorem dX6_isShutWithout_15 : decode cX6_isShutWithout 15 = .ok (.istore 4, 2) := by decide +kernel
theorem dX6_isShutWithout_17 : decode cX6_isShutWithout 17 = .ok (.iload 4, 2) := by decide +kernel
theorem dX6_isShutWithout_19 : decode cX6_isShutWithout 19 = .ok (.iconst 4, 1) := by decide +kernel
theorem dX6_isShutWithout_20 : decode cX6_isShutWithout 20 = .ok (.if_icmp .ge 119, 3) := by decide +kernel
theorem dX6_isShutWithout_23 : decode cX6_isShutWithout 23 = .ok (.aload_n 0, 1) := by decide +kernel
theorem dX6_isShutWithout_24 : decode cX6_isShutWithout 24 = .ok (.getfield 69, 3) := by decide +kernel
theorem dX6_isShutWithout_27 : decode cX6_isShutWithout 27 = .ok (.iload 4, 2) := by decide +kernel
theorem dX6_isShutWithout_29 : decode cX6_isShutWithout 29 = .ok (.iaload, 1) := by decide +kernel
theorem dX6_isShutWithout_30 : decode cX6_isShutWithout 30 = .ok (.aload_n 0, 1) := by decide +kernel
theorem dX6_isShutWithout_31 : decode cX6_isShutWithout 31 = .ok (.getfield 78, 3) := by decide +kernel
theorem dX6_isShutWithout_34 : decode cX6_isShutWithout 34 = .ok (.iload 4, 2) := by decide +kernel
theorem dX6_isShutWithout_36 : decode cX6_isShutWithout 36 = .ok (.iaload, 1) := by decide +kernel
theorem dX6_isShutWithout_37 : decode cX6_isShutWithout 37 = .ok (.invokestatic 210, 3) := by decide +kernel
theorem dX6_isShutWithout_40 : decode cX6_isShutWithout 40 = .ok (.istore 5, 2) := by decide +kernel
theorem dX6_isShutWithout_42 : decode cX6_isShutWithout 42 = .ok (.iload_n 1, 1) := by decide +kernel
theorem dX6_isShutWithout_43 : decode cX6_isShutWithout 43 = .ok (.ifCond .ne 28, 3) := by decide +kernel
theorem dX6_isShutWithout_46 : decode cX6_isShutWithout 46 = .ok (.aload_n 0, 1) := by decide +kernel
theorem dX6_isShutWithout_47 : decode cX6_isShutWithout 47 = .ok (.iload 4, 2) := by decide +kernel
theorem dX6_isShutWithout_49 : decode cX6_isShutWithout 49 = .ok (.invokevirtual 204, 3) := by decide +kernel
theorem dX6_isShutWithout_52 : decode cX6_isShutWithout 52 = .ok (.ifCond .eq 19, 3) := by decide +kernel
theorem dX6_isShutWithout_55 : decode cX6_isShutWithout 55 = .ok (.iload 5, 2) := by decide +kernel
theorem dX6_isShutWithout_57 : decode cX6_isShutWithout 57 = .ok (.aload_n 0, 1) := by decide +kernel
theorem dX6_isShutWithout_58 : decode cX6_isShutWithout 58 = .ok (.getfield 72, 3) := by decide +kernel
theorem dX6_isShutWithout_61 : decode cX6_isShutWithout 61 = .ok (.iload 4, 2) := by decide +kernel
theorem dX6_isShutWithout_63 : decode cX6_isShutWithout 63 = .ok (.iaload, 1) := by decide +kernel
theorem dX6_isShutWithout_64 : decode cX6_isShutWithout 64 = .ok (.if_icmp .le 7, 3) := by decide +kernel
theorem dX6_isShutWithout_67 : decode cX6_isShutWithout 67 = .ok (.iconst 1, 1) := by decide +kernel
theorem dX6_isShutWithout_68 : decode cX6_isShutWithout 68 = .ok (.goto 4, 3) := by decide +kernel
theorem dX6_isShutWithout_71 : decode cX6_isShutWithout 71 = .ok (.iconst 0, 1) := by decide +kernel
theorem dX6_isShutWithout_72 : decode cX6_isShutWithout 72 = .ok (.istore 6, 2) := by decide +kernel
theorem dX6_isShutWithout_74 : decode cX6_isShutWithout 74 = .ok (.aload_n 0, 1) := by decide +kernel
theorem dX6_isShutWithout_75 : decode cX6_isShutWithout 75 = .ok (.getfield 72, 3) := by decide +kernel
theorem dX6_isShutWithout_78 : decode cX6_isShutWithout 78 = .ok (.iload 4, 2) := by decide +kernel
theorem dX6_isShutWithout_80 : decode cX6_isShutWithout 80 = .ok (.iload 6, 2) := by decide +kernel
theorem dX6_isShutWithout_82 : decode cX6_isShutWithout 82 = .ok (.ifCond .eq 8, 3) := by decide +kernel
theorem dX6_isShutWithout_85 : decode cX6_isShutWithout 85 = .ok (.iload 5, 2) := by decide +kernel
theorem dX6_isShutWithout_87 : decode cX6_isShutWithout 87 = .ok (.goto 45, 3) := by decide +kernel
theorem dX6_isShutWithout_90 : decode cX6_isShutWithout 90 = .ok (.iload_n 1, 1) := by decide +kernel
theorem dX6_isShutWithout_91 : decode cX6_isShutWithout 91 = .ok (.iconst 3, 1) := by decide +kernel
theorem dX6_isShutWithout_92 : decode cX6_isShutWithout 92 = .ok (.if_icmp .ne 33, 3) := by decide +kernel
theorem dX6_isShutWithout_95 : decode cX6_isShutWithout 95 = .ok (.aload_n 0, 1) := by decide +kernel
theorem dX6_isShutWithout_96 : decode cX6_isShutWithout 96 = .ok (.iload 4, 2) := by decide +kernel
theorem dX6_isShutWithout_98 : decode cX6_isShutWithout 98 = .ok (.invokevirtual 207, 3) := by decide +kernel
theorem dX6_isShutWithout_101 : decode cX6_isShutWithout 101 = .ok (.ifCond .eq 24, 3) := by decide +kernel
theorem dX6_isShutWithout_104 : decode cX6_isShutWithout 104 = .ok (.aload_n 0, 1) := by decide +kernel
theorem dX6_isShutWithout_105 : decode cX6_isShutWithout 105 = .ok (.getfield 72, 3) := by decide +kernel
theorem dX6_isShutWithout_108 : decode cX6_isShutWithout 108 = .ok (.iload 4, 2) := by decide +kernel
theorem dX6_isShutWithout_110 : decode cX6_isShutWithout 110 = .ok (.iaload, 1) := by decide +kernel
theorem dX6_isShutWithout_111 : decode cX6_isShutWithout 111 = .ok (.aload_n 0, 1) := by decide +kernel
theorem dX6_isShutWithout_112 : decode cX6_isShutWithout 112 = .ok (.getfield 69, 3) := by decide +kernel
theorem dX6_isShutWithout_115 : decode cX6_isShutWithout 115 = .ok (.iload 4, 2) := by decide +kernel
theorem dX6_isShutWithout_117 : decode cX6_isShutWithout 117 = .ok (.iaload, 1) := by decide +kernel
theorem dX6_isShutWithout_118 : decode cX6_isShutWithout 118 = .ok (.iadd, 1) := by decide +kernel
theorem dX6_isShutWithout_119 : decode cX6_isShutWithout 119 = .ok (.iload 5, 2) := by decide +kernel
theorem dX6_isShutWithout_121 : decode cX6_isShutWithout 121 = .ok (.isub, 1) := by decide +kernel
theorem dX6_isShutWithout_122 : decode cX6_isShutWithout 122 = .ok (.goto 10, 3) := by decide +kernel
theorem dX6_isShutWithout_125 : decode cX6_isShutWithout 125 = .ok (.aload_n 0, 1) := by decide +kernel
theorem dX6_isShutWithout_126 : decode cX6_isShutWithout 126 = .ok (.getfield 72, 3) := by decide +kernel
theorem dX6_isShutWithout_129 : decode cX6_isShutWithout 129 = .ok (.iload 4, 2) := by decide +kernel
theorem dX6_isShutWithout_131 : decode cX6_isShutWithout 131 = .ok (.iaload, 1) := by decide +kernel
theorem dX6_isShutWithout_132 : decode cX6_isShutWithout 132 = .ok (.iastore, 1) := by decide +kernel
theorem dX6_isShutWithout_133 : decode cX6_isShutWithout 133 = .ok (.iinc 4 1, 3) := by decide +kernel
theorem dX6_isShutWithout_136 : decode cX6_isShutWithout 136 = .ok (.goto (-119), 3) := by decide +kernel
theorem dX6_isShutWithout_139 : decode cX6_isShutWithout 139 = .ok (.aload_n 0, 1) := by decide +kernel
theorem dX6_isShutWithout_140 : decode cX6_isShutWithout 140 = .ok (.iload_n 1, 1) := by decide +kernel
theorem dX6_isShutWithout_141 : decode cX6_isShutWithout 141 = .ok (.iconst 1, 1) := by decide +kernel
theorem dX6_isShutWithout_142 : decode cX6_isShutWithout 142 = .ok (.if_icmp .ne 8, 3) := by decide +kernel
theorem dX6_isShutWithout_145 : decode cX6_isShutWithout 145 = .ok (.bipush 20, 2) := by decide +kernel
theorem dX6_isShutWithout_147 : decode cX6_isShutWithout 147 = .ok (.goto 7, 3) := by decide +kernel
theorem dX6_isShutWithout_150 : decode cX6_isShutWithout 150 = .ok (.aload_n 0, 1) := by decide +kernel
theorem dX6_isShutWithout_151 : decode cX6_isShutWithout 151 = .ok (.getfield 97, 3) := by decide +kernel
theorem dX6_isShutWithout_154 : decode cX6_isShutWithout 154 = .ok (.putfield 97, 3) := by decide +kernel
theorem dX6_isShutWithout_157 : decode cX6_isShutWithout 157 = .ok (.aload_n 0, 1) := by decide +kernel
theorem dX6_isShutWithout_158 : decode cX6_isShutWithout 158 = .ok (.iload_n 1, 1) := by decide +kernel
theorem dX6_isShutWithout_159 : decode cX6_isShutWithout 159 = .ok (.iconst 2, 1) := by decide +kernel
theorem dX6_isShutWithout_160 : decode cX6_isShutWithout 160 = .ok (.if_icmp .ne 12, 3) := by decide +kernel
theorem dX6_isShutWithout_163 : decode cX6_isShutWithout 163 = .ok (.aload_n 0, 1) := by decide +kernel
theorem dX6_isShutWithout_164 : decode cX6_isShutWithout 164 = .ok (.getfield 220, 3) := by decide +kernel
theorem dX6_isShutWithout_167 : decode cX6_isShutWithout 167 = .ok (.iconst 2, 1) := by decide +kernel
theorem dX6_isShutWithout_168 : decode cX6_isShutWithout 168 = .ok (.idiv, 1) := by decide +kernel
theorem dX6_isShutWithout_169 : decode cX6_isShutWithout 169 = .ok (.goto 7, 3) := by decide +kernel
theorem dX6_isShutWithout_172 : decode cX6_isShutWithout 172 = .ok (.aload_n 0, 1) := by decide +kernel
theorem dX6_isShutWithout_173 : decode cX6_isShutWithout 173 = .ok (.getfield 220, 3) := by decide +kernel
theorem dX6_isShutWithout_176 : decode cX6_isShutWithout 176 = .ok (.putfield 220, 3) := by decide +kernel
theorem dX6_isShutWithout_179 : decode cX6_isShutWithout 179 = .ok (.aload_n 0, 1) := by decide +kernel
theorem dX6_isShutWithout_180 : decode cX6_isShutWithout 180 = .ok (.invokevirtual 278, 3) := by decide +kernel
theorem dX6_isShutWithout_183 : decode cX6_isShutWithout 183 = .ok (.ifCond .ne 7, 3) := by decide +kernel
theorem dX6_isShutWithout_186 : decode cX6_isShutWithout 186 = .ok (.iconst 1, 1) := by decide +kernel
theorem dX6_isShutWithout_187 : decode cX6_isShutWithout 187 = .ok (.goto 4, 3) := by decide +kernel
theorem dX6_isShutWithout_190 : decode cX6_isShutWithout 190 = .ok (.iconst 0, 1) := by decide +kernel
theorem dX6_isShutWithout_191 : decode cX6_isShutWithout 191 = .ok (.istore 4, 2) := by decide +kernel
theorem dX6_isShutWithout_193 : decode cX6_isShutWithout 193 = .ok (.aload_n 0, 1) := by decide +kernel
theorem dX6_isShutWithout_194 : decode cX6_isShutWithout 194 = .ok (.invokevirtual 311, 3) := by decide +kernel
theorem dX6_isShutWithout_197 : decode cX6_isShutWithout 197 = .ok (.aload_n 0, 1) := by decide +kernel
theorem dX6_isShutWithout_198 : decode cX6_isShutWithout 198 = .ok (.iload_n 2, 1) := by decide +kernel
theorem dX6_isShutWithout_199 : decode cX6_isShutWithout 199 = .ok (.putfield 97, 3) := by decide +kernel
theorem dX6_isShutWithout_202 : decode cX6_isShutWithout 202 = .ok (.aload_n 0, 1) := by decide +kernel
theorem dX6_isShutWithout_203 : decode cX6_isShutWithout 203 = .ok (.iload_n 3, 1) := by decide +kernel
theorem dX6_isShutWithout_204 : decode cX6_isShutWithout 204 = .ok (.putfield 220, 3) := by decide +kernel
theorem dX6_isShutWithout_207 : decode cX6_isShutWithout 207 = .ok (.iload 4, 2) := by decide +kernel
theorem dX6_isShutWithout_209 : decode cX6_isShutWithout 209 = .ok (.ireturn, 1) := by decide +kernel
theorem dX6_led_0 : decode cX6_led 0 = .ok (.aload_n 0, 1) := by decide +kernel
theorem dX6_led_1 : decode cX6_led 1 = .ok (.invokevirtual 278, 3) := by decide +kernel
theorem dX6_led_4 : decode cX6_led 4 = .ok (.ifCond .ne 6, 3) := by decide +kernel
theorem dX6_led_7 : decode cX6_led 7 = .ok (.bipush (-4), 2) := by decide +kernel
theorem dX6_led_9 : decode cX6_led 9 = .ok (.ireturn, 1) := by decide +kernel
theorem dX6_led_10 : decode cX6_led 10 = .ok (.iconst 0, 1) := by decide +kernel
theorem dX6_led_11 : decode cX6_led 11 = .ok (.istore_n 1, 1) := by decide +kernel
theorem dX6_led_12 : decode cX6_led 12 = .ok (.iconst 0, 1) := by decide +kernel
theorem dX6_led_13 : decode cX6_led 13 = .ok (.istore_n 2, 1) := by decide +kernel
theorem dX6_led_14 : decode cX6_led 14 = .ok (.iload_n 2, 1) := by decide +kernel
theorem dX6_led_15 : decode cX6_led 15 = .ok (.iconst 4, 1) := by decide +kernel
theorem dX6_led_16 : decode cX6_led 16 = .ok (.if_icmp .ge 27, 3) := by decide +kernel
theorem dX6_led_19 : decode cX6_led 19 = .ok (.iload_n 1, 1) := by decide +kernel
theorem dX6_led_20 : decode cX6_led 20 = .ok (.aload_n 0, 1) := by decide +kernel
theorem dX6_led_21 : decode cX6_led 21 = .ok (.iload_n 2, 1) := by decide +kernel
theorem dX6_led_22 : decode cX6_led 22 = .ok (.invokevirtual 339, 3) := by decide +kernel
theorem dX6_led_25 : decode cX6_led 25 = .ok (.ifCond .eq 9, 3) := by decide +kernel
theorem dX6_led_28 : decode cX6_led 28 = .ok (.iconst 1, 1) := by decide +kernel
theorem dX6_led_29 : decode cX6_led 29 = .ok (.iload_n 2, 1) := by decide +kernel
theorem dX6_led_30 : decode cX6_led 30 = .ok (.ishl, 1) := by decide +kernel
theorem dX6_led_31 : decode cX6_led 31 = .ok (.goto 4, 3) := by decide +kernel
theorem dX6_led_34 : decode cX6_led 34 = .ok (.iconst 0, 1) := by decide +kernel
theorem dX6_led_35 : decode cX6_led 35 = .ok (.ior, 1) := by decide +kernel
theorem dX6_led_36 : decode cX6_led 36 = .ok (.istore_n 1, 1) := by decide +kernel
theorem dX6_led_37 : decode cX6_led 37 = .ok (.iinc 2 1, 3) := by decide +kernel
theorem dX6_led_40 : decode cX6_led 40 = .ok (.goto (-26), 3) := by decide +kernel
theorem dX6_led_43 : decode cX6_led 43 = .ok (.iload_n 1, 1) := by decide +kernel
theorem dX6_led_44 : decode cX6_led 44 = .ok (.ireturn, 1) := by decide +kernel
theorem dX6_needChoice_0 : decode cX6_needChoice 0 = .ok (.iload_n 1, 1) := by decide +kernel
theorem dX6_needChoice_1 : decode cX6_needChoice 1 = .ok (.iconst 1, 1) := by decide +kernel
theorem dX6_needChoice_2 : decode cX6_needChoice 2 = .ok (.bipush 63, 2) := by decide +kernel
theorem dX6_needChoice_4 : decode cX6_needChoice 4 = .ok (.invokestatic 104, 3) := by decide +kernel
theorem dX6_needChoice_7 : decode cX6_needChoice 7 = .ok (.ifCond .eq 21, 3) := by decide +kernel
theorem dX6_needChoice_10 : decode cX6_needChoice 10 = .ok (.iload_n 2, 1) := by decide +kernel
theorem dX6_needChoice_11 : decode cX6_needChoice 11 = .ok (.invokestatic 118, 3) := by decide +kernel
theorem dX6_needChoice_14 : decode cX6_needChoice 14 = .ok (.ifCond .eq 14, 3) := by decide +kernel
theorem dX6_needChoice_17 : decode cX6_needChoice 17 = .ok (.iload_n 3, 1) := by decide +kernel
theorem dX6_needChoice_18 : decode cX6_needChoice 18 = .ok (.iconst 0, 1) := by decide +kernel
theorem dX6_needChoice_19 : decode cX6_needChoice 19 = .ok (.sipush 1296, 3) := by decide +kernel
theorem dX6_needChoice_22 : decode cX6_needChoice 22 = .ok (.invokestatic 104, 3) := by decide +kernel
theorem dX6_needChoice_25 : decode cX6_needChoice 25 = .ok (.ifCond .ne 5, 3) := by decide +kernel
theorem dX6_needChoice_28 : decode cX6_needChoice 28 = .ok (.iconst (-1), 1) := by decide +kernel
theorem dX6_needChoice_29 : decode cX6_needChoice 29 = .ok (.ireturn, 1) := by decide +kernel
theorem dX6_needChoice_30 : decode cX6_needChoice 30 = .ok (.aload_n 0, 1) := by decide +kernel
theorem dX6_needChoice_31 : decode cX6_needChoice 31 = .ok (.iload_n 1, 1) := by decide +kernel
theorem dX6_needChoice_32 : decode cX6_needChoice 32 = .ok (.invokevirtual 328, 3) := by decide +kernel
theorem dX6_needChoice_35 : decode cX6_needChoice 35 = .ok (.ifCond .eq 12, 3) := by decide +kernel
theorem dX6_needChoice_38 : decode cX6_needChoice 38 = .ok (.aload_n 0, 1) := by decide +kernel
theorem dX6_needChoice_39 : decode cX6_needChoice 39 = .ok (.getfield 13, 3) := by decide +kernel
theorem dX6_needChoice_42 : decode cX6_needChoice 42 = .ok (.iload_n 2, 1) := by decide +kernel
theorem dX6_needChoice_43 : decode cX6_needChoice 43 = .ok (.iaload, 1) := by decide +kernel
theorem dX6_needChoice_44 : decode cX6_needChoice 44 = .ok (.ifCond .ge 9, 3) := by decide +kernel
theorem dX6_needChoice_47 : decode cX6_needChoice 47 = .ok (.aload_n 0, 1) := by decide +kernel
theorem dX6_needChoice_48 : decode cX6_needChoice 48 = .ok (.iconst 1, 1) := by decide +kernel
theorem dX6_needChoice_49 : decode cX6_needChoice 49 = .ok (.invokevirtual 122, 3) := by decide +kernel
theorem dX6_needChoice_52 : decode cX6_needChoice 52 = .ok (.ireturn, 1) := by decide +kernel
theorem dX6_needChoice_53 : decode cX6_needChoice 53 = .ok (.aload_n 0, 1) := by decide +kernel
theorem dX6_needChoice_54 : decode cX6_needChoice 54 = .ok (.getfield 13, 3) := by decide +kernel
theorem dX6_needChoice_57 : decode cX6_needChoice 57 = .ok (.iload_n 2, 1) := by decide +kernel
theorem dX6_needChoice_58 : decode cX6_needChoice 58 = .ok (.iaload, 1) := by decide +kernel
theorem dX6_needChoice_59 : decode cX6_needChoice 59 = .ok (.bipush 6, 2) := by decide +kernel
theorem dX6_needChoice_61 : decode cX6_needChoice 61 = .ok (.if_icmp .eq 9, 3) := by decide +kernel
theorem dX6_needChoice_64 : decode cX6_needChoice 64 = .ok (.aload_n 0, 1) := by decide +kernel
theorem dX6_needChoice_65 : decode cX6_needChoice 65 = .ok (.iconst 5, 1) := by decide +kernel
theorem dX6_needChoice_66 : decode cX6_needChoice 66 = .ok (.invokevirtual 122, 3) := by decide +kernel
theorem dX6_needChoice_69 : decode cX6_needChoice 69 = .ok (.ireturn, 1) := by decide +kernel
theorem dX6_needChoice_70 : decode cX6_needChoice 70 = .ok (.iconst 1, 1) := by decide +kernel
theorem dX6_needChoice_71 : decode cX6_needChoice 71 = .ok (.istore 4, 2) := by decide +kernel
theorem dX6_needChoice_73 : decode cX6_needChoice 73 = .ok (.iconst 0, 1) := by decide +kernel
theorem dX6_needChoice_74 : decode cX6_needChoice 74 = .ok (.istore 5, 2) := by decide +kernel
theorem dX6_needChoice_76 : decode cX6_needChoice 76 = .ok (.iload 5, 2) := by decide +kernel
theorem dX6_needChoice_78 : decode cX6_needChoice 78 = .ok (.bipush 6, 2) := by decide +kernel
theorem dX6_needChoice_80 : decode cX6_needChoice 80 = .ok (.if_icmp .ge 38, 3) := by decide +kernel
theorem dX6_needChoice_83 : decode cX6_needChoice 83 = .ok (.iload 4, 2) := by decide +kernel
theorem dX6_needChoice_85 : decode cX6_needChoice 85 = .ok (.ifCond .eq 24, 3) := by decide +kernel
theorem dX6_needChoice_88 : decode cX6_needChoice 88 = .ok (.aload_n 0, 1) := by decide +kernel
theorem dX6_needChoice_89 : decode cX6_needChoice 89 = .ok (.iload_n 2, 1) := by decide +kernel
theorem dX6_needChoice_90 : decode cX6_needChoice 90 = .ok (.iload 5, 2) := by decide +kernel
theorem dX6_needChoice_92 : decode cX6_needChoice 92 = .ok (.invokevirtual 126, 3) := by decide +kernel
theorem dX6_needChoice_95 : decode cX6_needChoice 95 = .ok (.iconst 0, 1) := by decide +kernel
theorem dX6_needChoice_96 : decode cX6_needChoice 96 = .ok (.sipush 999, 3) := by decide +kernel
theorem dX6_needChoice_99 : decode cX6_needChoice 99 = .ok (.invokestatic 104, 3) := by decide +kernel
theorem dX6_needChoice_102 : decode cX6_needChoice 102 = .ok (.ifCond .eq 7, 3) := by decide +kernel
theorem dX6_needChoice_105 : decode cX6_needChoice 105 = .ok (.iconst 1, 1) := by decide +kernel
theorem dX6_needChoice_106 : decode cX6_needChoice 106 = .ok (.goto 4, 3) := by decide +kernel
theorem dX6_needChoice_109 : decode cX6_needChoice 109 = .ok (.iconst 0, 1) := by decide +kernel
theorem dX6_needChoice_110 : decode cX6_needChoice 110 = .ok (.istore 4, 2) := by decide +kernel
theorem dX6_needChoice_112 : decode cX6_needChoice 112 = .ok (.iinc 5 1, 3) := by decide +kernel
theorem dX6_needChoice_115 : decode cX6_needChoice 115 = .ok (.goto (-39), 3) := by decide +kernel
theorem dX6_needChoice_118 : decode cX6_needChoice 118 = .ok (.iload 4, 2) := by decide +kernel
theorem dX6_needChoice_120 : decode cX6_needChoice 120 = .ok (.ifCond .ne 11, 3) := by decide +kernel
theorem dX6_needChoice_123 : decode cX6_needChoice 123 = .ok (.aload_n 0, 1) := by decide +kernel
theorem dX6_needChoice_124 : decode cX6_needChoice 124 = .ok (.iconst 3, 1) := by decide +kernel
theorem dX6_needChoice_125 : decode cX6_needChoice 125 = .ok (.invokevirtual 122, 3) := by decide +kernel
theorem dX6_needChoice_128 : decode cX6_needChoice 128 = .ok (.goto 18, 3) := by decide +kernel
theorem dX6_needChoice_131 : decode cX6_needChoice 131 = .ok (.aload_n 0, 1) := by decide +kernel
theorem dX6_needChoice_132 : decode cX6_needChoice 132 = .ok (.iload_n 1, 1) := by decide +kernel
theorem dX6_needChoice_133 : decode cX6_needChoice 133 = .ok (.invokevirtual 342, 3) := by decide +kernel
theorem dX6_needChoice_136 : decode cX6_needChoice 136 = .ok (.iload_n 3, 1) := by decide +kernel
theorem dX6_needChoice_137 : decode cX6_needChoice 137 = .ok (.if_icmp .le 8, 3) := by decide +kernel
theorem dX6_needChoice_140 : decode cX6_needChoice 140 = .ok (.bipush (-6), 2) := by decide +kernel
theorem dX6_needChoice_142 : decode cX6_needChoice 142 = .ok (.goto 4, 3) := by decide +kernel
theorem dX6_needChoice_145 : decode cX6_needChoice 145 = .ok (.iconst 0, 1) := by decide +kernel
theorem dX6_needChoice_146 : decode cX6_needChoice 146 = .ok (.ireturn, 1) := by decide +kernel
theorem dX6_waysOf_0 : decode cX6_waysOf 0 = .ok (.iconst 1, 1) := by decide +kernel
theorem dX6_waysOf_1 : decode cX6_waysOf 1 = .ok (.istore_n 2, 1) := by decide +kernel
theorem dX6_waysOf_2 : decode cX6_waysOf 2 = .ok (.iconst 0, 1) := by decide +kernel
theorem dX6_waysOf_3 : decode cX6_waysOf 3 = .ok (.istore_n 3, 1) := by decide +kernel
theorem dX6_waysOf_4 : decode cX6_waysOf 4 = .ok (.iload_n 3, 1) := by decide +kernel
theorem dX6_waysOf_5 : decode cX6_waysOf 5 = .ok (.iconst 4, 1) := by decide +kernel
theorem dX6_waysOf_6 : decode cX6_waysOf 6 = .ok (.if_icmp .ge 28, 3) := by decide +kernel
theorem dX6_waysOf_9 : decode cX6_waysOf 9 = .ok (.iload_n 2, 1) := by decide +kernel
theorem dX6_waysOf_10 : decode cX6_waysOf 10 = .ok (.aload_n 0, 1) := by decide +kernel
theorem dX6_waysOf_11 : decode cX6_waysOf 11 = .ok (.iload_n 3, 1) := by decide +kernel
theorem dX6_waysOf_12 : decode cX6_waysOf 12 = .ok (.invokevirtual 204, 3) := by decide +kernel
theorem dX6_waysOf_15 : decode cX6_waysOf 15 = .ok (.ifCond .eq 10, 3) := by decide +kernel
theorem dX6_waysOf_18 : decode cX6_waysOf 18 = .ok (.iload_n 1, 1) := by decide +kernel
theorem dX6_waysOf_19 : decode cX6_waysOf 19 = .ok (.invokestatic 325, 3) := by decide +kernel
theorem dX6_waysOf_22 : decode cX6_waysOf 22 = .ok (.goto 4, 3) := by decide +kernel
theorem dX6_waysOf_25 : decode cX6_waysOf 25 = .ok (.iconst 1, 1) := by decide +kernel
theorem dX6_waysOf_26 : decode cX6_waysOf 26 = .ok (.imul, 1) := by decide +kernel
theorem dX6_waysOf_27 : decode cX6_waysOf 27 = .ok (.istore_n 2, 1) := by decide +kernel
theorem dX6_waysOf_28 : decode cX6_waysOf 28 = .ok (.iinc 3 1, 3) := by decide +kernel
theorem dX6_waysOf_31 : decode cX6_waysOf 31 = .ok (.goto (-27), 3) := by decide +kernel
theorem dX6_waysOf_34 : decode cX6_waysOf 34 = .ok (.iload_n 2, 1) := by decide +kernel
theorem dX6_waysOf_35 : decode cX6_waysOf 35 = .ok (.ireturn, 1) := by decide +kernel
theorem dX6_stuffAt_0 : decode cX6_stuffAt 0 = .ok (.iload_n 1, 1) := by decide +kernel
theorem dX6_stuffAt_1 : decode cX6_stuffAt 1 = .ok (.istore_n 2, 1) := by decide +kernel
theorem dX6_stuffAt_2 : decode cX6_stuffAt 2 = .ok (.iconst 0, 1) := by decide +kernel
theorem dX6_stuffAt_3 : decode cX6_stuffAt 3 = .ok (.istore_n 3, 1) := by decide +kernel
theorem dX6_stuffAt_4 : decode cX6_stuffAt 4 = .ok (.iload_n 0, 1) := by decide +kernel
theorem dX6_stuffAt_5 : decode cX6_stuffAt 5 = .ok (.iload_n 3, 1) := by decide +kernel
theorem dX6_stuffAt_6 : decode cX6_stuffAt 6 = .ok (.invokestatic 286, 3) := by decide +kernel
theorem dX6_stuffAt_9 : decode cX6_stuffAt 9 = .ok (.ifCond .eq 7, 3) := by decide +kernel
theorem dX6_stuffAt_12 : decode cX6_stuffAt 12 = .ok (.iload_n 2, 1) := by decide +kernel
theorem dX6_stuffAt_13 : decode cX6_stuffAt 13 = .ok (.ifCond .le 25, 3) := by decide +kernel
theorem dX6_stuffAt_16 : decode cX6_stuffAt 16 = .ok (.iload_n 2, 1) := by decide +kernel
theorem dX6_stuffAt_17 : decode cX6_stuffAt 17 = .ok (.iload_n 0, 1) := by decide +kernel
theorem dX6_stuffAt_18 : decode cX6_stuffAt 18 = .ok (.iload_n 3, 1) := by decide +kernel
theorem dX6_stuffAt_19 : decode cX6_stuffAt 19 = .ok (.invokestatic 286, 3) := by decide +kernel
theorem dX6_stuffAt_22 : decode cX6_stuffAt 22 = .ok (.ifCond .eq 7, 3) := by decide +kernel
theorem dX6_stuffAt_25 : decode cX6_stuffAt 25 = .ok (.iconst 1, 1) := by decide +kernel
theorem dX6_stuffAt_26 : decode cX6_stuffAt 26 = .ok (.goto 4, 3) := by decide +kernel
theorem dX6_stuffAt_29 : decode cX6_stuffAt 29 = .ok (.iconst 0, 1) := by decide +kernel
theorem dX6_stuffAt_30 : decode cX6_stuffAt 30 = .ok (.isub, 1) := by decide +kernel
theorem dX6_stuffAt_31 : decode cX6_stuffAt 31 = .ok (.istore_n 2, 1) := by decide +kernel
theorem dX6_stuffAt_32 : decode cX6_stuffAt 32 = .ok (.iinc 3 1, 3) := by decide +kernel
theorem dX6_stuffAt_35 : decode cX6_stuffAt 35 = .ok (.goto (-31), 3) := by decide +kernel
theorem dX6_stuffAt_38 : decode cX6_stuffAt 38 = .ok (.iload_n 3, 1) := by decide +kernel
theorem dX6_stuffAt_39 : decode cX6_stuffAt 39 = .ok (.ireturn, 1) := by decide +kernel
theorem dX6_layChoice_0 : decode cX6_layChoice 0 = .ok (.iload_n 1, 1) := by decide +kernel
theorem dX6_layChoice_1 : decode cX6_layChoice 1 = .ok (.istore 4, 2) := by decide +kernel
theorem dX6_layChoice_3 : decode cX6_layChoice 3 = .ok (.iconst 0, 1) := by decide +kernel
theorem dX6_layChoice_4 : decode cX6_layChoice 4 = .ok (.istore 5, 2) := by decide +kernel
theorem dX6_layChoice_6 : decode cX6_layChoice 6 = .ok (.iconst 3, 1) := by decide +kernel
theorem dX6_layChoice_7 : decode cX6_layChoice 7 = .ok (.istore 6, 2) := by decide +kernel
theorem dX6_layChoice_9 : decode cX6_layChoice 9 = .ok (.iload 6, 2) := by decide +kernel
theorem dX6_layChoice_11 : decode cX6_layChoice 11 = .ok (.ifCond .lt 70, 3) := by decide +kernel
theorem dX6_layChoice_14 : decode cX6_layChoice 14 = .ok (.aload_n 0, 1) := by decide +kernel
theorem dX6_layChoice_15 : decode cX6_layChoice 15 = .ok (.iload 6, 2) := by decide +kernel
theorem dX6_layChoice_17 : decode cX6_layChoice 17 = .ok (.invokevirtual 204, 3) := by decide +kernel
theorem dX6_layChoice_20 : decode cX6_layChoice 20 = .ok (.ifCond .eq 55, 3) := by decide +kernel
theorem dX6_layChoice_23 : decode cX6_layChoice 23 = .ok (.aload_n 0, 1) := by decide +kernel
theorem dX6_layChoice_24 : decode cX6_layChoice 24 = .ok (.getfield 66, 3) := by decide +kernel
theorem dX6_layChoice_27 : decode cX6_layChoice 27 = .ok (.iload 6, 2) := by decide +kernel
theorem dX6_layChoice_29 : decode cX6_layChoice 29 = .ok (.iload_n 2, 1) := by decide +kernel
theorem dX6_layChoice_30 : decode cX6_layChoice 30 = .ok (.iload 4, 2) := by decide +kernel
theorem dX6_layChoice_32 : decode cX6_layChoice 32 = .ok (.iload_n 2, 1) := by decide +kernel
theorem dX6_layChoice_33 : decode cX6_layChoice 33 = .ok (.invokestatic 325, 3) := by decide +kernel
theorem dX6_layChoice_36 : decode cX6_layChoice 36 = .ok (.irem, 1) := by decide +kernel
theorem dX6_layChoice_37 : decode cX6_layChoice 37 = .ok (.invokestatic 345, 3) := by decide +kernel
theorem dX6_layChoice_40 : decode cX6_layChoice 40 = .ok (.iastore, 1) := by decide +kernel
theorem dX6_layChoice_41 : decode cX6_layChoice 41 = .ok (.iload 4, 2) := by decide +kernel
theorem dX6_layChoice_43 : decode cX6_layChoice 43 = .ok (.iload_n 2, 1) := by decide +kernel
theorem dX6_layChoice_44 : decode cX6_layChoice 44 = .ok (.invokestatic 325, 3) := by decide +kernel
theorem dX6_layChoice_47 : decode cX6_layChoice 47 = .ok (.idiv, 1) := by decide +kernel
theorem dX6_layChoice_48 : decode cX6_layChoice 48 = .ok (.istore 4, 2) := by decide +kernel
theorem dX6_layChoice_50 : decode cX6_layChoice 50 = .ok (.iload 5, 2) := by decide +kernel
theorem dX6_layChoice_52 : decode cX6_layChoice 52 = .ok (.aload_n 0, 1) := by decide +kernel
theorem dX6_layChoice_53 : decode cX6_layChoice 53 = .ok (.iload_n 3, 1) := by decide +kernel
theorem dX6_layChoice_54 : decode cX6_layChoice 54 = .ok (.aload_n 0, 1) := by decide +kernel
theorem dX6_layChoice_55 : decode cX6_layChoice 55 = .ok (.getfield 66, 3) := by decide +kernel
theorem dX6_layChoice_58 : decode cX6_layChoice 58 = .ok (.iload 6, 2) := by decide +kernel
theorem dX6_layChoice_60 : decode cX6_layChoice 60 = .ok (.iaload, 1) := by decide +kernel
theorem dX6_layChoice_61 : decode cX6_layChoice 61 = .ok (.invokevirtual 126, 3) := by decide +kernel
theorem dX6_layChoice_64 : decode cX6_layChoice 64 = .ok (.aload_n 0, 1) := by decide +kernel
theorem dX6_layChoice_65 : decode cX6_layChoice 65 = .ok (.getfield 75, 3) := by decide +kernel
theorem dX6_layChoice_68 : decode cX6_layChoice 68 = .ok (.iload 6, 2) := by decide +kernel
theorem dX6_layChoice_70 : decode cX6_layChoice 70 = .ok (.iaload, 1) := by decide +kernel
theorem dX6_layChoice_71 : decode cX6_layChoice 71 = .ok (.imul, 1) := by decide +kernel
theorem dX6_layChoice_72 : decode cX6_layChoice 72 = .ok (.iadd, 1) := by decide +kernel
theorem dX6_layChoice_73 : decode cX6_layChoice 73 = .ok (.istore 5, 2) := by decide +kernel
theorem dX6_layChoice_75 : decode cX6_layChoice 75 = .ok (.iinc 6 (-1), 3) := by decide +kernel
theorem dX6_layChoice_78 : decode cX6_layChoice 78 = .ok (.goto (-69), 3) := by decide +kernel
theorem dX6_layChoice_81 : decode cX6_layChoice 81 = .ok (.iload 5, 2) := by decide +kernel
theorem dX6_layChoice_83 : decode cX6_layChoice 83 = .ok (.ireturn, 1) := by decide +kernel
theorem dX6_choose_0 : decode cX6_choose 0 = .ok (.aload_n 0, 1) := by decide +kernel
theorem dX6_choose_1 : decode cX6_choose 1 = .ok (.iload_n 1, 1) := by decide +kernel
theorem dX6_choose_2 : decode cX6_choose 2 = .ok (.iload_n 2, 1) := by decide +kernel
theorem dX6_choose_3 : decode cX6_choose 3 = .ok (.iload_n 3, 1) := by decide +kernel
theorem dX6_choose_4 : decode cX6_choose 4 = .ok (.invokevirtual 348, 3) := by decide +kernel
theorem dX6_choose_7 : decode cX6_choose 7 = .ok (.istore 4, 2) := by decide +kernel
theorem dX6_choose_9 : decode cX6_choose 9 = .ok (.iload 4, 2) := by decide +kernel
theorem dX6_choose_11 : decode cX6_choose 11 = .ok (.ifCond .ge 6, 3) := by decide +kernel
theorem dX6_choose_14 : decode cX6_choose 14 = .ok (.iload 4, 2) := by decide +kernel
theorem dX6_choose_16 : decode cX6_choose 16 = .ok (.ireturn, 1) := by decide +kernel
theorem dX6_choose_17 : decode cX6_choose 17 = .ok (.iconst 0, 1) := by decide +kernel
theorem dX6_choose_18 : decode cX6_choose 18 = .ok (.istore 5, 2) := by decide +kernel
theorem dX6_choose_20 : decode cX6_choose 20 = .ok (.iload 5, 2) := by decide +kernel
theorem dX6_choose_22 : decode cX6_choose 22 = .ok (.iconst 4, 1) := by decide +kernel
theorem dX6_choose_23 : decode cX6_choose 23 = .ok (.if_icmp .ge 23, 3) := by decide +kernel
theorem dX6_choose_26 : decode cX6_choose 26 = .ok (.aload_n 0, 1) := by decide +kernel
theorem dX6_choose_27 : decode cX6_choose 27 = .ok (.getfield 90, 3) := by decide +kernel
theorem dX6_choose_30 : decode cX6_choose 30 = .ok (.iload 5, 2) := by decide +kernel
theorem dX6_choose_32 : decode cX6_choose 32 = .ok (.aload_n 0, 1) := by decide +kernel
theorem dX6_choose_33 : decode cX6_choose 33 = .ok (.getfield 66, 3) := by decide +kernel
theorem dX6_choose_36 : decode cX6_choose 36 = .ok (.iload 5, 2) := by decide +kernel
theorem dX6_choose_38 : decode cX6_choose 38 = .ok (.iaload, 1) := by decide +kernel
theorem dX6_choose_39 : decode cX6_choose 39 = .ok (.iastore, 1) := by decide +kernel
theorem dX6_choose_40 : decode cX6_choose 40 = .ok (.iinc 5 1, 3) := by decide +kernel
theorem dX6_choose_43 : decode cX6_choose 43 = .ok (.goto (-23), 3) := by decide +kernel
theorem dX6_choose_46 : decode cX6_choose 46 = .ok (.bipush (-9), 2) := by decide +kernel
theorem dX6_choose_48 : decode cX6_choose 48 = .ok (.istore 5, 2) := by decide +kernel
theorem dX6_choose_50 : decode cX6_choose 50 = .ok (.iconst 0, 1) := by decide +kernel
theorem dX6_choose_51 : decode cX6_choose 51 = .ok (.istore 6, 2) := by decide +kernel
theorem dX6_choose_53 : decode cX6_choose 53 = .ok (.aload_n 0, 1) := by decide +kernel
theorem dX6_choose_54 : decode cX6_choose 54 = .ok (.iload_n 1, 1) := by decide +kernel
theorem dX6_choose_55 : decode cX6_choose 55 = .ok (.invokevirtual 342, 3) := by decide +kernel
theorem dX6_choose_58 : decode cX6_choose 58 = .ok (.istore 7, 2) := by decide +kernel
theorem dX6_choose_60 : decode cX6_choose 60 = .ok (.iconst 0, 1) := by decide +kernel
theorem dX6_choose_61 : decode cX6_choose 61 = .ok (.istore 8, 2) := by decide +kernel
theorem dX6_choose_63 : decode cX6_choose 63 = .ok (.iload 8, 2) := by decide +kernel
theorem dX6_choose_65 : decode cX6_choose 65 = .ok (.iload 7, 2) := by decide +kernel
theorem dX6_choose_67 : decode cX6_choose 67 = .ok (.if_icmp .ge 91, 3) := by decide +kernel
theorem dX6_choose_70 : decode cX6_choose 70 = .ok (.aload_n 0, 1) := by decide +kernel
theorem dX6_choose_71 : decode cX6_choose 71 = .ok (.iload 8, 2) := by decide +kernel
theorem dX6_choose_73 : decode cX6_choose 73 = .ok (.iload_n 1, 1) := by decide +kernel
theorem dX6_choose_74 : decode cX6_choose 74 = .ok (.iload_n 2, 1) := by decide +kernel
theorem dX6_choose_75 : decode cX6_choose 75 = .ok (.invokevirtual 352, 3) := by decide +kernel
theorem dX6_choose_78 : decode cX6_choose 78 = .ok (.istore 9, 2) := by decide +kernel
theorem dX6_choose_80 : decode cX6_choose 80 = .ok (.iload 5, 2) := by decide +kernel
theorem dX6_choose_82 : decode cX6_choose 82 = .ok (.bipush (-9), 2) := by decide +kernel
theorem dX6_choose_84 : decode cX6_choose 84 = .ok (.if_icmp .eq 10, 3) := by decide +kernel
theorem dX6_choose_87 : decode cX6_choose 87 = .ok (.iload 9, 2) := by decide +kernel
theorem dX6_choose_89 : decode cX6_choose 89 = .ok (.iload 5, 2) := by decide +kernel
theorem dX6_choose_91 : decode cX6_choose 91 = .ok (.if_icmp .ge 61, 3) := by decide +kernel
theorem dX6_choose_94 : decode cX6_choose 94 = .ok (.aload_n 0, 1) := by decide +kernel
theorem dX6_choose_95 : decode cX6_choose 95 = .ok (.invokevirtual 278, 3) := by decide +kernel
theorem dX6_choose_98 : decode cX6_choose 98 = .ok (.ifCond .ne 54, 3) := by decide +kernel
theorem dX6_choose_101 : decode cX6_choose 101 = .ok (.iload 9, 2) := by decide +kernel
theorem dX6_choose_103 : decode cX6_choose 103 = .ok (.istore 5, 2) := by decide +kernel
theorem dX6_choose_105 : decode cX6_choose 105 = .ok (.iconst 0, 1) := by decide +kernel
theorem dX6_choose_106 : decode cX6_choose 106 = .ok (.istore 6, 2) := by decide +kernel
theorem dX6_choose_108 : decode cX6_choose 108 = .ok (.iconst 3, 1) := by decide +kernel
theorem dX6_choose_109 : decode cX6_choose 109 = .ok (.istore 10, 2) := by decide +kernel
theorem dX6_choose_111 : decode cX6_choose 111 = .ok (.iload 10, 2) := by decide +kernel
theorem dX6_choose_113 : decode cX6_choose 113 = .ok (.ifCond .lt 39, 3) := by decide +kernel
theorem dX6_choose_116 : decode cX6_choose 116 = .ok (.bipush 10, 2) := by decide +kernel
theorem dX6_choose_118 : decode cX6_choose 118 = .ok (.iload 6, 2) := by decide +kernel
theorem dX6_choose_120 : decode cX6_choose 120 = .ok (.imul, 1) := by decide +kernel
theorem dX6_choose_121 : decode cX6_choose 121 = .ok (.aload_n 0, 1) := by decide +kernel
theorem dX6_choose_122 : decode cX6_choose 122 = .ok (.iload 10, 2) := by decide +kernel
theorem dX6_choose_124 : decode cX6_choose 124 = .ok (.invokevirtual 204, 3) := by decide +kernel
theorem dX6_choose_127 : decode cX6_choose 127 = .ok (.ifCond .eq 15, 3) := by decide +kernel
theorem dX6_choose_130 : decode cX6_choose 130 = .ok (.aload_n 0, 1) := by decide +kernel
theorem dX6_choose_131 : decode cX6_choose 131 = .ok (.getfield 66, 3) := by decide +kernel
theorem dX6_choose_134 : decode cX6_choose 134 = .ok (.iload 10, 2) := by decide +kernel
theorem dX6_choose_136 : decode cX6_choose 136 = .ok (.iaload, 1) := by decide +kernel
theorem dX6_choose_137 : decode cX6_choose 137 = .ok (.iconst 1, 1) := by decide +kernel
theorem dX6_choose_138 : decode cX6_choose 138 = .ok (.iadd, 1) := by decide +kernel
theorem dX6_choose_139 : decode cX6_choose 139 = .ok (.goto 4, 3) := by decide +kernel
theorem dX6_choose_142 : decode cX6_choose 142 = .ok (.iconst 0, 1) := by decide +kernel
theorem dX6_choose_143 : decode cX6_choose 143 = .ok (.iadd, 1) := by decide +kernel
theorem dX6_choose_144 : decode cX6_choose 144 = .ok (.istore 6, 2) := by decide +kernel
theorem dX6_choose_146 : decode cX6_choose 146 = .ok (.iinc 10 (-1), 3) := by decide +kernel
theorem dX6_choose_149 : decode cX6_choose 149 = .ok (.goto (-38), 3) := by decide +kernel
theorem dX6_choose_152 : decode cX6_choose 152 = .ok (.iinc 8 1, 3) := by decide +kernel
theorem dX6_choose_155 : decode cX6_choose 155 = .ok (.goto (-92), 3) := by decide +kernel
theorem dX6_choose_158 : decode cX6_choose 158 = .ok (.iconst 0, 1) := by decide +kernel
theorem dX6_choose_159 : decode cX6_choose 159 = .ok (.istore 8, 2) := by decide +kernel
theorem dX6_choose_161 : decode cX6_choose 161 = .ok (.iload 8, 2) := by decide +kernel
theorem dX6_choose_163 : decode cX6_choose 163 = .ok (.iconst 4, 1) := by decide +kernel
theorem dX6_choose_164 : decode cX6_choose 164 = .ok (.if_icmp .ge 23, 3) := by decide +kernel
theorem dX6_choose_167 : decode cX6_choose 167 = .ok (.aload_n 0, 1) := by decide +kernel
theorem dX6_choose_168 : decode cX6_choose 168 = .ok (.getfield 66, 3) := by decide +kernel
theorem dX6_choose_171 : decode cX6_choose 171 = .ok (.iload 8, 2) := by decide +kernel
theorem dX6_choose_173 : decode cX6_choose 173 = .ok (.aload_n 0, 1) := by decide +kernel
theorem dX6_choose_174 : decode cX6_choose 174 = .ok (.getfield 90, 3) := by decide +kernel
theorem dX6_choose_177 : decode cX6_choose 177 = .ok (.iload 8, 2) := by decide +kernel
theorem dX6_choose_179 : decode cX6_choose 179 = .ok (.iaload, 1) := by decide +kernel
theorem dX6_choose_180 : decode cX6_choose 180 = .ok (.iastore, 1) := by decide +kernel
theorem dX6_choose_181 : decode cX6_choose 181 = .ok (.iinc 8 1, 3) := by decide +kernel
theorem dX6_choose_184 : decode cX6_choose 184 = .ok (.goto (-23), 3) := by decide +kernel
theorem dX6_choose_187 : decode cX6_choose 187 = .ok (.iload 5, 2) := by decide +kernel
theorem dX6_choose_189 : decode cX6_choose 189 = .ok (.bipush (-9), 2) := by decide +kernel
theorem dX6_choose_191 : decode cX6_choose 191 = .ok (.if_icmp .ne 8, 3) := by decide +kernel
theorem dX6_choose_194 : decode cX6_choose 194 = .ok (.bipush (-9), 2) := by decide +kernel
theorem dX6_choose_196 : decode cX6_choose 196 = .ok (.goto 11, 3) := by decide +kernel
theorem dX6_choose_199 : decode cX6_choose 199 = .ok (.aload_n 0, 1) := by decide +kernel
theorem dX6_choose_200 : decode cX6_choose 200 = .ok (.iload 6, 2) := by decide +kernel
theorem dX6_choose_202 : decode cX6_choose 202 = .ok (.iload 5, 2) := by decide +kernel
theorem dX6_choose_204 : decode cX6_choose 204 = .ok (.invokevirtual 130, 3) := by decide +kernel
theorem dX6_choose_207 : decode cX6_choose 207 = .ok (.ireturn, 1) := by decide +kernel
theorem dX6_isLeakAt_0 : decode cX6_isLeakAt 0 = .ok (.iconst 1, 1) := by decide +kernel
theorem dX6_isLeakAt_1 : decode cX6_isLeakAt 1 = .ok (.istore 5, 2) := by decide +kernel
theorem dX6_isLeakAt_3 : decode cX6_isLeakAt 3 = .ok (.iconst 0, 1) := by decide +kernel
theorem dX6_isLeakAt_4 : decode cX6_isLeakAt 4 = .ok (.istore 6, 2) := by decide +kernel
theorem dX6_isLeakAt_6 : decode cX6_isLeakAt 6 = .ok (.iload 6, 2) := by decide +kernel
theorem dX6_isLeakAt_8 : decode cX6_isLeakAt 8 = .ok (.iconst 4, 1) := by decide +kernel
theorem dX6_isLeakAt_9 : decode cX6_isLeakAt 9 = .ok (.if_icmp .ge 71, 3) := by decide +kernel
theorem dX6_isLeakAt_12 : decode cX6_isLeakAt 12 = .ok (.iload 6, 2) := by decide +kernel
theorem dX6_isLeakAt_14 : decode cX6_isLeakAt 14 = .ok (.iload_n 1, 1) := by decide +kernel
theorem dX6_isLeakAt_15 : decode cX6_isLeakAt 15 = .ok (.if_icmp .ge 10, 3) := by decide +kernel
theorem dX6_isLeakAt_18 : decode cX6_isLeakAt 18 = .ok (.iload_n 1, 1) := by decide +kernel
theorem dX6_isLeakAt_19 : decode cX6_isLeakAt 19 = .ok (.iload 6, 2) := by decide +kernel
theorem dX6_isLeakAt_21 : decode cX6_isLeakAt 21 = .ok (.isub, 1) := by decide +kernel
theorem dX6_isLeakAt_22 : decode cX6_isLeakAt 22 = .ok (.goto 7, 3) := by decide +kernel
theorem dX6_isLeakAt_25 : decode cX6_isLeakAt 25 = .ok (.iload 6, 2) := by decide +kernel
theorem dX6_isLeakAt_27 : decode cX6_isLeakAt 27 = .ok (.iload_n 1, 1) := by decide +kernel
theorem dX6_isLeakAt_28 : decode cX6_isLeakAt 28 = .ok (.isub, 1) := by decide +kernel
theorem dX6_isLeakAt_29 : decode cX6_isLeakAt 29 = .ok (.istore 7, 2) := by decide +kernel
theorem dX6_isLeakAt_31 : decode cX6_isLeakAt 31 = .ok (.iload_n 2, 1) := by decide +kernel
theorem dX6_isLeakAt_32 : decode cX6_isLeakAt 32 = .ok (.iload 7, 2) := by decide +kernel
theorem dX6_isLeakAt_34 : decode cX6_isLeakAt 34 = .ok (.iconst 1, 1) := by decide +kernel
theorem dX6_isLeakAt_35 : decode cX6_isLeakAt 35 = .ok (.iadd, 1) := by decide +kernel
theorem dX6_isLeakAt_36 : decode cX6_isLeakAt 36 = .ok (.idiv, 1) := by decide +kernel
theorem dX6_isLeakAt_37 : decode cX6_isLeakAt 37 = .ok (.aload_n 0, 1) := by decide +kernel
theorem dX6_isLeakAt_38 : decode cX6_isLeakAt 38 = .ok (.iload_n 3, 1) := by decide +kernel
theorem dX6_isLeakAt_39 : decode cX6_isLeakAt 39 = .ok (.iload 6, 2) := by decide +kernel
theorem dX6_isLeakAt_41 : decode cX6_isLeakAt 41 = .ok (.invokevirtual 126, 3) := by decide +kernel
theorem dX6_isLeakAt_44 : decode cX6_isLeakAt 44 = .ok (.isub, 1) := by decide +kernel
theorem dX6_isLeakAt_45 : decode cX6_isLeakAt 45 = .ok (.istore 8, 2) := by decide +kernel
theorem dX6_isLeakAt_47 : decode cX6_isLeakAt 47 = .ok (.iload 5, 2) := by decide +kernel
theorem dX6_isLeakAt_49 : decode cX6_isLeakAt 49 = .ok (.ifCond .eq 22, 3) := by decide +kernel
theorem dX6_isLeakAt_52 : decode cX6_isLeakAt 52 = .ok (.iload 8, 2) := by decide +kernel
theorem dX6_isLeakAt_54 : decode cX6_isLeakAt 54 = .ok (.iload 4, 2) := by decide +kernel
theorem dX6_isLeakAt_56 : decode cX6_isLeakAt 56 = .ok (.if_icmp .gt 15, 3) := by decide +kernel
theorem dX6_isLeakAt_59 : decode cX6_isLeakAt 59 = .ok (.iload 8, 2) := by decide +kernel
theorem dX6_isLeakAt_61 : decode cX6_isLeakAt 61 = .ok (.iload 4, 2) := by decide +kernel
theorem dX6_isLeakAt_63 : decode cX6_isLeakAt 63 = .ok (.ineg, 1) := by decide +kernel
theorem dX6_isLeakAt_64 : decode cX6_isLeakAt 64 = .ok (.if_icmp .lt 7, 3) := by decide +kernel
theorem dX6_isLeakAt_67 : decode cX6_isLeakAt 67 = .ok (.iconst 1, 1) := by decide +kernel
theorem dX6_isLeakAt_68 : decode cX6_isLeakAt 68 = .ok (.goto 4, 3) := by decide +kernel
theorem dX6_isLeakAt_71 : decode cX6_isLeakAt 71 = .ok (.iconst 0, 1) := by decide +kernel
theorem dX6_isLeakAt_72 : decode cX6_isLeakAt 72 = .ok (.istore 5, 2) := by decide +kernel
theorem dX6_isLeakAt_74 : decode cX6_isLeakAt 74 = .ok (.iinc 6 1, 3) := by decide +kernel
theorem dX6_isLeakAt_77 : decode cX6_isLeakAt 77 = .ok (.goto (-71), 3) := by decide +kernel
theorem dX6_isLeakAt_80 : decode cX6_isLeakAt 80 = .ok (.iload 5, 2) := by decide +kernel
theorem dX6_isLeakAt_82 : decode cX6_isLeakAt 82 = .ok (.ireturn, 1) := by decide +kernel
theorem dX6_sniff_0 : decode cX6_sniff 0 = .ok (.iload_n 1, 1) := by decide +kernel
theorem dX6_sniff_1 : decode cX6_sniff 1 = .ok (.invokestatic 118, 3) := by decide +kernel
theorem dX6_sniff_4 : decode cX6_sniff 4 = .ok (.ifCond .eq 13, 3) := by decide +kernel
theorem dX6_sniff_7 : decode cX6_sniff 7 = .ok (.iload_n 2, 1) := by decide +kernel
theorem dX6_sniff_8 : decode cX6_sniff 8 = .ok (.iconst 0, 1) := by decide +kernel
theorem dX6_sniff_9 : decode cX6_sniff 9 = .ok (.bipush 99, 2) := by decide +kernel
theorem dX6_sniff_11 : decode cX6_sniff 11 = .ok (.invokestatic 104, 3) := by decide +kernel
theorem dX6_sniff_14 : decode cX6_sniff 14 = .ok (.ifCond .ne 5, 3) := by decide +kernel
theorem dX6_sniff_17 : decode cX6_sniff 17 = .ok (.iconst (-1), 1) := by decide +kernel
theorem dX6_sniff_18 : decode cX6_sniff 18 = .ok (.ireturn, 1) := by decide +kernel
theorem dX6_sniff_19 : decode cX6_sniff 19 = .ok (.aload_n 0, 1) := by decide +kernel
theorem dX6_sniff_20 : decode cX6_sniff 20 = .ok (.getfield 13, 3) := by decide +kernel
theorem dX6_sniff_23 : decode cX6_sniff 23 = .ok (.iload_n 1, 1) := by decide +kernel
theorem dX6_sniff_24 : decode cX6_sniff 24 = .ok (.iaload, 1) := by decide +kernel
theorem dX6_sniff_25 : decode cX6_sniff 25 = .ok (.ifCond .ge 9, 3) := by decide +kernel
theorem dX6_sniff_28 : decode cX6_sniff 28 = .ok (.aload_n 0, 1) := by decide +kernel
theorem dX6_sniff_29 : decode cX6_sniff 29 = .ok (.iconst 1, 1) := by decide +kernel
theorem dX6_sniff_30 : decode cX6_sniff 30 = .ok (.invokevirtual 122, 3) := by decide +kernel
theorem dX6_sniff_33 : decode cX6_sniff 33 = .ok (.ireturn, 1) := by decide +kernel
theorem dX6_sniff_34 : decode cX6_sniff 34 = .ok (.aload_n 0, 1) := by decide +kernel
theorem dX6_sniff_35 : decode cX6_sniff 35 = .ok (.getfield 13, 3) := by decide +kernel
theorem dX6_sniff_38 : decode cX6_sniff 38 = .ok (.iload_n 1, 1) := by decide +kernel
theorem dX6_sniff_39 : decode cX6_sniff 39 = .ok (.iaload, 1) := by decide +kernel
theorem dX6_sniff_40 : decode cX6_sniff 40 = .ok (.iconst 4, 1) := by decide +kernel
theorem dX6_sniff_41 : decode cX6_sniff 41 = .ok (.if_icmp .eq 9, 3) := by decide +kernel
theorem dX6_sniff_44 : decode cX6_sniff 44 = .ok (.aload_n 0, 1) := by decide +kernel
theorem dX6_sniff_45 : decode cX6_sniff 45 = .ok (.iconst 5, 1) := by decide +kernel
theorem dX6_sniff_46 : decode cX6_sniff 46 = .ok (.invokevirtual 122, 3) := by decide +kernel
theorem dX6_sniff_49 : decode cX6_sniff 49 = .ok (.ireturn, 1) := by decide +kernel
theorem dX6_sniff_50 : decode cX6_sniff 50 = .ok (.iconst 1, 1) := by decide +kernel
theorem dX6_sniff_51 : decode cX6_sniff 51 = .ok (.istore_n 3, 1) := by decide +kernel
theorem dX6_sniff_52 : decode cX6_sniff 52 = .ok (.iconst 0, 1) := by decide +kernel
theorem dX6_sniff_53 : decode cX6_sniff 53 = .ok (.istore 4, 2) := by decide +kernel
theorem dX6_sniff_55 : decode cX6_sniff 55 = .ok (.iload 4, 2) := by decide +kernel
theorem dX6_sniff_57 : decode cX6_sniff 57 = .ok (.iconst 4, 1) := by decide +kernel
theorem dX6_sniff_58 : decode cX6_sniff 58 = .ok (.if_icmp .ge 36, 3) := by decide +kernel
theorem dX6_sniff_61 : decode cX6_sniff 61 = .ok (.iload_n 3, 1) := by decide +kernel
theorem dX6_sniff_62 : decode cX6_sniff 62 = .ok (.ifCond .eq 24, 3) := by decide +kernel
theorem dX6_sniff_65 : decode cX6_sniff 65 = .ok (.aload_n 0, 1) := by decide +kernel
theorem dX6_sniff_66 : decode cX6_sniff 66 = .ok (.iload_n 1, 1) := by decide +kernel
theorem dX6_sniff_67 : decode cX6_sniff 67 = .ok (.iload 4, 2) := by decide +kernel
theorem dX6_sniff_69 : decode cX6_sniff 69 = .ok (.invokevirtual 126, 3) := by decide +kernel
theorem dX6_sniff_72 : decode cX6_sniff 72 = .ok (.iconst 0, 1) := by decide +kernel
theorem dX6_sniff_73 : decode cX6_sniff 73 = .ok (.sipush 9999, 3) := by decide +kernel
theorem dX6_sniff_76 : decode cX6_sniff 76 = .ok (.invokestatic 104, 3) := by decide +kernel
theorem dX6_sniff_79 : decode cX6_sniff 79 = .ok (.ifCond .eq 7, 3) := by decide +kernel
theorem dX6_sniff_82 : decode cX6_sniff 82 = .ok (.iconst 1, 1) := by decide +kernel
theorem dX6_sniff_83 : decode cX6_sniff 83 = .ok (.goto 4, 3) := by decide +kernel
theorem dX6_sniff_86 : decode cX6_sniff 86 = .ok (.iconst 0, 1) := by decide +kernel
theorem dX6_sniff_87 : decode cX6_sniff 87 = .ok (.istore_n 3, 1) := by decide +kernel
theorem dX6_sniff_88 : decode cX6_sniff 88 = .ok (.iinc 4 1, 3) := by decide +kernel
theorem dX6_sniff_91 : decode cX6_sniff 91 = .ok (.goto (-36), 3) := by decide +kernel
theorem dX6_sniff_94 : decode cX6_sniff 94 = .ok (.iload_n 3, 1) := by decide +kernel
theorem dX6_sniff_95 : decode cX6_sniff 95 = .ok (.ifCond .ne 9, 3) := by decide +kernel
theorem dX6_sniff_98 : decode cX6_sniff 98 = .ok (.aload_n 0, 1) := by decide +kernel
theorem dX6_sniff_99 : decode cX6_sniff 99 = .ok (.iconst 3, 1) := by decide +kernel
theorem dX6_sniff_100 : decode cX6_sniff 100 = .ok (.invokevirtual 122, 3) := by decide +kernel
theorem dX6_sniff_103 : decode cX6_sniff 103 = .ok (.ireturn, 1) := by decide +kernel
theorem dX6_sniff_104 : decode cX6_sniff 104 = .ok (.iconst 0, 1) := by decide +kernel
theorem dX6_sniff_105 : decode cX6_sniff 105 = .ok (.istore 4, 2) := by decide +kernel
theorem dX6_sniff_107 : decode cX6_sniff 107 = .ok (.iconst 0, 1) := by decide +kernel
theorem dX6_sniff_108 : decode cX6_sniff 108 = .ok (.istore 5, 2) := by decide +kernel
theorem dX6_sniff_110 : decode cX6_sniff 110 = .ok (.iload 5, 2) := by decide +kernel
theorem dX6_sniff_112 : decode cX6_sniff 112 = .ok (.iconst 4, 1) := by decide +kernel
theorem dX6_sniff_113 : decode cX6_sniff 113 = .ok (.if_icmp .ge 52, 3) := by decide +kernel
theorem dX6_sniff_116 : decode cX6_sniff 116 = .ok (.iconst 1, 1) := by decide +kernel
theorem dX6_sniff_117 : decode cX6_sniff 117 = .ok (.istore 6, 2) := by decide +kernel
theorem dX6_sniff_119 : decode cX6_sniff 119 = .ok (.iload 6, 2) := by decide +kernel
theorem dX6_sniff_121 : decode cX6_sniff 121 = .ok (.sipush 999, 3) := by decide +kernel
theorem dX6_sniff_124 : decode cX6_sniff 124 = .ok (.if_icmp .gt 35, 3) := by decide +kernel
theorem dX6_sniff_127 : decode cX6_sniff 127 = .ok (.iload 4, 2) := by decide +kernel
theorem dX6_sniff_129 : decode cX6_sniff 129 = .ok (.aload_n 0, 1) := by decide +kernel
theorem dX6_sniff_130 : decode cX6_sniff 130 = .ok (.iload 5, 2) := by decide +kernel
theorem dX6_sniff_132 : decode cX6_sniff 132 = .ok (.iload 6, 2) := by decide +kernel
theorem dX6_sniff_134 : decode cX6_sniff 134 = .ok (.iload_n 1, 1) := by decide +kernel
theorem dX6_sniff_135 : decode cX6_sniff 135 = .ok (.iload_n 2, 1) := by decide +kernel
theorem dX6_sniff_136 : decode cX6_sniff 136 = .ok (.invokevirtual 355, 3) := by decide +kernel
theorem dX6_sniff_139 : decode cX6_sniff 139 = .ok (.ifCond .eq 10, 3) := by decide +kernel
theorem dX6_sniff_142 : decode cX6_sniff 142 = .ok (.iconst 1, 1) := by decide +kernel
theorem dX6_sniff_143 : decode cX6_sniff 143 = .ok (.iload 5, 2) := by decide +kernel
theorem dX6_sniff_145 : decode cX6_sniff 145 = .ok (.ishl, 1) := by decide +kernel
theorem dX6_sniff_146 : decode cX6_sniff 146 = .ok (.goto 4, 3) := by decide +kernel
theorem dX6_sniff_149 : decode cX6_sniff 149 = .ok (.iconst 0, 1) := by decide +kernel
theorem dX6_sniff_150 : decode cX6_sniff 150 = .ok (.ior, 1) := by decide +kernel
theorem dX6_sniff_151 : decode cX6_sniff 151 = .ok (.istore 4, 2) := by decide +kernel
theorem dX6_sniff_153 : decode cX6_sniff 153 = .ok (.iinc 6 1, 3) := by decide +kernel
theorem dX6_sniff_156 : decode cX6_sniff 156 = .ok (.goto (-37), 3) := by decide +kernel
theorem dX6_sniff_159 : decode cX6_sniff 159 = .ok (.iinc 5 1, 3) := by decide +kernel
theorem dX6_sniff_162 : decode cX6_sniff 162 = .ok (.goto (-52), 3) := by decide +kernel
theorem dX6_sniff_165 : decode cX6_sniff 165 = .ok (.iload 4, 2) := by decide +kernel
theorem dX6_sniff_167 : decode cX6_sniff 167 = .ok (.ireturn, 1) := by decide +kernel
theorem dX6_count_0 : decode cX6_count 0 = .ok (.iload_n 1, 1) := by decide +kernel
theorem dX6_count_1 : decode cX6_count 1 = .ok (.iconst 0, 1) := by decide +kernel
theorem dX6_count_2 : decode cX6_count 2 = .ok (.iconst 5, 1) := by decide +kernel
theorem dX6_count_3 : decode cX6_count 3 = .ok (.invokestatic 104, 3) := by decide +kernel
theorem dX6_count_6 : decode cX6_count 6 = .ok (.ifCond .ne 5, 3) := by decide +kernel
theorem dX6_count_9 : decode cX6_count 9 = .ok (.iconst (-1), 1) := by decide +kernel
theorem dX6_count_10 : decode cX6_count 10 = .ok (.ireturn, 1) := by decide +kernel
theorem dX6_count_11 : decode cX6_count 11 = .ok (.iconst 0, 1) := by decide +kernel
theorem dX6_count_12 : decode cX6_count 12 = .ok (.istore_n 2, 1) := by decide +kernel
theorem dX6_count_13 : decode cX6_count 13 = .ok (.iconst 0, 1) := by decide +kernel
theorem dX6_count_14 : decode cX6_count 14 = .ok (.istore_n 3, 1) := by decide +kernel
theorem dX6_count_15 : decode cX6_count 15 = .ok (.iload_n 3, 1) := by decide +kernel
theorem dX6_count_16 : decode cX6_count 16 = .ok (.iconst 4, 1) := by decide +kernel
theorem dX6_count_17 : decode cX6_count 17 = .ok (.if_icmp .ge 55, 3) := by decide +kernel
theorem dX6_count_20 : decode cX6_count 20 = .ok (.iload_n 2, 1) := by decide +kernel
theorem dX6_count_21 : decode cX6_count 21 = .ok (.iload_n 1, 1) := by decide +kernel
theorem dX6_count_22 : decode cX6_count 22 = .ok (.ifCond .ne 11, 3) := by decide +kernel
theorem dX6_count_25 : decode cX6_count 25 = .ok (.aload_n 0, 1) := by decide +kernel
theorem dX6_count_26 : decode cX6_count 26 = .ok (.iload_n 3, 1) := by decide +kernel
theorem dX6_count_27 : decode cX6_count 27 = .ok (.invokevirtual 198, 3) := by decide +kernel
theorem dX6_count_30 : decode cX6_count 30 = .ok (.ifCond .ne 29, 3) := by decide +kernel
theorem dX6_count_33 : decode cX6_count 33 = .ok (.iload_n 1, 1) := by decide +kernel
theorem dX6_count_34 : decode cX6_count 34 = .ok (.iconst 1, 1) := by decide +kernel
theorem dX6_count_35 : decode cX6_count 35 = .ok (.if_icmp .ne 11, 3) := by decide +kernel
theorem dX6_count_38 : decode cX6_count 38 = .ok (.aload_n 0, 1) := by decide +kernel
theorem dX6_count_39 : decode cX6_count 39 = .ok (.iload_n 3, 1) := by decide +kernel
theorem dX6_count_40 : decode cX6_count 40 = .ok (.invokevirtual 204, 3) := by decide +kernel
theorem dX6_count_43 : decode cX6_count 43 = .ok (.ifCond .ne 16, 3) := by decide +kernel
theorem dX6_count_46 : decode cX6_count 46 = .ok (.iload_n 1, 1) := by decide +kernel
theorem dX6_count_47 : decode cX6_count 47 = .ok (.iconst 2, 1) := by decide +kernel
theorem dX6_count_48 : decode cX6_count 48 = .ok (.if_icmp .ne 15, 3) := by decide +kernel
theorem dX6_count_51 : decode cX6_count 51 = .ok (.aload_n 0, 1) := by decide +kernel
theorem dX6_count_52 : decode cX6_count 52 = .ok (.iload_n 3, 1) := by decide +kernel
theorem dX6_count_53 : decode cX6_count 53 = .ok (.invokevirtual 207, 3) := by decide +kernel
theorem dX6_count_56 : decode cX6_count 56 = .ok (.ifCond .eq 7, 3) := by decide +kernel
theorem dX6_count_59 : decode cX6_count 59 = .ok (.iconst 1, 1) := by decide +kernel
theorem dX6_count_60 : decode cX6_count 60 = .ok (.goto 4, 3) := by decide +kernel
theorem dX6_count_63 : decode cX6_count 63 = .ok (.iconst 0, 1) := by decide +kernel
theorem dX6_count_64 : decode cX6_count 64 = .ok (.iadd, 1) := by decide +kernel
theorem dX6_count_65 : decode cX6_count 65 = .ok (.istore_n 2, 1) := by decide +kernel
theorem dX6_count_66 : decode cX6_count 66 = .ok (.iinc 3 1, 3) := by decide +kernel
theorem dX6_count_69 : decode cX6_count 69 = .ok (.goto (-54), 3) := by decide +kernel
theorem dX6_count_72 : decode cX6_count 72 = .ok (.iconst 0, 1) := by decide +kernel
theorem dX6_count_73 : decode cX6_count 73 = .ok (.istore_n 3, 1) := by decide +kernel
theorem dX6_count_74 : decode cX6_count 74 = .ok (.iload_n 3, 1) := by decide +kernel
theorem dX6_count_75 : decode cX6_count 75 = .ok (.bipush 6, 2) := by decide +kernel
theorem dX6_count_77 : decode cX6_count 77 = .ok (.if_icmp .ge 31, 3) := by decide +kernel
theorem dX6_count_80 : decode cX6_count 80 = .ok (.iload_n 2, 1) := by decide +kernel
theorem dX6_count_81 : decode cX6_count 81 = .ok (.iload_n 1, 1) := by decide +kernel
theorem dX6_count_82 : decode cX6_count 82 = .ok (.iconst 3, 1) := by decide +kernel
theorem dX6_count_83 : decode cX6_count 83 = .ok (.if_icmp .ne 16, 3) := by decide +kernel
theorem dX6_count_86 : decode cX6_count 86 = .ok (.aload_n 0, 1) := by decide +kernel
theorem dX6_count_87 : decode cX6_count 87 = .ok (.getfield 29, 3) := by decide +kernel
theorem dX6_count_90 : decode cX6_count 90 = .ok (.iload_n 3, 1) := by decide +kernel
theorem dX6_count_91 : decode cX6_count 91 = .ok (.baload, 1) := by decide +kernel
theorem dX6_count_92 : decode cX6_count 92 = .ok (.ifCond .eq 7, 3) := by decide +kernel
theorem dX6_count_95 : decode cX6_count 95 = .ok (.iconst 1, 1) := by decide +kernel
theorem dX6_count_96 : decode cX6_count 96 = .ok (.goto 4, 3) := by decide +kernel
theorem dX6_count_99 : decode cX6_count 99 = .ok (.iconst 0, 1) := by decide +kernel
theorem dX6_count_100 : decode cX6_count 100 = .ok (.iadd, 1) := by decide +kernel
theorem dX6_count_101 : decode cX6_count 101 = .ok (.istore_n 2, 1) := by decide +kernel
theorem dX6_count_102 : decode cX6_count 102 = .ok (.iinc 3 1, 3) := by decide +kernel
theorem dX6_count_105 : decode cX6_count 105 = .ok (.goto (-31), 3) := by decide +kernel
theorem dX6_count_108 : decode cX6_count 108 = .ok (.iconst 0, 1) := by decide +kernel
theorem dX6_count_109 : decode cX6_count 109 = .ok (.istore_n 3, 1) := by decide +kernel
theorem dX6_count_110 : decode cX6_count 110 = .ok (.iload_n 3, 1) := by decide +kernel
theorem dX6_count_111 : decode cX6_count 111 = .ok (.bipush 6, 2) := by decide +kernel
theorem dX6_count_113 : decode cX6_count 113 = .ok (.if_icmp .ge 31, 3) := by decide +kernel
theorem dX6_count_116 : decode cX6_count 116 = .ok (.iload_n 2, 1) := by decide +kernel
theorem dX6_count_117 : decode cX6_count 117 = .ok (.iload_n 1, 1) := by decide +kernel
theorem dX6_count_118 : decode cX6_count 118 = .ok (.iconst 4, 1) := by decide +kernel
theorem dX6_count_119 : decode cX6_count 119 = .ok (.if_icmp .ne 16, 3) := by decide +kernel
theorem dX6_count_122 : decode cX6_count 122 = .ok (.aload_n 0, 1) := by decide +kernel
theorem dX6_count_123 : decode cX6_count 123 = .ok (.getfield 13, 3) := by decide +kernel
theorem dX6_count_126 : decode cX6_count 126 = .ok (.iload_n 3, 1) := by decide +kernel
theorem dX6_count_127 : decode cX6_count 127 = .ok (.iaload, 1) := by decide +kernel
theorem dX6_count_128 : decode cX6_count 128 = .ok (.ifCond .lt 7, 3) := by decide +kernel
theorem dX6_count_131 : decode cX6_count 131 = .ok (.iconst 1, 1) := by decide +kernel
theorem dX6_count_132 : decode cX6_count 132 = .ok (.goto 4, 3) := by decide +kernel
theorem dX6_count_135 : decode cX6_count 135 = .ok (.iconst 0, 1) := by decide +kernel
theorem dX6_count_136 : decode cX6_count 136 = .ok (.iadd, 1) := by decide +kernel
theorem dX6_count_137 : decode cX6_count 137 = .ok (.istore_n 2, 1) := by decide +kernel
theorem dX6_count_138 : decode cX6_count 138 = .ok (.iinc 3 1, 3) := by decide +kernel
theorem dX6_count_141 : decode cX6_count 141 = .ok (.goto (-31), 3) := by decide +kernel
theorem dX6_count_144 : decode cX6_count 144 = .ok (.iconst 0, 1) := by decide +kernel
theorem dX6_count_145 : decode cX6_count 145 = .ok (.istore_n 3, 1) := by decide +kernel
theorem dX6_count_146 : decode cX6_count 146 = .ok (.iload_n 3, 1) := by decide +kernel
theorem dX6_count_147 : decode cX6_count 147 = .ok (.iconst 4, 1) := by decide +kernel
theorem dX6_count_148 : decode cX6_count 148 = .ok (.if_icmp .ge 31, 3) := by decide +kernel
theorem dX6_count_151 : decode cX6_count 151 = .ok (.iload_n 2, 1) := by decide +kernel
theorem dX6_count_152 : decode cX6_count 152 = .ok (.iload_n 1, 1) := by decide +kernel
theorem dX6_count_153 : decode cX6_count 153 = .ok (.iconst 5, 1) := by decide +kernel
theorem dX6_count_154 : decode cX6_count 154 = .ok (.if_icmp .ne 16, 3) := by decide +kernel
theorem dX6_count_157 : decode cX6_count 157 = .ok (.aload_n 0, 1) := by decide +kernel
theorem dX6_count_158 : decode cX6_count 158 = .ok (.getfield 22, 3) := by decide +kernel
theorem dX6_count_161 : decode cX6_count 161 = .ok (.iload_n 3, 1) := by decide +kernel
theorem dX6_count_162 : decode cX6_count 162 = .ok (.iaload, 1) := by decide +kernel
theorem dX6_count_163 : decode cX6_count 163 = .ok (.ifCond .lt 7, 3) := by decide +kernel
theorem dX6_count_166 : decode cX6_count 166 = .ok (.iconst 1, 1) := by decide +kernel
theorem dX6_count_167 : decode cX6_count 167 = .ok (.goto 4, 3) := by decide +kernel
theorem dX6_count_170 : decode cX6_count 170 = .ok (.iconst 0, 1) := by decide +kernel
theorem dX6_count_171 : decode cX6_count 171 = .ok (.iadd, 1) := by decide +kernel
theorem dX6_count_172 : decode cX6_count 172 = .ok (.istore_n 2, 1) := by decide +kernel
theorem dX6_count_173 : decode cX6_count 173 = .ok (.iinc 3 1, 3) := by decide +kernel
theorem dX6_count_176 : decode cX6_count 176 = .ok (.goto (-30), 3) := by decide +kernel
theorem dX6_count_179 : decode cX6_count 179 = .ok (.iload_n 2, 1) := by decide +kernel
theorem dX6_count_180 : decode cX6_count 180 = .ok (.ireturn, 1) := by decide +kernel
theorem dX6_mix_0 : decode cX6_mix 0 = .ok (.aload_n 0, 1) := by decide +kernel
theorem dX6_mix_1 : decode cX6_mix 1 = .ok (.ldc2_w 359, 3) := by decide +kernel
theorem dX6_mix_4 : decode cX6_mix 4 = .ok (.aload_n 0, 1) := by decide +kernel
theorem dX6_mix_5 : decode cX6_mix 5 = .ok (.getfield 361, 3) := by decide +kernel
theorem dX6_mix_8 : decode cX6_mix 8 = .ok (.lmul, 1) := by decide +kernel
theorem dX6_mix_9 : decode cX6_mix 9 = .ok (.lload_n 1, 1) := by decide +kernel
theorem dX6_mix_10 : decode cX6_mix 10 = .ok (.ladd, 1) := by decide +kernel
theorem dX6_mix_11 : decode cX6_mix 11 = .ok (.putfield 361, 3) := by decide +kernel
theorem dX6_mix_14 : decode cX6_mix 14 = .ok (.return_, 1) := by decide +kernel
theorem dX6_mixPlaces_0 : decode cX6_mixPlaces 0 = .ok (.iconst 0, 1) := by decide +kernel
theorem dX6_mixPlaces_1 : decode cX6_mixPlaces 1 = .ok (.istore_n 1, 1) := by decide +kernel
theorem dX6_mixPlaces_2 : decode cX6_mixPlaces 2 = .ok (.iload_n 1, 1) := by decide +kernel
theorem dX6_mixPlaces_3 : decode cX6_mixPlaces 3 = .ok (.iconst 4, 1) := by decide +kernel
theorem dX6_mixPlaces_4 : decode cX6_mixPlaces 4 = .ok (.if_icmp .ge 112, 3) := by decide +kernel
theorem dX6_mixPlaces_7 : decode cX6_mixPlaces 7 = .ok (.aload_n 0, 1) := by decide +kernel
theorem dX6_mixPlaces_8 : decode cX6_mixPlaces 8 = .ok (.aload_n 0, 1) := by decide +kernel
theorem dX6_mixPlaces_9 : decode cX6_mixPlaces 9 = .ok (.getfield 84, 3) := by decide +kernel
theorem dX6_mixPlaces_12 : decode cX6_mixPlaces 12 = .ok (.iload_n 1, 1) := by decide +kernel
theorem dX6_mixPlaces_13 : decode cX6_mixPlaces 13 = .ok (.iaload, 1) := by decide +kernel
theorem dX6_mixPlaces_14 : decode cX6_mixPlaces 14 = .ok (.i2l, 1) := by decide +kernel
theorem dX6_mixPlaces_15 : decode cX6_mixPlaces 15 = .ok (.invokevirtual 364, 3) := by decide +kernel
theorem dX6_mixPlaces_18 : decode cX6_mixPlaces 18 = .ok (.aload_n 0, 1) := by decide +kernel
theorem dX6_mixPlaces_19 : decode cX6_mixPlaces 19 = .ok (.iload_n 1, 1) := by decide +kernel
theorem dX6_mixPlaces_20 : decode cX6_mixPlaces 20 = .ok (.invokevirtual 198, 3) := by decide +kernel
theorem dX6_mixPlaces_23 : decode cX6_mixPlaces 23 = .ok (.ifCond .eq 80, 3) := by decide +kernel
theorem dX6_mixPlaces_26 : decode cX6_mixPlaces 26 = .ok (.iconst 0, 1) := by decide +kernel
theorem dX6_mixPlaces_27 : decode cX6_mixPlaces 27 = .ok (.istore_n 2, 1) := by decide +kernel
theorem dX6_mixPlaces_28 : decode cX6_mixPlaces 28 = .ok (.iload_n 2, 1) := by decide +kernel
theorem dX6_mixPlaces_29 : decode cX6_mixPlaces 29 = .ok (.iconst 4, 1) := by decide +kernel
theorem dX6_mixPlaces_30 : decode cX6_mixPlaces 30 = .ok (.if_icmp .ge 20, 3) := by decide +kernel
theorem dX6_mixPlaces_33 : decode cX6_mixPlaces 33 = .ok (.aload_n 0, 1) := by decide +kernel
theorem dX6_mixPlaces_34 : decode cX6_mixPlaces 34 = .ok (.aload_n 0, 1) := by decide +kernel
theorem dX6_mixPlaces_35 : decode cX6_mixPlaces 35 = .ok (.iload_n 1, 1) := by decide +kernel
theorem dX6_mixPlaces_36 : decode cX6_mixPlaces 36 = .ok (.iload_n 2, 1) := by decide +kernel
theorem dX6_mixPlaces_37 : decode cX6_mixPlaces 37 = .ok (.invokevirtual 213, 3) := by decide +kernel
theorem dX6_mixPlaces_40 : decode cX6_mixPlaces 40 = .ok (.i2l, 1) := by decide +kernel
theorem dX6_mixPlaces_41 : decode cX6_mixPlaces 41 = .ok (.invokevirtual 364, 3) := by decide +kernel
theorem dX6_mixPlaces_44 : decode cX6_mixPlaces 44 = .ok (.iinc 2 1, 3) := by decide +kernel
theorem dX6_mixPlaces_47 : decode cX6_mixPlaces 47 = .ok (.goto (-19), 3) := by decide +kernel
theorem dX6_mixPlaces_50 : decode cX6_mixPlaces 50 = .ok (.aload_n 0, 1) := by decide +kernel
theorem dX6_mixPlaces_51 : decode cX6_mixPlaces 51 = .ok (.aload_n 0, 1) := by decide +kernel
theorem dX6_mixPlaces_52 : decode cX6_mixPlaces 52 = .ok (.iload_n 1, 1) := by decide +kernel
theorem dX6_mixPlaces_53 : decode cX6_mixPlaces 53 = .ok (.invokevirtual 204, 3) := by decide +kernel
theorem dX6_mixPlaces_56 : decode cX6_mixPlaces 56 = .ok (.ifCond .eq 13, 3) := by decide +kernel
theorem dX6_mixPlaces_59 : decode cX6_mixPlaces 59 = .ok (.aload_n 0, 1) := by decide +kernel
theorem dX6_mixPlaces_60 : decode cX6_mixPlaces 60 = .ok (.getfield 66, 3) := by decide +kernel
theorem dX6_mixPlaces_63 : decode cX6_mixPlaces 63 = .ok (.iload_n 1, 1) := by decide +kernel
theorem dX6_mixPlaces_64 : decode cX6_mixPlaces 64 = .ok (.iaload, 1) := by decide +kernel
theorem dX6_mixPlaces_65 : decode cX6_mixPlaces 65 = .ok (.i2l, 1) := by decide +kernel
theorem dX6_mixPlaces_66 : decode cX6_mixPlaces 66 = .ok (.goto 6, 3) := by decide +kernel
theorem dX6_mixPlaces_69 : decode cX6_mixPlaces 69 = .ok (.ldc2_w 305, 3) := by decide +kernel
theorem dX6_mixPlaces_72 : decode cX6_mixPlaces 72 = .ok (.invokevirtual 364, 3) := by decide +kernel
theorem dX6_mixPlaces_75 : decode cX6_mixPlaces 75 = .ok (.aload_n 0, 1) := by decide +kernel
theorem dX6_mixPlaces_76 : decode cX6_mixPlaces 76 = .ok (.aload_n 0, 1) := by decide +kernel
theorem dX6_mixPlaces_77 : decode cX6_mixPlaces 77 = .ok (.iload_n 1, 1) := by decide +kernel
theorem dX6_mixPlaces_78 : decode cX6_mixPlaces 78 = .ok (.invokevirtual 207, 3) := by decide +kernel
theorem dX6_mixPlaces_81 : decode cX6_mixPlaces 81 = .ok (.ifCond .eq 13, 3) := by decide +kernel
theorem dX6_mixPlaces_84 : decode cX6_mixPlaces 84 = .ok (.aload_n 0, 1) := by decide +kernel
theorem dX6_mixPlaces_85 : decode cX6_mixPlaces 85 = .ok (.getfield 78, 3) := by decide +kernel
theorem dX6_mixPlaces_88 : decode cX6_mixPlaces 88 = .ok (.iload_n 1, 1) := by decide +kernel
theorem dX6_mixPlaces_89 : decode cX6_mixPlaces 89 = .ok (.iaload, 1) := by decide +kernel
theorem dX6_mixPlaces_90 : decode cX6_mixPlaces 90 = .ok (.i2l, 1) := by decide +kernel
theorem dX6_mixPlaces_91 : decode cX6_mixPlaces 91 = .ok (.goto 6, 3) := by decide +kernel
theorem dX6_mixPlaces_94 : decode cX6_mixPlaces 94 = .ok (.ldc2_w 305, 3) := by decide +kernel
theorem dX6_mixPlaces_97 : decode cX6_mixPlaces 97 = .ok (.invokevirtual 364, 3) := by decide +kernel
theorem dX6_mixPlaces_100 : decode cX6_mixPlaces 100 = .ok (.goto 10, 3) := by decide +kernel
theorem dX6_mixPlaces_103 : decode cX6_mixPlaces 103 = .ok (.aload_n 0, 1) := by decide +kernel
theorem dX6_mixPlaces_104 : decode cX6_mixPlaces 104 = .ok (.ldc2_w 305, 3) := by decide +kernel
theorem dX6_mixPlaces_107 : decode cX6_mixPlaces 107 = .ok (.invokevirtual 364, 3) := by decide +kernel
theorem dX6_mixPlaces_110 : decode cX6_mixPlaces 110 = .ok (.iinc 1 1, 3) := by decide +kernel
theorem dX6_mixPlaces_113 : decode cX6_mixPlaces 113 = .ok (.goto (-111), 3) := by decide +kernel
theorem dX6_mixPlaces_116 : decode cX6_mixPlaces 116 = .ok (.iconst 0, 1) := by decide +kernel
theorem dX6_mixPlaces_117 : decode cX6_mixPlaces 117 = .ok (.istore_n 1, 1) := by decide +kernel
theorem dX6_mixPlaces_118 : decode cX6_mixPlaces 118 = .ok (.iload_n 1, 1) := by decide +kernel
theorem dX6_mixPlaces_119 : decode cX6_mixPlaces 119 = .ok (.bipush 6, 2) := by decide +kernel
theorem dX6_mixPlaces_121 : decode cX6_mixPlaces 121 = .ok (.if_icmp .ge 100, 3) := by decide +kernel
theorem dX6_mixPlaces_124 : decode cX6_mixPlaces 124 = .ok (.aload_n 0, 1) := by decide +kernel
theorem dX6_mixPlaces_125 : decode cX6_mixPlaces 125 = .ok (.getfield 29, 3) := by decide +kernel
theorem dX6_mixPlaces_128 : decode cX6_mixPlaces 128 = .ok (.iload_n 1, 1) := by decide +kernel
theorem dX6_mixPlaces_129 : decode cX6_mixPlaces 129 = .ok (.baload, 1) := by decide +kernel
theorem dX6_mixPlaces_130 : decode cX6_mixPlaces 130 = .ok (.ifCond .eq 78, 3) := by decide +kernel
theorem dX6_mixPlaces_133 : decode cX6_mixPlaces 133 = .ok (.iconst 0, 1) := by decide +kernel
theorem dX6_mixPlaces_134 : decode cX6_mixPlaces 134 = .ok (.istore_n 2, 1) := by decide +kernel
theorem dX6_mixPlaces_135 : decode cX6_mixPlaces 135 = .ok (.iload_n 2, 1) := by decide +kernel
theorem dX6_mixPlaces_136 : decode cX6_mixPlaces 136 = .ok (.iconst 5, 1) := by decide +kernel
theorem dX6_mixPlaces_137 : decode cX6_mixPlaces 137 = .ok (.if_icmp .ge 20, 3) := by decide +kernel
theorem dX6_mixPlaces_140 : decode cX6_mixPlaces 140 = .ok (.aload_n 0, 1) := by decide +kernel
theorem dX6_mixPlaces_141 : decode cX6_mixPlaces 141 = .ok (.aload_n 0, 1) := by decide +kernel
theorem dX6_mixPlaces_142 : decode cX6_mixPlaces 142 = .ok (.iload_n 1, 1) := by decide +kernel
theorem dX6_mixPlaces_143 : decode cX6_mixPlaces 143 = .ok (.iload_n 2, 1) := by decide +kernel
theorem dX6_mixPlaces_144 : decode cX6_mixPlaces 144 = .ok (.invokevirtual 168, 3) := by decide +kernel
theorem dX6_mixPlaces_147 : decode cX6_mixPlaces 147 = .ok (.i2l, 1) := by decide +kernel
theorem dX6_mixPlaces_148 : decode cX6_mixPlaces 148 = .ok (.invokevirtual 364, 3) := by decide +kernel
theorem dX6_mixPlaces_151 : decode cX6_mixPlaces 151 = .ok (.iinc 2 1, 3) := by decide +kernel
theorem dX6_mixPlaces_154 : decode cX6_mixPlaces 154 = .ok (.goto (-19), 3) := by decide +kernel
theorem dX6_mixPlaces_157 : decode cX6_mixPlaces 157 = .ok (.iconst 1, 1) := by decide +kernel
theorem dX6_mixPlaces_158 : decode cX6_mixPlaces 158 = .ok (.istore_n 2, 1) := by decide +kernel
theorem dX6_mixPlaces_159 : decode cX6_mixPlaces 159 = .ok (.iload_n 2, 1) := by decide +kernel
theorem dX6_mixPlaces_160 : decode cX6_mixPlaces 160 = .ok (.aload_n 0, 1) := by decide +kernel
theorem dX6_mixPlaces_161 : decode cX6_mixPlaces 161 = .ok (.getfield 33, 3) := by decide +kernel
theorem dX6_mixPlaces_164 : decode cX6_mixPlaces 164 = .ok (.iload_n 1, 1) := by decide +kernel
theorem dX6_mixPlaces_165 : decode cX6_mixPlaces 165 = .ok (.iaload, 1) := by decide +kernel
theorem dX6_mixPlaces_166 : decode cX6_mixPlaces 166 = .ok (.if_icmp .gt 39, 3) := by decide +kernel
theorem dX6_mixPlaces_169 : decode cX6_mixPlaces 169 = .ok (.aload_n 0, 1) := by decide +kernel
theorem dX6_mixPlaces_170 : decode cX6_mixPlaces 170 = .ok (.aload_n 0, 1) := by decide +kernel
theorem dX6_mixPlaces_171 : decode cX6_mixPlaces 171 = .ok (.getfield 36, 3) := by decide +kernel
theorem dX6_mixPlaces_174 : decode cX6_mixPlaces 174 = .ok (.iconst 5, 1) := by decide +kernel
theorem dX6_mixPlaces_175 : decode cX6_mixPlaces 175 = .ok (.iload_n 1, 1) := by decide +kernel
theorem dX6_mixPlaces_176 : decode cX6_mixPlaces 176 = .ok (.imul, 1) := by decide +kernel
theorem dX6_mixPlaces_177 : decode cX6_mixPlaces 177 = .ok (.iload_n 2, 1) := by decide +kernel
theorem dX6_mixPlaces_178 : decode cX6_mixPlaces 178 = .ok (.iadd, 1) := by decide +kernel
theorem dX6_mixPlaces_179 : decode cX6_mixPlaces 179 = .ok (.iaload, 1) := by decide +kernel
theorem dX6_mixPlaces_180 : decode cX6_mixPlaces 180 = .ok (.i2l, 1) := by decide +kernel
theorem dX6_mixPlaces_181 : decode cX6_mixPlaces 181 = .ok (.invokevirtual 364, 3) := by decide +kernel
theorem dX6_mixPlaces_184 : decode cX6_mixPlaces 184 = .ok (.aload_n 0, 1) := by decide +kernel
theorem dX6_mixPlaces_185 : decode cX6_mixPlaces 185 = .ok (.aload_n 0, 1) := by decide +kernel
theorem dX6_mixPlaces_186 : decode cX6_mixPlaces 186 = .ok (.getfield 39, 3) := by decide +kernel
theorem dX6_mixPlaces_189 : decode cX6_mixPlaces 189 = .ok (.iconst 5, 1) := by decide +kernel
theorem dX6_mixPlaces_190 : decode cX6_mixPlaces 190 = .ok (.iload_n 1, 1) := by decide +kernel
theorem dX6_mixPlaces_191 : decode cX6_mixPlaces 191 = .ok (.imul, 1) := by decide +kernel
theorem dX6_mixPlaces_192 : decode cX6_mixPlaces 192 = .ok (.iload_n 2, 1) := by decide +kernel
theorem dX6_mixPlaces_193 : decode cX6_mixPlaces 193 = .ok (.iadd, 1) := by decide +kernel
theorem dX6_mixPlaces_194 : decode cX6_mixPlaces 194 = .ok (.iaload, 1) := by decide +kernel
theorem dX6_mixPlaces_195 : decode cX6_mixPlaces 195 = .ok (.i2l, 1) := by decide +kernel
theorem dX6_mixPlaces_196 : decode cX6_mixPlaces 196 = .ok (.invokevirtual 364, 3) := by decide +kernel
theorem dX6_mixPlaces_199 : decode cX6_mixPlaces 199 = .ok (.iinc 2 1, 3) := by decide +kernel
theorem dX6_mixPlaces_202 : decode cX6_mixPlaces 202 = .ok (.goto (-43), 3) := by decide +kernel
theorem dX6_mixPlaces_205 : decode cX6_mixPlaces 205 = .ok (.goto 10, 3) := by decide +kernel
theorem dX6_mixPlaces_208 : decode cX6_mixPlaces 208 = .ok (.aload_n 0, 1) := by decide +kernel
theorem dX6_mixPlaces_209 : decode cX6_mixPlaces 209 = .ok (.ldc2_w 305, 3) := by decide +kernel
theorem dX6_mixPlaces_212 : decode cX6_mixPlaces 212 = .ok (.invokevirtual 364, 3) := by decide +kernel
theorem dX6_mixPlaces_215 : decode cX6_mixPlaces 215 = .ok (.iinc 1 1, 3) := by decide +kernel
theorem dX6_mixPlaces_218 : decode cX6_mixPlaces 218 = .ok (.goto (-100), 3) := by decide +kernel
theorem dX6_mixPlaces_221 : decode cX6_mixPlaces 221 = .ok (.return_, 1) := by decide +kernel
theorem dX6_digest_0 : decode cX6_digest 0 = .ok (.aload_n 0, 1) := by decide +kernel
theorem dX6_digest_1 : decode cX6_digest 1 = .ok (.ldc2_w 368, 3) := by decide +kernel
theorem dX6_digest_4 : decode cX6_digest 4 = .ok (.putfield 361, 3) := by decide +kernel
theorem dX6_digest_7 : decode cX6_digest 7 = .ok (.iconst 0, 1) := by decide +kernel
theorem dX6_digest_8 : decode cX6_digest 8 = .ok (.istore_n 1, 1) := by decide +kernel
theorem dX6_digest_9 : decode cX6_digest 9 = .ok (.iload_n 1, 1) := by decide +kernel
theorem dX6_digest_10 : decode cX6_digest 10 = .ok (.bipush 6, 2) := by decide +kernel
theorem dX6_digest_12 : decode cX6_digest 12 = .ok (.if_icmp .ge 19, 3) := by decide +kernel
theorem dX6_digest_15 : decode cX6_digest 15 = .ok (.aload_n 0, 1) := by decide +kernel
theorem dX6_digest_16 : decode cX6_digest 16 = .ok (.aload_n 0, 1) := by decide +kernel
theorem dX6_digest_17 : decode cX6_digest 17 = .ok (.iload_n 1, 1) := by decide +kernel
theorem dX6_digest_18 : decode cX6_digest 18 = .ok (.invokevirtual 370, 3) := by decide +kernel
theorem dX6_digest_21 : decode cX6_digest 21 = .ok (.i2l, 1) := by decide +kernel
theorem dX6_digest_22 : decode cX6_digest 22 = .ok (.invokevirtual 364, 3) := by decide +kernel
theorem dX6_digest_25 : decode cX6_digest 25 = .ok (.iinc 1 1, 3) := by decide +kernel
theorem dX6_digest_28 : decode cX6_digest 28 = .ok (.goto (-19), 3) := by decide +kernel
theorem dX6_digest_31 : decode cX6_digest 31 = .ok (.aload_n 0, 1) := by decide +kernel
theorem dX6_digest_32 : decode cX6_digest 32 = .ok (.aload_n 0, 1) := by decide +kernel
theorem dX6_digest_33 : decode cX6_digest 33 = .ok (.getfield 217, 3) := by decide +kernel
theorem dX6_digest_36 : decode cX6_digest 36 = .ok (.i2l, 1) := by decide +kernel
theorem dX6_digest_37 : decode cX6_digest 37 = .ok (.invokevirtual 364, 3) := by decide +kernel
theorem dX6_digest_40 : decode cX6_digest 40 = .ok (.aload_n 0, 1) := by decide +kernel
theorem dX6_digest_41 : decode cX6_digest 41 = .ok (.aload_n 0, 1) := by decide +kernel
theorem dX6_digest_42 : decode cX6_digest 42 = .ok (.getfield 97, 3) := by decide +kernel
theorem dX6_digest_45 : decode cX6_digest 45 = .ok (.i2l, 1) := by decide +kernel
theorem dX6_digest_46 : decode cX6_digest 46 = .ok (.invokevirtual 364, 3) := by decide +kernel
theorem dX6_digest_49 : decode cX6_digest 49 = .ok (.aload_n 0, 1) := by decide +kernel
theorem dX6_digest_50 : decode cX6_digest 50 = .ok (.aload_n 0, 1) := by decide +kernel
theorem dX6_digest_51 : decode cX6_digest 51 = .ok (.getfield 220, 3) := by decide +kernel
theorem dX6_digest_54 : decode cX6_digest 54 = .ok (.i2l, 1) := by decide +kernel
theorem dX6_digest_55 : decode cX6_digest 55 = .ok (.invokevirtual 364, 3) := by decide +kernel
theorem dX6_digest_58 : decode cX6_digest 58 = .ok (.aload_n 0, 1) := by decide +kernel
theorem dX6_digest_59 : decode cX6_digest 59 = .ok (.aload_n 0, 1) := by decide +kernel
theorem dX6_digest_60 : decode cX6_digest 60 = .ok (.getfield 223, 3) := by decide +kernel
theorem dX6_digest_63 : decode cX6_digest 63 = .ok (.i2l, 1) := by decide +kernel
theorem dX6_digest_64 : decode cX6_digest 64 = .ok (.invokevirtual 364, 3) := by decide +kernel
theorem dX6_digest_67 : decode cX6_digest 67 = .ok (.aload_n 0, 1) := by decide +kernel
theorem dX6_digest_68 : decode cX6_digest 68 = .ok (.invokevirtual 373, 3) := by decide +kernel
theorem dX6_digest_71 : decode cX6_digest 71 = .ok (.iconst 0, 1) := by decide +kernel
theorem dX6_digest_72 : decode cX6_digest 72 = .ok (.istore_n 1, 1) := by decide +kernel
theorem dX6_digest_73 : decode cX6_digest 73 = .ok (.iload_n 1, 1) := by decide +kernel
theorem dX6_digest_74 : decode cX6_digest 74 = .ok (.bipush 6, 2) := by decide +kernel
theorem dX6_digest_76 : decode cX6_digest 76 = .ok (.if_icmp .ge 49, 3) := by decide +kernel
theorem dX6_digest_79 : decode cX6_digest 79 = .ok (.aload_n 0, 1) := by decide +kernel
theorem dX6_digest_80 : decode cX6_digest 80 = .ok (.aload_n 0, 1) := by decide +kernel
theorem dX6_digest_81 : decode cX6_digest 81 = .ok (.getfield 13, 3) := by decide +kernel
theorem dX6_digest_84 : decode cX6_digest 84 = .ok (.iload_n 1, 1) := by decide +kernel
theorem dX6_digest_85 : decode cX6_digest 85 = .ok (.iaload, 1) := by decide +kernel
theorem dX6_digest_86 : decode cX6_digest 86 = .ok (.i2l, 1) := by decide +kernel
theorem dX6_digest_87 : decode cX6_digest 87 = .ok (.invokevirtual 364, 3) := by decide +kernel
theorem dX6_digest_90 : decode cX6_digest 90 = .ok (.iconst 0, 1) := by decide +kernel
theorem dX6_digest_91 : decode cX6_digest 91 = .ok (.istore_n 2, 1) := by decide +kernel
theorem dX6_digest_92 : decode cX6_digest 92 = .ok (.iload_n 2, 1) := by decide +kernel
theorem dX6_digest_93 : decode cX6_digest 93 = .ok (.aload_n 0, 1) := by decide +kernel
theorem dX6_digest_94 : decode cX6_digest 94 = .ok (.getfield 13, 3) := by decide +kernel
theorem dX6_digest_97 : decode cX6_digest 97 = .ok (.iload_n 1, 1) := by decide +kernel
theorem dX6_digest_98 : decode cX6_digest 98 = .ok (.iaload, 1) := by decide +kernel
theorem dX6_digest_99 : decode cX6_digest 99 = .ok (.if_icmp .ge 20, 3) := by decide +kernel
theorem dX6_digest_102 : decode cX6_digest 102 = .ok (.aload_n 0, 1) := by decide +kernel
theorem dX6_digest_103 : decode cX6_digest 103 = .ok (.aload_n 0, 1) := by decide +kernel
theorem dX6_digest_104 : decode cX6_digest 104 = .ok (.iload_n 1, 1) := by decide +kernel
theorem dX6_digest_105 : decode cX6_digest 105 = .ok (.iload_n 2, 1) := by decide +kernel
theorem dX6_digest_106 : decode cX6_digest 106 = .ok (.invokevirtual 126, 3) := by decide +kernel
theorem dX6_digest_109 : decode cX6_digest 109 = .ok (.i2l, 1) := by decide +kernel
theorem dX6_digest_110 : decode cX6_digest 110 = .ok (.invokevirtual 364, 3) := by decide +kernel
theorem dX6_digest_113 : decode cX6_digest 113 = .ok (.iinc 2 1, 3) := by decide +kernel
theorem dX6_digest_116 : decode cX6_digest 116 = .ok (.goto (-24), 3) := by decide +kernel
theorem dX6_digest_119 : decode cX6_digest 119 = .ok (.iinc 1 1, 3) := by decide +kernel
theorem dX6_digest_122 : decode cX6_digest 122 = .ok (.goto (-49), 3) := by decide +kernel
theorem dX6_digest_125 : decode cX6_digest 125 = .ok (.iconst 0, 1) := by decide +kernel
theorem dX6_digest_126 : decode cX6_digest 126 = .ok (.istore_n 1, 1) := by decide +kernel
theorem dX6_digest_127 : decode cX6_digest 127 = .ok (.iload_n 1, 1) := by decide +kernel
theorem dX6_digest_128 : decode cX6_digest 128 = .ok (.iconst 4, 1) := by decide +kernel
theorem dX6_digest_129 : decode cX6_digest 129 = .ok (.if_icmp .ge 49, 3) := by decide +kernel
theorem dX6_digest_132 : decode cX6_digest 132 = .ok (.aload_n 0, 1) := by decide +kernel
theorem dX6_digest_133 : decode cX6_digest 133 = .ok (.aload_n 0, 1) := by decide +kernel
theorem dX6_digest_134 : decode cX6_digest 134 = .ok (.getfield 22, 3) := by decide +kernel
theorem dX6_digest_137 : decode cX6_digest 137 = .ok (.iload_n 1, 1) := by decide +kernel
theorem dX6_digest_138 : decode cX6_digest 138 = .ok (.iaload, 1) := by decide +kernel
theorem dX6_digest_139 : decode cX6_digest 139 = .ok (.i2l, 1) := by decide +kernel
theorem dX6_digest_140 : decode cX6_digest 140 = .ok (.invokevirtual 364, 3) := by decide +kernel
theorem dX6_digest_143 : decode cX6_digest 143 = .ok (.iconst 0, 1) := by decide +kernel
theorem dX6_digest_144 : decode cX6_digest 144 = .ok (.istore_n 2, 1) := by decide +kernel
theorem dX6_digest_145 : decode cX6_digest 145 = .ok (.iload_n 2, 1) := by decide +kernel
theorem dX6_digest_146 : decode cX6_digest 146 = .ok (.aload_n 0, 1) := by decide +kernel
theorem dX6_digest_147 : decode cX6_digest 147 = .ok (.getfield 22, 3) := by decide +kernel
theorem dX6_digest_150 : decode cX6_digest 150 = .ok (.iload_n 1, 1) := by decide +kernel
theorem dX6_digest_151 : decode cX6_digest 151 = .ok (.iaload, 1) := by decide +kernel
theorem dX6_digest_152 : decode cX6_digest 152 = .ok (.if_icmp .ge 20, 3) := by decide +kernel
theorem dX6_digest_155 : decode cX6_digest 155 = .ok (.aload_n 0, 1) := by decide +kernel
theorem dX6_digest_156 : decode cX6_digest 156 = .ok (.aload_n 0, 1) := by decide +kernel
theorem dX6_digest_157 : decode cX6_digest 157 = .ok (.iload_n 1, 1) := by decide +kernel
theorem dX6_digest_158 : decode cX6_digest 158 = .ok (.iload_n 2, 1) := by decide +kernel
theorem dX6_digest_159 : decode cX6_digest 159 = .ok (.invokevirtual 142, 3) := by decide +kernel
theorem dX6_digest_162 : decode cX6_digest 162 = .ok (.i2l, 1) := by decide +kernel
theorem dX6_digest_163 : decode cX6_digest 163 = .ok (.invokevirtual 364, 3) := by decide +kernel
theorem dX6_digest_166 : decode cX6_digest 166 = .ok (.iinc 2 1, 3) := by decide +kernel
theorem dX6_digest_169 : decode cX6_digest 169 = .ok (.goto (-24), 3) := by decide +kernel
theorem dX6_digest_172 : decode cX6_digest 172 = .ok (.iinc 1 1, 3) := by decide +kernel
theorem dX6_digest_175 : decode cX6_digest 175 = .ok (.goto (-48), 3) := by decide +kernel
theorem dX6_digest_178 : decode cX6_digest 178 = .ok (.aload_n 0, 1) := by decide +kernel
theorem dX6_digest_179 : decode cX6_digest 179 = .ok (.getfield 361, 3) := by decide +kernel
theorem dX6_digest_182 : decode cX6_digest 182 = .ok (.lreturn, 1) := by decide +kernel
theorem dJ6_bitCount_0f7a4_0 : decode cJ6_bitCount_0f7a4 0 = .ok (.iload_n 0, 1) := by decide +kernel
theorem dJ6_bitCount_0f7a4_1 : decode cJ6_bitCount_0f7a4 1 = .ok (.iload_n 0, 1) := by decide +kernel
theorem dJ6_bitCount_0f7a4_2 : decode cJ6_bitCount_0f7a4 2 = .ok (.iconst 1, 1) := by decide +kernel
theorem dJ6_bitCount_0f7a4_3 : decode cJ6_bitCount_0f7a4 3 = .ok (.iushr, 1) := by decide +kernel
theorem dJ6_bitCount_0f7a4_4 : decode cJ6_bitCount_0f7a4 4 = .ok (.ldc_w 265, 3) := by decide +kernel
theorem dJ6_bitCount_0f7a4_7 : decode cJ6_bitCount_0f7a4 7 = .ok (.iand, 1) := by decide +kernel
theorem dJ6_bitCount_0f7a4_8 : decode cJ6_bitCount_0f7a4 8 = .ok (.isub, 1) := by decide +kernel
theorem dJ6_bitCount_0f7a4_9 : decode cJ6_bitCount_0f7a4 9 = .ok (.istore_n 0, 1) := by decide +kernel
theorem dJ6_bitCount_0f7a4_10 : decode cJ6_bitCount_0f7a4 10 = .ok (.iload_n 0, 1) := by decide +kernel
theorem dJ6_bitCount_0f7a4_11 : decode cJ6_bitCount_0f7a4 11 = .ok (.ldc_w 266, 3) := by decide +kernel
theorem dJ6_bitCount_0f7a4_14 : decode cJ6_bitCount_0f7a4 14 = .ok (.iand, 1) := by decide +kernel
theorem dJ6_bitCount_0f7a4_15 : decode cJ6_bitCount_0f7a4 15 = .ok (.iload_n 0, 1) := by decide +kernel
theorem dJ6_bitCount_0f7a4_16 : decode cJ6_bitCount_0f7a4 16 = .ok (.iconst 2, 1) := by decide +kernel
theorem dJ6_bitCount_0f7a4_17 : decode cJ6_bitCount_0f7a4 17 = .ok (.iushr, 1) := by decide +kernel
theorem dJ6_bitCount_0f7a4_18 : decode cJ6_bitCount_0f7a4 18 = .ok (.ldc_w 266, 3) := by decide +kernel
theorem dJ6_bitCount_0f7a4_21 : decode cJ6_bitCount_0f7a4 21 = .ok (.iand, 1) := by decide +kernel
theorem dJ6_bitCount_0f7a4_22 : decode cJ6_bitCount_0f7a4 22 = .ok (.iadd, 1) := by decide +kernel
theorem dJ6_bitCount_0f7a4_23 : decode cJ6_bitCount_0f7a4 23 = .ok (.istore_n 0, 1) := by decide +kernel
theorem dJ6_bitCount_0f7a4_24 : decode cJ6_bitCount_0f7a4 24 = .ok (.iload_n 0, 1) := by decide +kernel
theorem dJ6_bitCount_0f7a4_25 : decode cJ6_bitCount_0f7a4 25 = .ok (.iload_n 0, 1) := by decide +kernel
theorem dJ6_bitCount_0f7a4_26 : decode cJ6_bitCount_0f7a4 26 = .ok (.iconst 4, 1) := by decide +kernel
theorem dJ6_bitCount_0f7a4_27 : decode cJ6_bitCount_0f7a4 27 = .ok (.iushr, 1) := by decide +kernel
theorem dJ6_bitCount_0f7a4_28 : decode cJ6_bitCount_0f7a4 28 = .ok (.iadd, 1) := by decide +kernel
theorem dJ6_bitCount_0f7a4_29 : decode cJ6_bitCount_0f7a4 29 = .ok (.ldc_w 267, 3) := by decide +kernel
theorem dJ6_bitCount_0f7a4_32 : decode cJ6_bitCount_0f7a4 32 = .ok (.iand, 1) := by decide +kernel
theorem dJ6_bitCount_0f7a4_33 : decode cJ6_bitCount_0f7a4 33 = .ok (.istore_n 0, 1) := by decide +kernel
theorem dJ6_bitCount_0f7a4_34 : decode cJ6_bitCount_0f7a4 34 = .ok (.iload_n 0, 1) := by decide +kernel
theorem dJ6_bitCount_0f7a4_35 : decode cJ6_bitCount_0f7a4 35 = .ok (.iload_n 0, 1) := by decide +kernel
theorem dJ6_bitCount_0f7a4_36 : decode cJ6_bitCount_0f7a4 36 = .ok (.bipush 8, 2) := by decide +kernel
theorem dJ6_bitCount_0f7a4_38 : decode cJ6_bitCount_0f7a4 38 = .ok (.iushr, 1) := by decide +kernel
theorem dJ6_bitCount_0f7a4_39 : decode cJ6_bitCount_0f7a4 39 = .ok (.iadd, 1) := by decide +kernel
theorem dJ6_bitCount_0f7a4_40 : decode cJ6_bitCount_0f7a4 40 = .ok (.istore_n 0, 1) := by decide +kernel
theorem dJ6_bitCount_0f7a4_41 : decode cJ6_bitCount_0f7a4 41 = .ok (.iload_n 0, 1) := by decide +kernel
theorem dJ6_bitCount_0f7a4_42 : decode cJ6_bitCount_0f7a4 42 = .ok (.iload_n 0, 1) := by decide +kernel
theorem dJ6_bitCount_0f7a4_43 : decode cJ6_bitCount_0f7a4 43 = .ok (.bipush 16, 2) := by decide +kernel
theorem dJ6_bitCount_0f7a4_45 : decode cJ6_bitCount_0f7a4 45 = .ok (.iushr, 1) := by decide +kernel
theorem dJ6_bitCount_0f7a4_46 : decode cJ6_bitCount_0f7a4 46 = .ok (.iadd, 1) := by decide +kernel
theorem dJ6_bitCount_0f7a4_47 : decode cJ6_bitCount_0f7a4 47 = .ok (.istore_n 0, 1) := by decide +kernel
theorem dJ6_bitCount_0f7a4_48 : decode cJ6_bitCount_0f7a4 48 = .ok (.iload_n 0, 1) := by decide +kernel
theorem dJ6_bitCount_0f7a4_49 : decode cJ6_bitCount_0f7a4 49 = .ok (.bipush 63, 2) := by decide +kernel
theorem dJ6_bitCount_0f7a4_51 : decode cJ6_bitCount_0f7a4 51 = .ok (.iand, 1) := by decide +kernel
theorem dJ6_bitCount_0f7a4_52 : decode cJ6_bitCount_0f7a4 52 = .ok (.ireturn, 1) := by decide +kernel
