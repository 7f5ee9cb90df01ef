theorem dX9_specifies_90 : decode cX9_specifies 90 = .ok (.getfield 154, 3) := by decide +kernel
theorem dX9_specifies_93 : decode cX9_specifies 93 = .ok (.invokevirtual 148, 3) := by decide +kernel
theorem dX9_specifies_96 : decode cX9_specifies 96 = .ok (.aload_n 0, 1) := by decide +kernel
theorem dX9_specifies_97 : decode cX9_specifies 97 = .ok (.bipush 59, 2) := by decide +kernel
theorem dX9_specifies_99 : decode cX9_specifies 99 = .ok (.invokevirtual 178, 3) := by decide +kernel
theorem dX9_specifies_102 : decode cX9_specifies 102 = .ok (.aload_n 0, 1) := by decide +kernel
theorem dX9_specifies_103 : decode cX9_specifies 103 = .ok (.getfield 175, 3) := by decide +kernel
theorem dX9_specifies_106 : decode cX9_specifies 106 = .ok (.ifCond .eq 14, 3) := by decide +kernel
theorem dX9_specifies_109 : decode cX9_specifies 109 = .ok (.aload_n 0, 1) := by decide +kernel
theorem dX9_specifies_110 : decode cX9_specifies 110 = .ok (.getfield 9, 3) := by decide +kernel
theorem dX9_specifies_113 : decode cX9_specifies 113 = .ok (.bipush 6, 2) := by decide +kernel
theorem dX9_specifies_115 : decode cX9_specifies 115 = .ok (.iload_n 1, 1) := by decide +kernel
theorem dX9_specifies_116 : decode cX9_specifies 116 = .ok (.iadd, 1) := by decide +kernel
theorem dX9_specifies_117 : decode cX9_specifies 117 = .ok (.iload 4, 2) := by decide +kernel
theorem dX9_specifies_119 : decode cX9_specifies 119 = .ok (.iastore, 1) := by decide +kernel
theorem dX9_specifies_120 : decode cX9_specifies 120 = .ok (.return_, 1) := by decide +kernel
theorem dX9_spanHere_0 : decode cX9_spanHere 0 = .ok (.aload_n 0, 1) := by decide +kernel
theorem dX9_spanHere_1 : decode cX9_spanHere 1 = .ok (.getfield 137, 3) := by decide +kernel
theorem dX9_spanHere_4 : decode cX9_spanHere 4 = .ok (.istore_n 2, 1) := by decide +kernel
theorem dX9_spanHere_5 : decode cX9_spanHere 5 = .ok (.aload_n 0, 1) := by decide +kernel
theorem dX9_spanHere_6 : decode cX9_spanHere 6 = .ok (.invokevirtual 151, 3) := by decide +kernel
theorem dX9_spanHere_9 : decode cX9_spanHere 9 = .ok (.istore_n 3, 1) := by decide +kernel
theorem dX9_spanHere_10 : decode cX9_spanHere 10 = .ok (.aload_n 0, 1) := by decide +kernel
theorem dX9_spanHere_11 : decode cX9_spanHere 11 = .ok (.invokevirtual 140, 3) := by decide +kernel
theorem dX9_spanHere_14 : decode cX9_spanHere 14 = .ok (.ifCond .ne 24, 3) := by decide +kernel
theorem dX9_spanHere_17 : decode cX9_spanHere 17 = .ok (.iload_n 3, 1) := by decide +kernel
theorem dX9_spanHere_18 : decode cX9_spanHere 18 = .ok (.ifCond .eq 15, 3) := by decide +kernel
theorem dX9_spanHere_21 : decode cX9_spanHere 21 = .ok (.iload_n 1, 1) := by decide +kernel
theorem dX9_spanHere_22 : decode cX9_spanHere 22 = .ok (.iload_n 3, 1) := by decide +kernel
theorem dX9_spanHere_23 : decode cX9_spanHere 23 = .ok (.iadd, 1) := by decide +kernel
theorem dX9_spanHere_24 : decode cX9_spanHere 24 = .ok (.aload_n 0, 1) := by decide +kernel
theorem dX9_spanHere_25 : decode cX9_spanHere 25 = .ok (.getfield 9, 3) := by decide +kernel
theorem dX9_spanHere_28 : decode cX9_spanHere 28 = .ok (.iconst 0, 1) := by decide +kernel
theorem dX9_spanHere_29 : decode cX9_spanHere 29 = .ok (.iaload, 1) := by decide +kernel
theorem dX9_spanHere_30 : decode cX9_spanHere 30 = .ok (.if_icmp .le 8, 3) := by decide +kernel
theorem dX9_spanHere_33 : decode cX9_spanHere 33 = .ok (.aload_n 0, 1) := by decide +kernel
theorem dX9_spanHere_34 : decode cX9_spanHere 34 = .ok (.iload_n 2, 1) := by decide +kernel
theorem dX9_spanHere_35 : decode cX9_spanHere 35 = .ok (.invokevirtual 148, 3) := by decide +kernel
theorem dX9_spanHere_38 : decode cX9_spanHere 38 = .ok (.iload_n 3, 1) := by decide +kernel
theorem dX9_spanHere_39 : decode cX9_spanHere 39 = .ok (.ireturn, 1) := by decide +kernel
theorem dX9_addsHere_0 : decode cX9_addsHere 0 = .ok (.aload_n 0, 1) := by decide +kernel
theorem dX9_addsHere_1 : decode cX9_addsHere 1 = .ok (.getfield 175, 3) := by decide +kernel
theorem dX9_addsHere_4 : decode cX9_addsHere 4 = .ok (.ifCond .ne 5, 3) := by decide +kernel
theorem dX9_addsHere_7 : decode cX9_addsHere 7 = .ok (.iconst (-1), 1) := by decide +kernel
theorem dX9_addsHere_8 : decode cX9_addsHere 8 = .ok (.ireturn, 1) := by decide +kernel
theorem dX9_addsHere_9 : decode cX9_addsHere 9 = .ok (.aload_n 0, 1) := by decide +kernel
theorem dX9_addsHere_10 : decode cX9_addsHere 10 = .ok (.getfield 9, 3) := by decide +kernel
theorem dX9_addsHere_13 : decode cX9_addsHere 13 = .ok (.iconst 4, 1) := by decide +kernel
theorem dX9_addsHere_14 : decode cX9_addsHere 14 = .ok (.iaload, 1) := by decide +kernel
theorem dX9_addsHere_15 : decode cX9_addsHere 15 = .ok (.ifCond .eq 31, 3) := by decide +kernel
theorem dX9_addsHere_18 : decode cX9_addsHere 18 = .ok (.aload_n 0, 1) := by decide +kernel
theorem dX9_addsHere_19 : decode cX9_addsHere 19 = .ok (.getfield 9, 3) := by decide +kernel
theorem dX9_addsHere_22 : decode cX9_addsHere 22 = .ok (.iconst 5, 1) := by decide +kernel
theorem dX9_addsHere_23 : decode cX9_addsHere 23 = .ok (.iaload, 1) := by decide +kernel
theorem dX9_addsHere_24 : decode cX9_addsHere 24 = .ok (.bipush 16, 2) := by decide +kernel
theorem dX9_addsHere_26 : decode cX9_addsHere 26 = .ok (.if_icmp .eq 20, 3) := by decide +kernel
theorem dX9_addsHere_29 : decode cX9_addsHere 29 = .ok (.aload_n 0, 1) := by decide +kernel
theorem dX9_addsHere_30 : decode cX9_addsHere 30 = .ok (.aload_n 0, 1) := by decide +kernel
theorem dX9_addsHere_31 : decode cX9_addsHere 31 = .ok (.getfield 9, 3) := by decide +kernel
theorem dX9_addsHere_34 : decode cX9_addsHere 34 = .ok (.iconst 4, 1) := by decide +kernel
theorem dX9_addsHere_35 : decode cX9_addsHere 35 = .ok (.iaload, 1) := by decide +kernel
theorem dX9_addsHere_36 : decode cX9_addsHere 36 = .ok (.iconst 1, 1) := by decide +kernel
theorem dX9_addsHere_37 : decode cX9_addsHere 37 = .ok (.isub, 1) := by decide +kernel
theorem dX9_addsHere_38 : decode cX9_addsHere 38 = .ok (.iload_n 1, 1) := by decide +kernel
theorem dX9_addsHere_39 : decode cX9_addsHere 39 = .ok (.iload_n 2, 1) := by decide +kernel
theorem dX9_addsHere_40 : decode cX9_addsHere 40 = .ok (.invokevirtual 113, 3) := by decide +kernel
theorem dX9_addsHere_43 : decode cX9_addsHere 43 = .ok (.ifCond .ne 11, 3) := by decide +kernel
theorem dX9_addsHere_46 : decode cX9_addsHere 46 = .ok (.aload_n 0, 1) := by decide +kernel
theorem dX9_addsHere_47 : decode cX9_addsHere 47 = .ok (.iload 4, 2) := by decide +kernel
theorem dX9_addsHere_49 : decode cX9_addsHere 49 = .ok (.invokevirtual 200, 3) := by decide +kernel
theorem dX9_addsHere_52 : decode cX9_addsHere 52 = .ok (.iconst (-1), 1) := by decide +kernel
theorem dX9_addsHere_53 : decode cX9_addsHere 53 = .ok (.ireturn, 1) := by decide +kernel
theorem dX9_addsHere_54 : decode cX9_addsHere 54 = .ok (.aload_n 0, 1) := by decide +kernel
theorem dX9_addsHere_55 : decode cX9_addsHere 55 = .ok (.aload_n 0, 1) := by decide +kernel
theorem dX9_addsHere_56 : decode cX9_addsHere 56 = .ok (.getfield 9, 3) := by decide +kernel
theorem dX9_addsHere_59 : decode cX9_addsHere 59 = .ok (.iconst 4, 1) := by decide +kernel
theorem dX9_addsHere_60 : decode cX9_addsHere 60 = .ok (.iaload, 1) := by decide +kernel
theorem dX9_addsHere_61 : decode cX9_addsHere 61 = .ok (.iconst 1, 1) := by decide +kernel
theorem dX9_addsHere_62 : decode cX9_addsHere 62 = .ok (.isub, 1) := by decide +kernel
theorem dX9_addsHere_63 : decode cX9_addsHere 63 = .ok (.iload_n 1, 1) := by decide +kernel
theorem dX9_addsHere_64 : decode cX9_addsHere 64 = .ok (.iload_n 2, 1) := by decide +kernel
theorem dX9_addsHere_65 : decode cX9_addsHere 65 = .ok (.iload_n 3, 1) := by decide +kernel
theorem dX9_addsHere_66 : decode cX9_addsHere 66 = .ok (.invokevirtual 116, 3) := by decide +kernel
theorem dX9_addsHere_69 : decode cX9_addsHere 69 = .ok (.ireturn, 1) := by decide +kernel
theorem dX9_letterOf_0 : decode cX9_letterOf 0 = .ok (.iconst (-1), 1) := by decide +kernel
theorem dX9_letterOf_1 : decode cX9_letterOf 1 = .ok (.istore_n 2, 1) := by decide +kernel
theorem dX9_letterOf_2 : decode cX9_letterOf 2 = .ok (.iconst 0, 1) := by decide +kernel
theorem dX9_letterOf_3 : decode cX9_letterOf 3 = .ok (.istore_n 3, 1) := by decide +kernel
theorem dX9_letterOf_4 : decode cX9_letterOf 4 = .ok (.iload_n 3, 1) := by decide +kernel
theorem dX9_letterOf_5 : decode cX9_letterOf 5 = .ok (.aload_n 1, 1) := by decide +kernel
theorem dX9_letterOf_6 : decode cX9_letterOf 6 = .ok (.invokevirtual 163, 3) := by decide +kernel
theorem dX9_letterOf_9 : decode cX9_letterOf 9 = .ok (.if_icmp .ge 27, 3) := by decide +kernel
theorem dX9_letterOf_12 : decode cX9_letterOf 12 = .ok (.aload_n 0, 1) := by decide +kernel
theorem dX9_letterOf_13 : decode cX9_letterOf 13 = .ok (.invokevirtual 144, 3) := by decide +kernel
theorem dX9_letterOf_16 : decode cX9_letterOf 16 = .ok (.aload_n 1, 1) := by decide +kernel
theorem dX9_letterOf_17 : decode cX9_letterOf 17 = .ok (.iload_n 3, 1) := by decide +kernel
theorem dX9_letterOf_18 : decode cX9_letterOf 18 = .ok (.invokevirtual 167, 3) := by decide +kernel
theorem dX9_letterOf_21 : decode cX9_letterOf 21 = .ok (.if_icmp .ne 7, 3) := by decide +kernel
theorem dX9_letterOf_24 : decode cX9_letterOf 24 = .ok (.iload_n 3, 1) := by decide +kernel
theorem dX9_letterOf_25 : decode cX9_letterOf 25 = .ok (.goto 4, 3) := by decide +kernel
theorem dX9_letterOf_28 : decode cX9_letterOf 28 = .ok (.iload_n 2, 1) := by decide +kernel
theorem dX9_letterOf_29 : decode cX9_letterOf 29 = .ok (.istore_n 2, 1) := by decide +kernel
theorem dX9_letterOf_30 : decode cX9_letterOf 30 = .ok (.iinc 3 1, 3) := by decide +kernel
theorem dX9_letterOf_33 : decode cX9_letterOf 33 = .ok (.goto (-29), 3) := by decide +kernel
theorem dX9_letterOf_36 : decode cX9_letterOf 36 = .ok (.iload_n 2, 1) := by decide +kernel
theorem dX9_letterOf_37 : decode cX9_letterOf 37 = .ok (.iconst (-1), 1) := by decide +kernel
theorem dX9_letterOf_38 : decode cX9_letterOf 38 = .ok (.if_icmp .ne 14, 3) := by decide +kernel
theorem dX9_letterOf_41 : decode cX9_letterOf 41 = .ok (.aload_n 0, 1) := by decide +kernel
theorem dX9_letterOf_42 : decode cX9_letterOf 42 = .ok (.aload_n 0, 1) := by decide +kernel
theorem dX9_letterOf_43 : decode cX9_letterOf 43 = .ok (.getfield 137, 3) := by decide +kernel
theorem dX9_letterOf_46 : decode cX9_letterOf 46 = .ok (.invokevirtual 148, 3) := by decide +kernel
theorem dX9_letterOf_49 : decode cX9_letterOf 49 = .ok (.goto 13, 3) := by decide +kernel
theorem dX9_letterOf_52 : decode cX9_letterOf 52 = .ok (.aload_n 0, 1) := by decide +kernel
theorem dX9_letterOf_53 : decode cX9_letterOf 53 = .ok (.dup, 1) := by decide +kernel
theorem dX9_letterOf_54 : decode cX9_letterOf 54 = .ok (.getfield 137, 3) := by decide +kernel
theorem dX9_letterOf_57 : decode cX9_letterOf 57 = .ok (.iconst 1, 1) := by decide +kernel
theorem dX9_letterOf_58 : decode cX9_letterOf 58 = .ok (.iadd, 1) := by decide +kernel
theorem dX9_letterOf_59 : decode cX9_letterOf 59 = .ok (.putfield 137, 3) := by decide +kernel
theorem dX9_letterOf_62 : decode cX9_letterOf 62 = .ok (.iload_n 2, 1) := by decide +kernel
theorem dX9_letterOf_63 : decode cX9_letterOf 63 = .ok (.ireturn, 1) := by decide +kernel
theorem dX9_wordLength_0 : decode cX9_wordLength 0 = .ok (.iconst 0, 1) := by decide +kernel
theorem dX9_wordLength_1 : decode cX9_wordLength 1 = .ok (.istore_n 1, 1) := by decide +kernel
theorem dX9_wordLength_2 : decode cX9_wordLength 2 = .ok (.aload_n 0, 1) := by decide +kernel
theorem dX9_wordLength_3 : decode cX9_wordLength 3 = .ok (.invokevirtual 140, 3) := by decide +kernel
theorem dX9_wordLength_6 : decode cX9_wordLength 6 = .ok (.ifCond .ne 50, 3) := by decide +kernel
theorem dX9_wordLength_9 : decode cX9_wordLength 9 = .ok (.aload_n 0, 1) := by decide +kernel
theorem dX9_wordLength_10 : decode cX9_wordLength 10 = .ok (.invokevirtual 144, 3) := by decide +kernel
theorem dX9_wordLength_13 : decode cX9_wordLength 13 = .ok (.bipush 97, 2) := by decide +kernel
theorem dX9_wordLength_15 : decode cX9_wordLength 15 = .ok (.bipush 122, 2) := by decide +kernel
theorem dX9_wordLength_17 : decode cX9_wordLength 17 = .ok (.invokestatic 87, 3) := by decide +kernel
theorem dX9_wordLength_20 : decode cX9_wordLength 20 = .ok (.ifCond .eq 36, 3) := by decide +kernel
theorem dX9_wordLength_23 : decode cX9_wordLength 23 = .ok (.iload_n 1, 1) := by decide +kernel
theorem dX9_wordLength_24 : decode cX9_wordLength 24 = .ok (.bipush 12, 2) := by decide +kernel
theorem dX9_wordLength_26 : decode cX9_wordLength 26 = .ok (.if_icmp .ne 14, 3) := by decide +kernel
theorem dX9_wordLength_29 : decode cX9_wordLength 29 = .ok (.aload_n 0, 1) := by decide +kernel
theorem dX9_wordLength_30 : decode cX9_wordLength 30 = .ok (.aload_n 0, 1) := by decide +kernel
theorem dX9_wordLength_31 : decode cX9_wordLength 31 = .ok (.getfield 137, 3) := by decide +kernel
theorem dX9_wordLength_34 : decode cX9_wordLength 34 = .ok (.invokevirtual 148, 3) := by decide +kernel
theorem dX9_wordLength_37 : decode cX9_wordLength 37 = .ok (.goto 13, 3) := by decide +kernel
theorem dX9_wordLength_40 : decode cX9_wordLength 40 = .ok (.aload_n 0, 1) := by decide +kernel
theorem dX9_wordLength_41 : decode cX9_wordLength 41 = .ok (.dup, 1) := by decide +kernel
theorem dX9_wordLength_42 : decode cX9_wordLength 42 = .ok (.getfield 137, 3) := by decide +kernel
theorem dX9_wordLength_45 : decode cX9_wordLength 45 = .ok (.iconst 1, 1) := by decide +kernel
theorem dX9_wordLength_46 : decode cX9_wordLength 46 = .ok (.iadd, 1) := by decide +kernel
theorem dX9_wordLength_47 : decode cX9_wordLength 47 = .ok (.putfield 137, 3) := by decide +kernel
theorem dX9_wordLength_50 : decode cX9_wordLength 50 = .ok (.iinc 1 1, 3) := by decide +kernel
theorem dX9_wordLength_53 : decode cX9_wordLength 53 = .ok (.goto (-51), 3) := by decide +kernel
theorem dX9_wordLength_56 : decode cX9_wordLength 56 = .ok (.aload_n 0, 1) := by decide +kernel
theorem dX9_wordLength_57 : decode cX9_wordLength 57 = .ok (.invokevirtual 140, 3) := by decide +kernel
theorem dX9_wordLength_60 : decode cX9_wordLength 60 = .ok (.ifCond .ne 15, 3) := by decide +kernel
theorem dX9_wordLength_63 : decode cX9_wordLength 63 = .ok (.iload_n 1, 1) := by decide +kernel
theorem dX9_wordLength_64 : decode cX9_wordLength 64 = .ok (.ifCond .ne 11, 3) := by decide +kernel
theorem dX9_wordLength_67 : decode cX9_wordLength 67 = .ok (.aload_n 0, 1) := by decide +kernel
theorem dX9_wordLength_68 : decode cX9_wordLength 68 = .ok (.aload_n 0, 1) := by decide +kernel
theorem dX9_wordLength_69 : decode cX9_wordLength 69 = .ok (.getfield 137, 3) := by decide +kernel
theorem dX9_wordLength_72 : decode cX9_wordLength 72 = .ok (.invokevirtual 148, 3) := by decide +kernel
theorem dX9_wordLength_75 : decode cX9_wordLength 75 = .ok (.iload_n 1, 1) := by decide +kernel
theorem dX9_wordLength_76 : decode cX9_wordLength 76 = .ok (.ireturn, 1) := by decide +kernel
theorem dX9_writes_0 : decode cX9_writes 0 = .ok (.aload_n 0, 1) := by decide +kernel
theorem dX9_writes_1 : decode cX9_writes 1 = .ok (.invokevirtual 184, 3) := by decide +kernel
theorem dX9_writes_4 : decode cX9_writes 4 = .ok (.istore_n 2, 1) := by decide +kernel
theorem dX9_writes_5 : decode cX9_writes 5 = .ok (.aload_n 0, 1) := by decide +kernel
theorem dX9_writes_6 : decode cX9_writes 6 = .ok (.iload_n 2, 1) := by decide +kernel
theorem dX9_writes_7 : decode cX9_writes 7 = .ok (.invokevirtual 203, 3) := by decide +kernel
theorem dX9_writes_10 : decode cX9_writes 10 = .ok (.istore_n 3, 1) := by decide +kernel
theorem dX9_writes_11 : decode cX9_writes 11 = .ok (.aload_n 0, 1) := by decide +kernel
theorem dX9_writes_12 : decode cX9_writes 12 = .ok (.invokevirtual 140, 3) := by decide +kernel
theorem dX9_writes_15 : decode cX9_writes 15 = .ok (.ifCond .eq 4, 3) := by decide +kernel
theorem dX9_writes_18 : decode cX9_writes 18 = .ok (.return_, 1) := by decide +kernel
theorem dX9_writes_19 : decode cX9_writes 19 = .ok (.aload_n 0, 1) := by decide +kernel
theorem dX9_writes_20 : decode cX9_writes 20 = .ok (.ldc 206, 2) := by decide +kernel
theorem dX9_writes_22 : decode cX9_writes 22 = .ok (.invokevirtual 208, 3) := by decide +kernel
theorem dX9_writes_25 : decode cX9_writes 25 = .ok (.istore 4, 2) := by decide +kernel
theorem dX9_writes_27 : decode cX9_writes 27 = .ok (.aload_n 0, 1) := by decide +kernel
theorem dX9_writes_28 : decode cX9_writes 28 = .ok (.bipush 61, 2) := by decide +kernel
theorem dX9_writes_30 : decode cX9_writes 30 = .ok (.invokevirtual 178, 3) := by decide +kernel
theorem dX9_writes_33 : decode cX9_writes 33 = .ok (.aload_n 0, 1) := by decide +kernel
theorem dX9_writes_34 : decode cX9_writes 34 = .ok (.invokevirtual 140, 3) := by decide +kernel
theorem dX9_writes_37 : decode cX9_writes 37 = .ok (.ifCond .eq 7, 3) := by decide +kernel
theorem dX9_writes_40 : decode cX9_writes 40 = .ok (.iconst (-1), 1) := by decide +kernel
theorem dX9_writes_41 : decode cX9_writes 41 = .ok (.goto 12, 3) := by decide +kernel
theorem dX9_writes_44 : decode cX9_writes 44 = .ok (.aload_n 0, 1) := by decide +kernel
theorem dX9_writes_45 : decode cX9_writes 45 = .ok (.iload_n 2, 1) := by decide +kernel
theorem dX9_writes_46 : decode cX9_writes 46 = .ok (.iload_n 3, 1) := by decide +kernel
theorem dX9_writes_47 : decode cX9_writes 47 = .ok (.iload 4, 2) := by decide +kernel
theorem dX9_writes_49 : decode cX9_writes 49 = .ok (.iload_n 1, 1) := by decide +kernel
theorem dX9_writes_50 : decode cX9_writes 50 = .ok (.invokevirtual 212, 3) := by decide +kernel
theorem dX9_writes_53 : decode cX9_writes 53 = .ok (.istore 5, 2) := by decide +kernel
theorem dX9_writes_55 : decode cX9_writes 55 = .ok (.aload_n 0, 1) := by decide +kernel
theorem dX9_writes_56 : decode cX9_writes 56 = .ok (.invokevirtual 140, 3) := by decide +kernel
theorem dX9_writes_59 : decode cX9_writes 59 = .ok (.ifCond .ne 7, 3) := by decide +kernel
theorem dX9_writes_62 : decode cX9_writes 62 = .ok (.iconst 1, 1) := by decide +kernel
theorem dX9_writes_63 : decode cX9_writes 63 = .ok (.goto 4, 3) := by decide +kernel
theorem dX9_writes_66 : decode cX9_writes 66 = .ok (.iconst 0, 1) := by decide +kernel
theorem dX9_writes_67 : decode cX9_writes 67 = .ok (.istore 6, 2) := by decide +kernel
theorem dX9_writes_69 : decode cX9_writes 69 = .ok (.iconst 1, 1) := by decide +kernel
theorem dX9_writes_70 : decode cX9_writes 70 = .ok (.istore 7, 2) := by decide +kernel
theorem dX9_writes_72 : decode cX9_writes 72 = .ok (.iload 6, 2) := by decide +kernel
theorem dX9_writes_74 : decode cX9_writes 74 = .ok (.ifCond .eq 132, 3) := by decide +kernel
theorem dX9_writes_77 : decode cX9_writes 77 = .ok (.aload_n 0, 1) := by decide +kernel
theorem dX9_writes_78 : decode cX9_writes 78 = .ok (.invokevirtual 215, 3) := by decide +kernel
theorem dX9_writes_81 : decode cX9_writes 81 = .ok (.istore 8, 2) := by decide +kernel
theorem dX9_writes_83 : decode cX9_writes 83 = .ok (.aload_n 0, 1) := by decide +kernel
theorem dX9_writes_84 : decode cX9_writes 84 = .ok (.invokevirtual 140, 3) := by decide +kernel
theorem dX9_writes_87 : decode cX9_writes 87 = .ok (.ifCond .ne 24, 3) := by decide +kernel
theorem dX9_writes_90 : decode cX9_writes 90 = .ok (.aload_n 0, 1) := by decide +kernel
theorem dX9_writes_91 : decode cX9_writes 91 = .ok (.invokevirtual 144, 3) := by decide +kernel
theorem dX9_writes_94 : decode cX9_writes 94 = .ok (.bipush 59, 2) := by decide +kernel
theorem dX9_writes_96 : decode cX9_writes 96 = .ok (.if_icmp .eq 15, 3) := by decide +kernel
theorem dX9_writes_99 : decode cX9_writes 99 = .ok (.aload_n 0, 1) := by decide +kernel
theorem dX9_writes_100 : decode cX9_writes 100 = .ok (.invokevirtual 144, 3) := by decide +kernel
theorem dX9_writes_103 : decode cX9_writes 103 = .ok (.iconst (-1), 1) := by decide +kernel
theorem dX9_writes_104 : decode cX9_writes 104 = .ok (.if_icmp .eq 7, 3) := by decide +kernel
theorem dX9_writes_107 : decode cX9_writes 107 = .ok (.iconst 1, 1) := by decide +kernel
theorem dX9_writes_108 : decode cX9_writes 108 = .ok (.goto 4, 3) := by decide +kernel
theorem dX9_writes_111 : decode cX9_writes 111 = .ok (.iconst 0, 1) := by decide +kernel
theorem dX9_writes_112 : decode cX9_writes 112 = .ok (.istore 9, 2) := by decide +kernel
theorem dX9_writes_114 : decode cX9_writes 114 = .ok (.iload 9, 2) := by decide +kernel
theorem dX9_writes_116 : decode cX9_writes 116 = .ok (.ifCond .eq 19, 3) := by decide +kernel
theorem dX9_writes_119 : decode cX9_writes 119 = .ok (.iload 7, 2) := by decide +kernel
theorem dX9_writes_121 : decode cX9_writes 121 = .ok (.bipush 12, 2) := by decide +kernel
theorem dX9_writes_123 : decode cX9_writes 123 = .ok (.if_icmp .ge 12, 3) := by decide +kernel
theorem dX9_writes_126 : decode cX9_writes 126 = .ok (.aload_n 0, 1) := by decide +kernel
theorem dX9_writes_127 : decode cX9_writes 127 = .ok (.ldc 218, 2) := by decide +kernel
theorem dX9_writes_129 : decode cX9_writes 129 = .ok (.invokevirtual 208, 3) := by decide +kernel
theorem dX9_writes_132 : decode cX9_writes 132 = .ok (.goto 4, 3) := by decide +kernel
theorem dX9_writes_135 : decode cX9_writes 135 = .ok (.iconst 0, 1) := by decide +kernel
theorem dX9_writes_136 : decode cX9_writes 136 = .ok (.istore 10, 2) := by decide +kernel
theorem dX9_writes_138 : decode cX9_writes 138 = .ok (.iload 9, 2) := by decide +kernel
theorem dX9_writes_140 : decode cX9_writes 140 = .ok (.ifCond .eq 18, 3) := by decide +kernel
theorem dX9_writes_143 : decode cX9_writes 143 = .ok (.iload 7, 2) := by decide +kernel
theorem dX9_writes_145 : decode cX9_writes 145 = .ok (.bipush 12, 2) := by decide +kernel
theorem dX9_writes_147 : decode cX9_writes 147 = .ok (.if_icmp .ne 11, 3) := by decide +kernel
theorem dX9_writes_150 : decode cX9_writes 150 = .ok (.aload_n 0, 1) := by decide +kernel
theorem dX9_writes_151 : decode cX9_writes 151 = .ok (.aload_n 0, 1) := by decide +kernel
theorem dX9_writes_152 : decode cX9_writes 152 = .ok (.getfield 137, 3) := by decide +kernel
theorem dX9_writes_155 : decode cX9_writes 155 = .ok (.invokevirtual 148, 3) := by decide +kernel
theorem dX9_writes_158 : decode cX9_writes 158 = .ok (.iload 5, 2) := by decide +kernel
theorem dX9_writes_160 : decode cX9_writes 160 = .ok (.iconst (-1), 1) := by decide +kernel
theorem dX9_writes_161 : decode cX9_writes 161 = .ok (.if_icmp .eq 20, 3) := by decide +kernel
theorem dX9_writes_164 : decode cX9_writes 164 = .ok (.aload_n 0, 1) := by decide +kernel
theorem dX9_writes_165 : decode cX9_writes 165 = .ok (.invokevirtual 140, 3) := by decide +kernel
theorem dX9_writes_168 : decode cX9_writes 168 = .ok (.ifCond .ne 13, 3) := by decide +kernel
theorem dX9_writes_171 : decode cX9_writes 171 = .ok (.aload_n 0, 1) := by decide +kernel
theorem dX9_writes_172 : decode cX9_writes 172 = .ok (.iload 5, 2) := by decide +kernel
theorem dX9_writes_174 : decode cX9_writes 174 = .ok (.iload 8, 2) := by decide +kernel
theorem dX9_writes_176 : decode cX9_writes 176 = .ok (.iload 10, 2) := by decide +kernel
theorem dX9_writes_178 : decode cX9_writes 178 = .ok (.invokevirtual 130, 3) := by decide +kernel
theorem dX9_writes_181 : decode cX9_writes 181 = .ok (.iload 9, 2) := by decide +kernel
theorem dX9_writes_183 : decode cX9_writes 183 = .ok (.ifCond .eq 14, 3) := by decide +kernel
theorem dX9_writes_186 : decode cX9_writes 186 = .ok (.aload_n 0, 1) := by decide +kernel
theorem dX9_writes_187 : decode cX9_writes 187 = .ok (.invokevirtual 140, 3) := by decide +kernel
theorem dX9_writes_190 : decode cX9_writes 190 = .ok (.ifCond .ne 7, 3) := by decide +kernel
theorem dX9_writes_193 : decode cX9_writes 193 = .ok (.iconst 1, 1) := by decide +kernel
theorem dX9_writes_194 : decode cX9_writes 194 = .ok (.goto 4, 3) := by decide +kernel
theorem dX9_writes_197 : decode cX9_writes 197 = .ok (.iconst 0, 1) := by decide +kernel
theorem dX9_writes_198 : decode cX9_writes 198 = .ok (.istore 6, 2) := by decide +kernel
theorem dX9_writes_200 : decode cX9_writes 200 = .ok (.iinc 7 1, 3) := by decide +kernel
theorem dX9_writes_203 : decode cX9_writes 203 = .ok (.goto (-131), 3) := by decide +kernel
theorem dX9_writes_206 : decode cX9_writes 206 = .ok (.aload_n 0, 1) := by decide +kernel
theorem dX9_writes_207 : decode cX9_writes 207 = .ok (.bipush 59, 2) := by decide +kernel
theorem dX9_writes_209 : decode cX9_writes 209 = .ok (.invokevirtual 178, 3) := by decide +kernel
theorem dX9_writes_212 : decode cX9_writes 212 = .ok (.return_, 1) := by decide +kernel
theorem dX9_draws_0 : decode cX9_draws 0 = .ok (.aload_n 0, 1) := by decide +kernel
theorem dX9_draws_1 : decode cX9_draws 1 = .ok (.invokevirtual 184, 3) := by decide +kernel
theorem dX9_draws_4 : decode cX9_draws 4 = .ok (.istore_n 2, 1) := by decide +kernel
theorem dX9_draws_5 : decode cX9_draws 5 = .ok (.aload_n 0, 1) := by decide +kernel
theorem dX9_draws_6 : decode cX9_draws 6 = .ok (.iload_n 2, 1) := by decide +kernel
theorem dX9_draws_7 : decode cX9_draws 7 = .ok (.invokevirtual 203, 3) := by decide +kernel
theorem dX9_draws_10 : decode cX9_draws 10 = .ok (.istore_n 3, 1) := by decide +kernel
theorem dX9_draws_11 : decode cX9_draws 11 = .ok (.aload_n 0, 1) := by decide +kernel
theorem dX9_draws_12 : decode cX9_draws 12 = .ok (.bipush 61, 2) := by decide +kernel
theorem dX9_draws_14 : decode cX9_draws 14 = .ok (.invokevirtual 178, 3) := by decide +kernel
theorem dX9_draws_17 : decode cX9_draws 17 = .ok (.aload_n 0, 1) := by decide +kernel
theorem dX9_draws_18 : decode cX9_draws 18 = .ok (.iconst 1, 1) := by decide +kernel
theorem dX9_draws_19 : decode cX9_draws 19 = .ok (.bipush 20, 2) := by decide +kernel
theorem dX9_draws_21 : decode cX9_draws 21 = .ok (.invokevirtual 181, 3) := by decide +kernel
theorem dX9_draws_24 : decode cX9_draws 24 = .ok (.istore 4, 2) := by decide +kernel
theorem dX9_draws_26 : decode cX9_draws 26 = .ok (.aload_n 0, 1) := by decide +kernel
theorem dX9_draws_27 : decode cX9_draws 27 = .ok (.bipush 120, 2) := by decide +kernel
theorem dX9_draws_29 : decode cX9_draws 29 = .ok (.invokevirtual 178, 3) := by decide +kernel
theorem dX9_draws_32 : decode cX9_draws 32 = .ok (.aload_n 0, 1) := by decide +kernel
theorem dX9_draws_33 : decode cX9_draws 33 = .ok (.iconst 1, 1) := by decide +kernel
theorem dX9_draws_34 : decode cX9_draws 34 = .ok (.bipush 20, 2) := by decide +kernel
theorem dX9_draws_36 : decode cX9_draws 36 = .ok (.invokevirtual 181, 3) := by decide +kernel
theorem dX9_draws_39 : decode cX9_draws 39 = .ok (.istore 5, 2) := by decide +kernel
theorem dX9_draws_41 : decode cX9_draws 41 = .ok (.aload_n 0, 1) := by decide +kernel
theorem dX9_draws_42 : decode cX9_draws 42 = .ok (.bipush 59, 2) := by decide +kernel
theorem dX9_draws_44 : decode cX9_draws 44 = .ok (.invokevirtual 178, 3) := by decide +kernel
theorem dX9_draws_47 : decode cX9_draws 47 = .ok (.aload_n 0, 1) := by decide +kernel
theorem dX9_draws_48 : decode cX9_draws 48 = .ok (.invokevirtual 140, 3) := by decide +kernel
theorem dX9_draws_51 : decode cX9_draws 51 = .ok (.ifCond .eq 7, 3) := by decide +kernel
theorem dX9_draws_54 : decode cX9_draws 54 = .ok (.iconst (-1), 1) := by decide +kernel
theorem dX9_draws_55 : decode cX9_draws 55 = .ok (.goto 11, 3) := by decide +kernel
theorem dX9_draws_58 : decode cX9_draws 58 = .ok (.aload_n 0, 1) := by decide +kernel
theorem dX9_draws_59 : decode cX9_draws 59 = .ok (.iload_n 2, 1) := by decide +kernel
theorem dX9_draws_60 : decode cX9_draws 60 = .ok (.iload_n 3, 1) := by decide +kernel
theorem dX9_draws_61 : decode cX9_draws 61 = .ok (.iconst 4, 1) := by decide +kernel
theorem dX9_draws_62 : decode cX9_draws 62 = .ok (.iload_n 1, 1) := by decide +kernel
theorem dX9_draws_63 : decode cX9_draws 63 = .ok (.invokevirtual 212, 3) := by decide +kernel
theorem dX9_draws_66 : decode cX9_draws 66 = .ok (.istore 6, 2) := by decide +kernel
theorem dX9_draws_68 : decode cX9_draws 68 = .ok (.iload 6, 2) := by decide +kernel
theorem dX9_draws_70 : decode cX9_draws 70 = .ok (.iconst (-1), 1) := by decide +kernel
theorem dX9_draws_71 : decode cX9_draws 71 = .ok (.if_icmp .eq 38, 3) := by decide +kernel
theorem dX9_draws_74 : decode cX9_draws 74 = .ok (.aload_n 0, 1) := by decide +kernel
theorem dX9_draws_75 : decode cX9_draws 75 = .ok (.getfield 9, 3) := by decide +kernel
theorem dX9_draws_78 : decode cX9_draws 78 = .ok (.bipush 10, 2) := by decide +kernel
theorem dX9_draws_80 : decode cX9_draws 80 = .ok (.bipush 31, 2) := by decide +kernel
theorem dX9_draws_82 : decode cX9_draws 82 = .ok (.iload 6, 2) := by decide +kernel
theorem dX9_draws_84 : decode cX9_draws 84 = .ok (.imul, 1) := by decide +kernel
theorem dX9_draws_85 : decode cX9_draws 85 = .ok (.iadd, 1) := by decide +kernel
theorem dX9_draws_86 : decode cX9_draws 86 = .ok (.iconst 5, 1) := by decide +kernel
theorem dX9_draws_87 : decode cX9_draws 87 = .ok (.iadd, 1) := by decide +kernel
theorem dX9_draws_88 : decode cX9_draws 88 = .ok (.iload 4, 2) := by decide +kernel
theorem dX9_draws_90 : decode cX9_draws 90 = .ok (.iastore, 1) := by decide +kernel
theorem dX9_draws_91 : decode cX9_draws 91 = .ok (.aload_n 0, 1) := by decide +kernel
theorem dX9_draws_92 : decode cX9_draws 92 = .ok (.getfield 9, 3) := by decide +kernel
theorem dX9_draws_95 : decode cX9_draws 95 = .ok (.bipush 10, 2) := by decide +kernel
theorem dX9_draws_97 : decode cX9_draws 97 = .ok (.bipush 31, 2) := by decide +kernel
theorem dX9_draws_99 : decode cX9_draws 99 = .ok (.iload 6, 2) := by decide +kernel
theorem dX9_draws_101 : decode cX9_draws 101 = .ok (.imul, 1) := by decide +kernel
theorem dX9_draws_102 : decode cX9_draws 102 = .ok (.iadd, 1) := by decide +kernel
theorem dX9_draws_103 : decode cX9_draws 103 = .ok (.bipush 6, 2) := by decide +kernel
theorem dX9_draws_105 : decode cX9_draws 105 = .ok (.iadd, 1) := by decide +kernel
theorem dX9_draws_106 : decode cX9_draws 106 = .ok (.iload 5, 2) := by decide +kernel
theorem dX9_draws_108 : decode cX9_draws 108 = .ok (.iastore, 1) := by decide +kernel
theorem dX9_draws_109 : decode cX9_draws 109 = .ok (.return_, 1) := by decide +kernel
theorem dX9_rows_0 : decode cX9_rows 0 = .ok (.aload_n 0, 1) := by decide +kernel
theorem dX9_rows_1 : decode cX9_rows 1 = .ok (.bipush 59, 2) := by decide +kernel
theorem dX9_rows_3 : decode cX9_rows 3 = .ok (.invokevirtual 178, 3) := by decide +kernel
theorem dX9_rows_6 : decode cX9_rows 6 = .ok (.aload_n 0, 1) := by decide +kernel
theorem dX9_rows_7 : decode cX9_rows 7 = .ok (.getfield 175, 3) := by decide +kernel
theorem dX9_rows_10 : decode cX9_rows 10 = .ok (.ifCond .eq 22, 3) := by decide +kernel
theorem dX9_rows_13 : decode cX9_rows 13 = .ok (.aload_n 0, 1) := by decide +kernel
theorem dX9_rows_14 : decode cX9_rows 14 = .ok (.getfield 9, 3) := by decide +kernel
theorem dX9_rows_17 : decode cX9_rows 17 = .ok (.iconst 4, 1) := by decide +kernel
theorem dX9_rows_18 : decode cX9_rows 18 = .ok (.iaload, 1) := by decide +kernel
theorem dX9_rows_19 : decode cX9_rows 19 = .ok (.bipush 6, 2) := by decide +kernel
theorem dX9_rows_21 : decode cX9_rows 21 = .ok (.if_icmp .ne 11, 3) := by decide +kernel
theorem dX9_rows_24 : decode cX9_rows 24 = .ok (.aload_n 0, 1) := by decide +kernel
theorem dX9_rows_25 : decode cX9_rows 25 = .ok (.iload_n 1, 1) := by decide +kernel
theorem dX9_rows_26 : decode cX9_rows 26 = .ok (.invokevirtual 200, 3) := by decide +kernel
theorem dX9_rows_29 : decode cX9_rows 29 = .ok (.goto 20, 3) := by decide +kernel
theorem dX9_rows_32 : decode cX9_rows 32 = .ok (.aload_n 0, 1) := by decide +kernel
theorem dX9_rows_33 : decode cX9_rows 33 = .ok (.getfield 175, 3) := by decide +kernel
theorem dX9_rows_36 : decode cX9_rows 36 = .ok (.ifCond .eq 13, 3) := by decide +kernel
theorem dX9_rows_39 : decode cX9_rows 39 = .ok (.aload_n 0, 1) := by decide +kernel
theorem dX9_rows_40 : decode cX9_rows 40 = .ok (.getfield 9, 3) := by decide +kernel
theorem dX9_rows_43 : decode cX9_rows 43 = .ok (.iconst 4, 1) := by decide +kernel
theorem dX9_rows_44 : decode cX9_rows 44 = .ok (.dup2, 1) := by decide +kernel
theorem dX9_rows_45 : decode cX9_rows 45 = .ok (.iaload, 1) := by decide +kernel
theorem dX9_rows_46 : decode cX9_rows 46 = .ok (.iconst 1, 1) := by decide +kernel
theorem dX9_rows_47 : decode cX9_rows 47 = .ok (.iadd, 1) := by decide +kernel
theorem dX9_rows_48 : decode cX9_rows 48 = .ok (.iastore, 1) := by decide +kernel
theorem dX9_rows_49 : decode cX9_rows 49 = .ok (.return_, 1) := by decide +kernel
theorem dX9_command_0 : decode cX9_command 0 = .ok (.aload_n 0, 1) := by decide +kernel
theorem dX9_command_1 : decode cX9_command 1 = .ok (.getfield 137, 3) := by decide +kernel
theorem dX9_command_4 : decode cX9_command 4 = .ok (.istore_n 1, 1) := by decide +kernel
theorem dX9_command_5 : decode cX9_command 5 = .ok (.aload_n 0, 1) := by decide +kernel
theorem dX9_command_6 : decode cX9_command 6 = .ok (.invokevirtual 187, 3) := by decide +kernel
theorem dX9_command_9 : decode cX9_command 9 = .ok (.lstore_n 2, 1) := by decide +kernel
theorem dX9_command_10 : decode cX9_command 10 = .ok (.aload_n 0, 1) := by decide +kernel
theorem dX9_command_11 : decode cX9_command 11 = .ok (.getfield 137, 3) := by decide +kernel
theorem dX9_command_14 : decode cX9_command 14 = .ok (.iload_n 1, 1) := by decide +kernel
theorem dX9_command_15 : decode cX9_command 15 = .ok (.if_icmp .ne 14, 3) := by decide +kernel
theorem dX9_command_18 : decode cX9_command 18 = .ok (.aload_n 0, 1) := by decide +kernel
theorem dX9_command_19 : decode cX9_command 19 = .ok (.aload_n 0, 1) := by decide +kernel
theorem dX9_command_20 : decode cX9_command 20 = .ok (.getfield 137, 3) := by decide +kernel
theorem dX9_command_23 : decode cX9_command 23 = .ok (.invokevirtual 148, 3) := by decide +kernel
theorem dX9_command_26 : decode cX9_command 26 = .ok (.goto 133, 3) := by decide +kernel
theorem dX9_command_29 : decode cX9_command 29 = .ok (.lload_n 2, 1) := by decide +kernel
theorem dX9_command_30 : decode cX9_command 30 = .ok (.ldc 220, 2) := by decide +kernel
theorem dX9_command_32 : decode cX9_command 32 = .ok (.invokestatic 193, 3) := by decide +kernel
theorem dX9_command_35 : decode cX9_command 35 = .ok (.lcmp, 1) := by decide +kernel
theorem dX9_command_36 : decode cX9_command 36 = .ok (.ifCond .ne 11, 3) := by decide +kernel
theorem dX9_command_39 : decode cX9_command 39 = .ok (.aload_n 0, 1) := by decide +kernel
theorem dX9_command_40 : decode cX9_command 40 = .ok (.iconst 0, 1) := by decide +kernel
theorem dX9_command_41 : decode cX9_command 41 = .ok (.invokevirtual 222, 3) := by decide +kernel
theorem dX9_command_44 : decode cX9_command 44 = .ok (.goto 115, 3) := by decide +kernel
theorem dX9_command_47 : decode cX9_command 47 = .ok (.lload_n 2, 1) := by decide +kernel
theorem dX9_command_48 : decode cX9_command 48 = .ok (.ldc 225, 2) := by decide +kernel
theorem dX9_command_50 : decode cX9_command 50 = .ok (.invokestatic 193, 3) := by decide +kernel
theorem dX9_command_53 : decode cX9_command 53 = .ok (.lcmp, 1) := by decide +kernel
theorem dX9_command_54 : decode cX9_command 54 = .ok (.ifCond .ne 11, 3) := by decide +kernel
theorem dX9_command_57 : decode cX9_command 57 = .ok (.aload_n 0, 1) := by decide +kernel
theorem dX9_command_58 : decode cX9_command 58 = .ok (.iconst 1, 1) := by decide +kernel
theorem dX9_command_59 : decode cX9_command 59 = .ok (.invokevirtual 222, 3) := by decide +kernel
theorem dX9_command_62 : decode cX9_command 62 = .ok (.goto 97, 3) := by decide +kernel
theorem dX9_command_65 : decode cX9_command 65 = .ok (.lload_n 2, 1) := by decide +kernel
theorem dX9_command_66 : decode cX9_command 66 = .ok (.ldc 227, 2) := by decide +kernel
theorem dX9_command_68 : decode cX9_command 68 = .ok (.invokestatic 193, 3) := by decide +kernel
theorem dX9_command_71 : decode cX9_command 71 = .ok (.lcmp, 1) := by decide +kernel
theorem dX9_command_72 : decode cX9_command 72 = .ok (.ifCond .ne 11, 3) := by decide +kernel
theorem dX9_command_75 : decode cX9_command 75 = .ok (.aload_n 0, 1) := by decide +kernel
theorem dX9_command_76 : decode cX9_command 76 = .ok (.iconst 2, 1) := by decide +kernel
theorem dX9_command_77 : decode cX9_command 77 = .ok (.invokevirtual 222, 3) := by decide +kernel
theorem dX9_command_80 : decode cX9_command 80 = .ok (.goto 79, 3) := by decide +kernel
theorem dX9_command_83 : decode cX9_command 83 = .ok (.lload_n 2, 1) := by decide +kernel
theorem dX9_command_84 : decode cX9_command 84 = .ok (.ldc 229, 2) := by decide +kernel
theorem dX9_command_86 : decode cX9_command 86 = .ok (.invokestatic 193, 3) := by decide +kernel
theorem dX9_command_89 : decode cX9_command 89 = .ok (.lcmp, 1) := by decide +kernel
theorem dX9_command_90 : decode cX9_command 90 = .ok (.ifCond .ne 10, 3) := by decide +kernel
theorem dX9_command_93 : decode cX9_command 93 = .ok (.aload_n 0, 1) := by decide +kernel
theorem dX9_command_94 : decode cX9_command 94 = .ok (.invokevirtual 231, 3) := by decide +kernel
theorem dX9_command_97 : decode cX9_command 97 = .ok (.goto 62, 3) := by decide +kernel
theorem dX9_command_100 : decode cX9_command 100 = .ok (.lload_n 2, 1) := by decide +kernel
theorem dX9_command_101 : decode cX9_command 101 = .ok (.ldc 234, 2) := by decide +kernel
theorem dX9_command_103 : decode cX9_command 103 = .ok (.invokestatic 193, 3) := by decide +kernel
theorem dX9_command_106 : decode cX9_command 106 = .ok (.lcmp, 1) := by decide +kernel
theorem dX9_command_107 : decode cX9_command 107 = .ok (.ifCond .ne 11, 3) := by decide +kernel
theorem dX9_command_110 : decode cX9_command 110 = .ok (.aload_n 0, 1) := by decide +kernel
theorem dX9_command_111 : decode cX9_command 111 = .ok (.iload_n 1, 1) := by decide +kernel
theorem dX9_command_112 : decode cX9_command 112 = .ok (.invokevirtual 236, 3) := by decide +kernel
theorem dX9_command_115 : decode cX9_command 115 = .ok (.goto 44, 3) := by decide +kernel
theorem dX9_command_118 : decode cX9_command 118 = .ok (.lload_n 2, 1) := by decide +kernel
theorem dX9_command_119 : decode cX9_command 119 = .ok (.ldc 239, 2) := by decide +kernel
theorem dX9_command_121 : decode cX9_command 121 = .ok (.invokestatic 193, 3) := by decide +kernel
theorem dX9_command_124 : decode cX9_command 124 = .ok (.lcmp, 1) := by decide +kernel
theorem dX9_command_125 : decode cX9_command 125 = .ok (.ifCond .ne 11, 3) := by decide +kernel
theorem dX9_command_128 : decode cX9_command 128 = .ok (.aload_n 0, 1) := by decide +kernel
theorem dX9_command_129 : decode cX9_command 129 = .ok (.iload_n 1, 1) := by decide +kernel
theorem dX9_command_130 : decode cX9_command 130 = .ok (.invokevirtual 241, 3) := by decide +kernel
theorem dX9_command_133 : decode cX9_command 133 = .ok (.goto 26, 3) := by decide +kernel
theorem dX9_command_136 : decode cX9_command 136 = .ok (.lload_n 2, 1) := by decide +kernel
theorem dX9_command_137 : decode cX9_command 137 = .ok (.ldc 244, 2) := by decide +kernel
theorem dX9_command_139 : decode cX9_command 139 = .ok (.invokestatic 193, 3) := by decide +kernel
theorem dX9_command_142 : decode cX9_command 142 = .ok (.lcmp, 1) := by decide +kernel
theorem dX9_command_143 : decode cX9_command 143 = .ok (.ifCond .ne 11, 3) := by decide +kernel
theorem dX9_command_146 : decode cX9_command 146 = .ok (.aload_n 0, 1) := by decide +kernel
theorem dX9_command_147 : decode cX9_command 147 = .ok (.iload_n 1, 1) := by decide +kernel
theorem dX9_command_148 : decode cX9_command 148 = .ok (.invokevirtual 246, 3) := by decide +kernel
theorem dX9_command_151 : decode cX9_command 151 = .ok (.goto 8, 3) := by decide +kernel
theorem dX9_command_154 : decode cX9_command 154 = .ok (.aload_n 0, 1) := by decide +kernel
theorem dX9_command_155 : decode cX9_command 155 = .ok (.iload_n 1, 1) := by decide +kernel
theorem dX9_command_156 : decode cX9_command 156 = .ok (.invokevirtual 148, 3) := by decide +kernel
theorem dX9_command_159 : decode cX9_command 159 = .ok (.return_, 1) := by decide +kernel
theorem dX9_commands_0 : decode cX9_commands 0 = .ok (.aload_n 0, 1) := by decide +kernel
theorem dX9_commands_1 : decode cX9_commands 1 = .ok (.iload_n 1, 1) := by decide +kernel
theorem dX9_commands_2 : decode cX9_commands 2 = .ok (.putfield 175, 3) := by decide +kernel
theorem dX9_commands_5 : decode cX9_commands 5 = .ok (.aload_n 0, 1) := by decide +kernel
theorem dX9_commands_6 : decode cX9_commands 6 = .ok (.iconst 0, 1) := by decide +kernel
theorem dX9_commands_7 : decode cX9_commands 7 = .ok (.putfield 137, 3) := by decide +kernel
theorem dX9_commands_10 : decode cX9_commands 10 = .ok (.iconst 0, 1) := by decide +kernel
theorem dX9_commands_11 : decode cX9_commands 11 = .ok (.istore_n 2, 1) := by decide +kernel
theorem dX9_commands_12 : decode cX9_commands 12 = .ok (.aload_n 0, 1) := by decide +kernel
theorem dX9_commands_13 : decode cX9_commands 13 = .ok (.invokevirtual 140, 3) := by decide +kernel
theorem dX9_commands_16 : decode cX9_commands 16 = .ok (.ifCond .ne 35, 3) := by decide +kernel
theorem dX9_commands_19 : decode cX9_commands 19 = .ok (.aload_n 0, 1) := by decide +kernel
theorem dX9_commands_20 : decode cX9_commands 20 = .ok (.getfield 171, 3) := by decide +kernel
theorem dX9_commands_23 : decode cX9_commands 23 = .ok (.ifCond .ne 28, 3) := by decide +kernel
theorem dX9_commands_26 : decode cX9_commands 26 = .ok (.iload_n 2, 1) := by decide +kernel
theorem dX9_commands_27 : decode cX9_commands 27 = .ok (.ifCond .eq 14, 3) := by decide +kernel
theorem dX9_commands_30 : decode cX9_commands 30 = .ok (.aload_n 0, 1) := by decide +kernel
theorem dX9_commands_31 : decode cX9_commands 31 = .ok (.getfield 137, 3) := by decide +kernel
theorem dX9_commands_34 : decode cX9_commands 34 = .ok (.aload_n 0, 1) := by decide +kernel
theorem dX9_commands_35 : decode cX9_commands 35 = .ok (.getfield 134, 3) := by decide +kernel
theorem dX9_commands_38 : decode cX9_commands 38 = .ok (.if_icmp .ge 13, 3) := by decide +kernel
theorem dX9_commands_41 : decode cX9_commands 41 = .ok (.aload_n 0, 1) := by decide +kernel
theorem dX9_commands_42 : decode cX9_commands 42 = .ok (.invokevirtual 249, 3) := by decide +kernel
theorem dX9_commands_45 : decode cX9_commands 45 = .ok (.iinc 2 1, 3) := by decide +kernel
theorem dX9_commands_48 : decode cX9_commands 48 = .ok (.goto (-36), 3) := by decide +kernel
theorem dX9_commands_51 : decode cX9_commands 51 = .ok (.iload_n 2, 1) := by decide +kernel
theorem dX9_commands_52 : decode cX9_commands 52 = .ok (.ireturn, 1) := by decide +kernel
theorem dX9_execute_0 : decode cX9_execute 0 = .ok (.aload_n 0, 1) := by decide +kernel
theorem dX9_execute_1 : decode cX9_execute 1 = .ok (.iconst 0, 1) := by decide +kernel
theorem dX9_execute_2 : decode cX9_execute 2 = .ok (.putfield 84, 3) := by decide +kernel
theorem dX9_execute_5 : decode cX9_execute 5 = .ok (.aload_n 0, 1) := by decide +kernel
theorem dX9_execute_6 : decode cX9_execute 6 = .ok (.iconst (-1), 1) := by decide +kernel
theorem dX9_execute_7 : decode cX9_execute 7 = .ok (.putfield 22, 3) := by decide +kernel
theorem dX9_execute_10 : decode cX9_execute 10 = .ok (.aload_n 0, 1) := by decide +kernel
theorem dX9_execute_11 : decode cX9_execute 11 = .ok (.iconst 0, 1) := by decide +kernel
theorem dX9_execute_12 : decode cX9_execute 12 = .ok (.putfield 171, 3) := by decide +kernel
theorem dX9_execute_15 : decode cX9_execute 15 = .ok (.aload_n 0, 1) := by decide +kernel
theorem dX9_execute_16 : decode cX9_execute 16 = .ok (.iconst 0, 1) := by decide +kernel
theorem dX9_execute_17 : decode cX9_execute 17 = .ok (.invokevirtual 252, 3) := by decide +kernel
theorem dX9_execute_20 : decode cX9_execute 20 = .ok (.istore_n 1, 1) := by decide +kernel
theorem dX9_execute_21 : decode cX9_execute 21 = .ok (.aload_n 0, 1) := by decide +kernel
theorem dX9_execute_22 : decode cX9_execute 22 = .ok (.invokevirtual 140, 3) := by decide +kernel
theorem dX9_execute_25 : decode cX9_execute 25 = .ok (.ifCond .eq 14, 3) := by decide +kernel
theorem dX9_execute_28 : decode cX9_execute 28 = .ok (.aload_n 0, 1) := by decide +kernel
theorem dX9_execute_29 : decode cX9_execute 29 = .ok (.iconst 0, 1) := by decide +kernel
theorem dX9_execute_30 : decode cX9_execute 30 = .ok (.putfield 134, 3) := by decide +kernel
theorem dX9_execute_33 : decode cX9_execute 33 = .ok (.aload_n 0, 1) := by decide +kernel
theorem dX9_execute_34 : decode cX9_execute 34 = .ok (.iconst 1, 1) := by decide +kernel
theorem dX9_execute_35 : decode cX9_execute 35 = .ok (.invokevirtual 95, 3) := by decide +kernel
theorem dX9_execute_38 : decode cX9_execute 38 = .ok (.ireturn, 1) := by decide +kernel
theorem dX9_execute_39 : decode cX9_execute 39 = .ok (.aload_n 0, 1) := by decide +kernel
theorem dX9_execute_40 : decode cX9_execute 40 = .ok (.invokevirtual 256, 3) := by decide +kernel
theorem dX9_execute_43 : decode cX9_execute 43 = .ok (.aload_n 0, 1) := by decide +kernel
theorem dX9_execute_44 : decode cX9_execute 44 = .ok (.iconst 1, 1) := by decide +kernel
theorem dX9_execute_45 : decode cX9_execute 45 = .ok (.invokevirtual 252, 3) := by decide +kernel
theorem dX9_execute_48 : decode cX9_execute 48 = .ok (.istore_n 1, 1) := by decide +kernel
theorem dX9_execute_49 : decode cX9_execute 49 = .ok (.aload_n 0, 1) := by decide +kernel
theorem dX9_execute_50 : decode cX9_execute 50 = .ok (.iconst 0, 1) := by decide +kernel
theorem dX9_execute_51 : decode cX9_execute 51 = .ok (.putfield 134, 3) := by decide +kernel
theorem dX9_execute_54 : decode cX9_execute 54 = .ok (.aload_n 0, 1) := by decide +kernel
theorem dX9_execute_55 : decode cX9_execute 55 = .ok (.getfield 171, 3) := by decide +kernel
theorem dX9_execute_58 : decode cX9_execute 58 = .ok (.ifCond .eq 13, 3) := by decide +kernel
theorem dX9_execute_61 : decode cX9_execute 61 = .ok (.aload_n 0, 1) := by decide +kernel
theorem dX9_execute_62 : decode cX9_execute 62 = .ok (.invokevirtual 259, 3) := by decide +kernel
theorem dX9_execute_65 : decode cX9_execute 65 = .ok (.aload_n 0, 1) := by decide +kernel
theorem dX9_execute_66 : decode cX9_execute 66 = .ok (.iconst 2, 1) := by decide +kernel
theorem dX9_execute_67 : decode cX9_execute 67 = .ok (.invokevirtual 95, 3) := by decide +kernel
theorem dX9_execute_70 : decode cX9_execute 70 = .ok (.ireturn, 1) := by decide +kernel
theorem dX9_execute_71 : decode cX9_execute 71 = .ok (.iload_n 1, 1) := by decide +kernel
theorem dX9_execute_72 : decode cX9_execute 72 = .ok (.ireturn, 1) := by decide +kernel
theorem dX9_indentOf_0 : decode cX9_indentOf 0 = .ok (.aload_n 0, 1) := by decide +kernel
theorem dX9_indentOf_1 : decode cX9_indentOf 1 = .ok (.iload_n 1, 1) := by decide +kernel
theorem dX9_indentOf_2 : decode cX9_indentOf 2 = .ok (.iconst 3, 1) := by decide +kernel
theorem dX9_indentOf_3 : decode cX9_indentOf 3 = .ok (.invokevirtual 91, 3) := by decide +kernel
theorem dX9_indentOf_6 : decode cX9_indentOf 6 = .ok (.iconst 2, 1) := by decide +kernel
theorem dX9_indentOf_7 : decode cX9_indentOf 7 = .ok (.if_icmp .ne 7, 3) := by decide +kernel
theorem dX9_indentOf_10 : decode cX9_indentOf 10 = .ok (.iconst 2, 1) := by decide +kernel
theorem dX9_indentOf_11 : decode cX9_indentOf 11 = .ok (.goto 4, 3) := by decide +kernel
theorem dX9_indentOf_14 : decode cX9_indentOf 14 = .ok (.iconst 0, 1) := by decide +kernel
theorem dX9_indentOf_15 : decode cX9_indentOf 15 = .ok (.ireturn, 1) := by decide +kernel
theorem dX9_cuts_0 : decode cX9_cuts 0 = .ok (.aload_n 0, 1) := by decide +kernel
theorem dX9_cuts_1 : decode cX9_cuts 1 = .ok (.iconst 0, 1) := by decide +kernel
theorem dX9_cuts_2 : decode cX9_cuts 2 = .ok (.putfield 262, 3) := by decide +kernel
theorem dX9_cuts_5 : decode cX9_cuts 5 = .ok (.iconst 0, 1) := by decide +kernel
theorem dX9_cuts_6 : decode cX9_cuts 6 = .ok (.istore_n 2, 1) := by decide +kernel
theorem dX9_cuts_7 : decode cX9_cuts 7 = .ok (.iconst 0, 1) := by decide +kernel
theorem dX9_cuts_8 : decode cX9_cuts 8 = .ok (.istore_n 3, 1) := by decide +kernel
theorem dX9_cuts_9 : decode cX9_cuts 9 = .ok (.iload_n 3, 1) := by decide +kernel
theorem dX9_cuts_10 : decode cX9_cuts 10 = .ok (.aload_n 0, 1) := by decide +kernel
theorem dX9_cuts_11 : decode cX9_cuts 11 = .ok (.iload_n 1, 1) := by decide +kernel
theorem dX9_cuts_12 : decode cX9_cuts 12 = .ok (.iconst 4, 1) := by decide +kernel
theorem dX9_cuts_13 : decode cX9_cuts 13 = .ok (.invokevirtual 91, 3) := by decide +kernel
theorem dX9_cuts_16 : decode cX9_cuts 16 = .ok (.if_icmp .ge 149, 3) := by decide +kernel
theorem dX9_cuts_19 : decode cX9_cuts 19 = .ok (.aload_n 0, 1) := by decide +kernel
theorem dX9_cuts_20 : decode cX9_cuts 20 = .ok (.iload_n 1, 1) := by decide +kernel
theorem dX9_cuts_21 : decode cX9_cuts 21 = .ok (.bipush 19, 2) := by decide +kernel
theorem dX9_cuts_23 : decode cX9_cuts 23 = .ok (.iload_n 3, 1) := by decide +kernel
theorem dX9_cuts_24 : decode cX9_cuts 24 = .ok (.iadd, 1) := by decide +kernel
theorem dX9_cuts_25 : decode cX9_cuts 25 = .ok (.invokevirtual 91, 3) := by decide +kernel
theorem dX9_cuts_28 : decode cX9_cuts 28 = .ok (.istore 4, 2) := by decide +kernel
theorem dX9_cuts_30 : decode cX9_cuts 30 = .ok (.iload_n 3, 1) := by decide +kernel
theorem dX9_cuts_31 : decode cX9_cuts 31 = .ok (.aload_n 0, 1) := by decide +kernel
theorem dX9_cuts_32 : decode cX9_cuts 32 = .ok (.iload_n 1, 1) := by decide +kernel
theorem dX9_cuts_33 : decode cX9_cuts 33 = .ok (.iconst 4, 1) := by decide +kernel
theorem dX9_cuts_34 : decode cX9_cuts 34 = .ok (.invokevirtual 91, 3) := by decide +kernel
theorem dX9_cuts_37 : decode cX9_cuts 37 = .ok (.iconst 1, 1) := by decide +kernel
theorem dX9_cuts_38 : decode cX9_cuts 38 = .ok (.isub, 1) := by decide +kernel
theorem dX9_cuts_39 : decode cX9_cuts 39 = .ok (.if_icmp .ne 7, 3) := by decide +kernel
theorem dX9_cuts_42 : decode cX9_cuts 42 = .ok (.iconst 1, 1) := by decide +kernel
theorem dX9_cuts_43 : decode cX9_cuts 43 = .ok (.goto 4, 3) := by decide +kernel
theorem dX9_cuts_46 : decode cX9_cuts 46 = .ok (.iconst 0, 1) := by decide +kernel
theorem dX9_cuts_47 : decode cX9_cuts 47 = .ok (.istore 5, 2) := by decide +kernel
theorem dX9_cuts_49 : decode cX9_cuts 49 = .ok (.iload 5, 2) := by decide +kernel
theorem dX9_cuts_51 : decode cX9_cuts 51 = .ok (.ifCond .ne 29, 3) := by decide +kernel
theorem dX9_cuts_54 : decode cX9_cuts 54 = .ok (.iload 4, 2) := by decide +kernel
theorem dX9_cuts_56 : decode cX9_cuts 56 = .ok (.iconst 2, 1) := by decide +kernel
theorem dX9_cuts_57 : decode cX9_cuts 57 = .ok (.if_icmp .eq 19, 3) := by decide +kernel
theorem dX9_cuts_60 : decode cX9_cuts 60 = .ok (.aload_n 0, 1) := by decide +kernel
theorem dX9_cuts_61 : decode cX9_cuts 61 = .ok (.iload_n 1, 1) := by decide +kernel
theorem dX9_cuts_62 : decode cX9_cuts 62 = .ok (.iconst 3, 1) := by decide +kernel
theorem dX9_cuts_63 : decode cX9_cuts 63 = .ok (.invokevirtual 91, 3) := by decide +kernel
theorem dX9_cuts_66 : decode cX9_cuts 66 = .ok (.iconst 3, 1) := by decide +kernel
theorem dX9_cuts_67 : decode cX9_cuts 67 = .ok (.if_icmp .ne 13, 3) := by decide +kernel
theorem dX9_cuts_70 : decode cX9_cuts 70 = .ok (.iload 4, 2) := by decide +kernel
theorem dX9_cuts_72 : decode cX9_cuts 72 = .ok (.iconst 1, 1) := by decide +kernel
theorem dX9_cuts_73 : decode cX9_cuts 73 = .ok (.if_icmp .eq 7, 3) := by decide +kernel
theorem dX9_cuts_76 : decode cX9_cuts 76 = .ok (.iconst 1, 1) := by decide +kernel
theorem dX9_cuts_77 : decode cX9_cuts 77 = .ok (.goto 4, 3) := by decide +kernel
theorem dX9_cuts_80 : decode cX9_cuts 80 = .ok (.iconst 0, 1) := by decide +kernel
theorem dX9_cuts_81 : decode cX9_cuts 81 = .ok (.istore 6, 2) := by decide +kernel
theorem dX9_cuts_83 : decode cX9_cuts 83 = .ok (.iload_n 2, 1) := by decide +kernel
theorem dX9_cuts_84 : decode cX9_cuts 84 = .ok (.aload_n 0, 1) := by decide +kernel
theorem dX9_cuts_85 : decode cX9_cuts 85 = .ok (.iload_n 1, 1) := by decide +kernel
theorem dX9_cuts_86 : decode cX9_cuts 86 = .ok (.bipush 7, 2) := by decide +kernel
theorem dX9_cuts_88 : decode cX9_cuts 88 = .ok (.iload_n 3, 1) := by decide +kernel
theorem dX9_cuts_89 : decode cX9_cuts 89 = .ok (.iadd, 1) := by decide +kernel
theorem dX9_cuts_90 : decode cX9_cuts 90 = .ok (.invokevirtual 91, 3) := by decide +kernel
theorem dX9_cuts_93 : decode cX9_cuts 93 = .ok (.iload 6, 2) := by decide +kernel
theorem dX9_cuts_95 : decode cX9_cuts 95 = .ok (.ifCond .eq 13, 3) := by decide +kernel
theorem dX9_cuts_98 : decode cX9_cuts 98 = .ok (.iload 4, 2) := by decide +kernel
theorem dX9_cuts_100 : decode cX9_cuts 100 = .ok (.iconst 3, 1) := by decide +kernel
theorem dX9_cuts_101 : decode cX9_cuts 101 = .ok (.if_icmp .eq 7, 3) := by decide +kernel
theorem dX9_cuts_104 : decode cX9_cuts 104 = .ok (.iconst 1, 1) := by decide +kernel
theorem dX9_cuts_105 : decode cX9_cuts 105 = .ok (.goto 4, 3) := by decide +kernel
theorem dX9_cuts_108 : decode cX9_cuts 108 = .ok (.iconst 0, 1) := by decide +kernel
theorem dX9_cuts_109 : decode cX9_cuts 109 = .ok (.iadd, 1) := by decide +kernel
theorem dX9_cuts_110 : decode cX9_cuts 110 = .ok (.iadd, 1) := by decide +kernel
theorem dX9_cuts_111 : decode cX9_cuts 111 = .ok (.istore_n 2, 1) := by decide +kernel
theorem dX9_cuts_112 : decode cX9_cuts 112 = .ok (.iload 6, 2) := by decide +kernel
theorem dX9_cuts_114 : decode cX9_cuts 114 = .ok (.ifCond .ne 45, 3) := by decide +kernel
theorem dX9_cuts_117 : decode cX9_cuts 117 = .ok (.aload_n 0, 1) := by decide +kernel
theorem dX9_cuts_118 : decode cX9_cuts 118 = .ok (.getfield 39, 3) := by decide +kernel
theorem dX9_cuts_121 : decode cX9_cuts 121 = .ok (.aload_n 0, 1) := by decide +kernel
theorem dX9_cuts_122 : decode cX9_cuts 122 = .ok (.getfield 262, 3) := by decide +kernel
theorem dX9_cuts_125 : decode cX9_cuts 125 = .ok (.iload_n 2, 1) := by decide +kernel
theorem dX9_cuts_126 : decode cX9_cuts 126 = .ok (.iastore, 1) := by decide +kernel
theorem dX9_cuts_127 : decode cX9_cuts 127 = .ok (.aload_n 0, 1) := by decide +kernel
theorem dX9_cuts_128 : decode cX9_cuts 128 = .ok (.getfield 42, 3) := by decide +kernel
theorem dX9_cuts_131 : decode cX9_cuts 131 = .ok (.aload_n 0, 1) := by decide +kernel
theorem dX9_cuts_132 : decode cX9_cuts 132 = .ok (.getfield 262, 3) := by decide +kernel
theorem dX9_cuts_135 : decode cX9_cuts 135 = .ok (.iload 5, 2) := by decide +kernel
theorem dX9_cuts_137 : decode cX9_cuts 137 = .ok (.ifCond .eq 7, 3) := by decide +kernel
theorem dX9_cuts_140 : decode cX9_cuts 140 = .ok (.iconst 1, 1) := by decide +kernel
theorem dX9_cuts_141 : decode cX9_cuts 141 = .ok (.goto 5, 3) := by decide +kernel
theorem dX9_cuts_144 : decode cX9_cuts 144 = .ok (.iload 4, 2) := by decide +kernel
theorem dX9_cuts_146 : decode cX9_cuts 146 = .ok (.iastore, 1) := by decide +kernel
theorem dX9_cuts_147 : decode cX9_cuts 147 = .ok (.aload_n 0, 1) := by decide +kernel
theorem dX9_cuts_148 : decode cX9_cuts 148 = .ok (.dup, 1) := by decide +kernel
theorem dX9_cuts_149 : decode cX9_cuts 149 = .ok (.getfield 262, 3) := by decide +kernel
theorem dX9_cuts_152 : decode cX9_cuts 152 = .ok (.iconst 1, 1) := by decide +kernel
theorem dX9_cuts_153 : decode cX9_cuts 153 = .ok (.iadd, 1) := by decide +kernel
theorem dX9_cuts_154 : decode cX9_cuts 154 = .ok (.putfield 262, 3) := by decide +kernel
theorem dX9_cuts_157 : decode cX9_cuts 157 = .ok (.iconst 0, 1) := by decide +kernel
theorem dX9_cuts_158 : decode cX9_cuts 158 = .ok (.istore_n 2, 1) := by decide +kernel
theorem dX9_cuts_159 : decode cX9_cuts 159 = .ok (.iinc 3 1, 3) := by decide +kernel
theorem dX9_cuts_162 : decode cX9_cuts 162 = .ok (.goto (-153), 3) := by decide +kernel
theorem dX9_cuts_165 : decode cX9_cuts 165 = .ok (.return_, 1) := by decide +kernel
theorem dX9_longOf_0 : decode cX9_longOf 0 = .ok (.aload_n 0, 1) := by decide +kernel
theorem dX9_longOf_1 : decode cX9_longOf 1 = .ok (.getfield 42, 3) := by decide +kernel
theorem dX9_longOf_4 : decode cX9_longOf 4 = .ok (.iload_n 2, 1) := by decide +kernel
theorem dX9_longOf_5 : decode cX9_longOf 5 = .ok (.iaload, 1) := by decide +kernel
theorem dX9_longOf_6 : decode cX9_longOf 6 = .ok (.iconst 3, 1) := by decide +kernel
theorem dX9_longOf_7 : decode cX9_longOf 7 = .ok (.if_icmp .ne 7, 3) := by decide +kernel
theorem dX9_longOf_10 : decode cX9_longOf 10 = .ok (.iconst 1, 1) := by decide +kernel
theorem dX9_longOf_11 : decode cX9_longOf 11 = .ok (.goto 4, 3) := by decide +kernel
theorem dX9_longOf_14 : decode cX9_longOf 14 = .ok (.iconst 0, 1) := by decide +kernel
theorem dX9_longOf_15 : decode cX9_longOf 15 = .ok (.istore_n 3, 1) := by decide +kernel
theorem dX9_longOf_16 : decode cX9_longOf 16 = .ok (.iload_n 1, 1) := by decide +kernel
theorem dX9_longOf_17 : decode cX9_longOf 17 = .ok (.istore 4, 2) := by decide +kernel
theorem dX9_longOf_19 : decode cX9_longOf 19 = .ok (.iload 4, 2) := by decide +kernel
theorem dX9_longOf_21 : decode cX9_longOf 21 = .ok (.iload_n 2, 1) := by decide +kernel
theorem dX9_longOf_22 : decode cX9_longOf 22 = .ok (.if_icmp .gt 41, 3) := by decide +kernel
theorem dX9_longOf_25 : decode cX9_longOf 25 = .ok (.iload_n 3, 1) := by decide +kernel
theorem dX9_longOf_26 : decode cX9_longOf 26 = .ok (.aload_n 0, 1) := by decide +kernel
theorem dX9_longOf_27 : decode cX9_longOf 27 = .ok (.getfield 39, 3) := by decide +kernel
theorem dX9_longOf_30 : decode cX9_longOf 30 = .ok (.iload 4, 2) := by decide +kernel
theorem dX9_longOf_32 : decode cX9_longOf 32 = .ok (.iaload, 1) := by decide +kernel
theorem dX9_longOf_33 : decode cX9_longOf 33 = .ok (.iload 4, 2) := by decide +kernel
theorem dX9_longOf_35 : decode cX9_longOf 35 = .ok (.iload_n 2, 1) := by decide +kernel
theorem dX9_longOf_36 : decode cX9_longOf 36 = .ok (.if_icmp .ge 17, 3) := by decide +kernel
theorem dX9_longOf_39 : decode cX9_longOf 39 = .ok (.aload_n 0, 1) := by decide +kernel
theorem dX9_longOf_40 : decode cX9_longOf 40 = .ok (.getfield 42, 3) := by decide +kernel
theorem dX9_longOf_43 : decode cX9_longOf 43 = .ok (.iload 4, 2) := by decide +kernel
theorem dX9_longOf_45 : decode cX9_longOf 45 = .ok (.iaload, 1) := by decide +kernel
theorem dX9_longOf_46 : decode cX9_longOf 46 = .ok (.ifCond .ne 7, 3) := by decide +kernel
theorem dX9_longOf_49 : decode cX9_longOf 49 = .ok (.iconst 1, 1) := by decide +kernel
theorem dX9_longOf_50 : decode cX9_longOf 50 = .ok (.goto 4, 3) := by decide +kernel
theorem dX9_longOf_53 : decode cX9_longOf 53 = .ok (.iconst 0, 1) := by decide +kernel
theorem dX9_longOf_54 : decode cX9_longOf 54 = .ok (.iadd, 1) := by decide +kernel
theorem dX9_longOf_55 : decode cX9_longOf 55 = .ok (.iadd, 1) := by decide +kernel
theorem dX9_longOf_56 : decode cX9_longOf 56 = .ok (.istore_n 3, 1) := by decide +kernel
theorem dX9_longOf_57 : decode cX9_longOf 57 = .ok (.iinc 4 1, 3) := by decide +kernel
theorem dX9_longOf_60 : decode cX9_longOf 60 = .ok (.goto (-41), 3) := by decide +kernel
theorem dX9_longOf_63 : decode cX9_longOf 63 = .ok (.iload_n 3, 1) := by decide +kernel
theorem dX9_longOf_64 : decode cX9_longOf 64 = .ok (.ireturn, 1) := by decide +kernel
theorem dX9_breaksLines_0 : decode cX9_breaksLines 0 = .ok (.aload_n 0, 1) := by decide +kernel
theorem dX9_breaksLines_1 : decode cX9_breaksLines 1 = .ok (.iload_n 1, 1) := by decide +kernel
theorem dX9_breaksLines_2 : decode cX9_breaksLines 2 = .ok (.invokevirtual 265, 3) := by decide +kernel
theorem dX9_breaksLines_5 : decode cX9_breaksLines 5 = .ok (.aload_n 0, 1) := by decide +kernel
theorem dX9_breaksLines_6 : decode cX9_breaksLines 6 = .ok (.iconst 0, 1) := by decide +kernel
theorem dX9_breaksLines_7 : decode cX9_breaksLines 7 = .ok (.putfield 268, 3) := by decide +kernel
theorem dX9_breaksLines_10 : decode cX9_breaksLines 10 = .ok (.iload_n 2, 1) := by decide +kernel
theorem dX9_breaksLines_11 : decode cX9_breaksLines 11 = .ok (.aload_n 0, 1) := by decide +kernel
theorem dX9_breaksLines_12 : decode cX9_breaksLines 12 = .ok (.iload_n 1, 1) := by decide +kernel
theorem dX9_breaksLines_13 : decode cX9_breaksLines 13 = .ok (.invokevirtual 271, 3) := by decide +kernel
theorem dX9_breaksLines_16 : decode cX9_breaksLines 16 = .ok (.isub, 1) := by decide +kernel
theorem dX9_breaksLines_17 : decode cX9_breaksLines 17 = .ok (.istore_n 3, 1) := by decide +kernel
theorem dX9_breaksLines_18 : decode cX9_breaksLines 18 = .ok (.iconst 0, 1) := by decide +kernel
theorem dX9_breaksLines_19 : decode cX9_breaksLines 19 = .ok (.istore 4, 2) := by decide +kernel
theorem dX9_breaksLines_21 : decode cX9_breaksLines 21 = .ok (.iload 4, 2) := by decide +kernel
theorem dX9_breaksLines_23 : decode cX9_breaksLines 23 = .ok (.aload_n 0, 1) := by decide +kernel
theorem dX9_breaksLines_24 : decode cX9_breaksLines 24 = .ok (.getfield 262, 3) := by decide +kernel
theorem dX9_breaksLines_27 : decode cX9_breaksLines 27 = .ok (.if_icmp .ge 85, 3) := by decide +kernel
theorem dX9_breaksLines_30 : decode cX9_breaksLines 30 = .ok (.iload 4, 2) := by decide +kernel
theorem dX9_breaksLines_32 : decode cX9_breaksLines 32 = .ok (.istore 5, 2) := by decide +kernel
theorem dX9_breaksLines_34 : decode cX9_breaksLines 34 = .ok (.iload 4, 2) := by decide +kernel
theorem dX9_breaksLines_36 : decode cX9_breaksLines 36 = .ok (.istore 6, 2) := by decide +kernel
theorem dX9_breaksLines_38 : decode cX9_breaksLines 38 = .ok (.aload_n 0, 1) := by decide +kernel
theorem dX9_breaksLines_39 : decode cX9_breaksLines 39 = .ok (.getfield 42, 3) := by decide +kernel
theorem dX9_breaksLines_42 : decode cX9_breaksLines 42 = .ok (.iload 6, 2) := by decide +kernel
theorem dX9_breaksLines_44 : decode cX9_breaksLines 44 = .ok (.iaload, 1) := by decide +kernel
theorem dX9_breaksLines_45 : decode cX9_breaksLines 45 = .ok (.iconst 1, 1) := by decide +kernel
theorem dX9_breaksLines_46 : decode cX9_breaksLines 46 = .ok (.if_icmp .eq 30, 3) := by decide +kernel
theorem dX9_breaksLines_49 : decode cX9_breaksLines 49 = .ok (.iinc 6 1, 3) := by decide +kernel
theorem dX9_breaksLines_52 : decode cX9_breaksLines 52 = .ok (.aload_n 0, 1) := by decide +kernel
theorem dX9_breaksLines_53 : decode cX9_breaksLines 53 = .ok (.iload 4, 2) := by decide +kernel
theorem dX9_breaksLines_55 : decode cX9_breaksLines 55 = .ok (.iload 6, 2) := by decide +kernel
theorem dX9_breaksLines_57 : decode cX9_breaksLines 57 = .ok (.invokevirtual 274, 3) := by decide +kernel
theorem dX9_breaksLines_60 : decode cX9_breaksLines 60 = .ok (.iload_n 3, 1) := by decide +kernel
theorem dX9_breaksLines_61 : decode cX9_breaksLines 61 = .ok (.if_icmp .gt 8, 3) := by decide +kernel
theorem dX9_breaksLines_64 : decode cX9_breaksLines 64 = .ok (.iload 6, 2) := by decide +kernel
theorem dX9_breaksLines_66 : decode cX9_breaksLines 66 = .ok (.goto 5, 3) := by decide +kernel
theorem dX9_breaksLines_69 : decode cX9_breaksLines 69 = .ok (.iload 5, 2) := by decide +kernel
theorem dX9_breaksLines_71 : decode cX9_breaksLines 71 = .ok (.istore 5, 2) := by decide +kernel
theorem dX9_breaksLines_73 : decode cX9_breaksLines 73 = .ok (.goto (-35), 3) := by decide +kernel
theorem dX9_breaksLines_76 : decode cX9_breaksLines 76 = .ok (.aload_n 0, 1) := by decide +kernel
theorem dX9_breaksLines_77 : decode cX9_breaksLines 77 = .ok (.getfield 45, 3) := by decide +kernel
theorem dX9_breaksLines_80 : decode cX9_breaksLines 80 = .ok (.aload_n 0, 1) := by decide +kernel
theorem dX9_breaksLines_81 : decode cX9_breaksLines 81 = .ok (.getfield 268, 3) := by decide +kernel
theorem dX9_breaksLines_84 : decode cX9_breaksLines 84 = .ok (.aload_n 0, 1) := by decide +kernel
theorem dX9_breaksLines_85 : decode cX9_breaksLines 85 = .ok (.iload 4, 2) := by decide +kernel
theorem dX9_breaksLines_87 : decode cX9_breaksLines 87 = .ok (.iload 5, 2) := by decide +kernel
theorem dX9_breaksLines_89 : decode cX9_breaksLines 89 = .ok (.invokevirtual 274, 3) := by decide +kernel
theorem dX9_breaksLines_92 : decode cX9_breaksLines 92 = .ok (.iastore, 1) := by decide +kernel
theorem dX9_breaksLines_93 : decode cX9_breaksLines 93 = .ok (.aload_n 0, 1) := by decide +kernel
theorem dX9_breaksLines_94 : decode cX9_breaksLines 94 = .ok (.dup, 1) := by decide +kernel
theorem dX9_breaksLines_95 : decode cX9_breaksLines 95 = .ok (.getfield 268, 3) := by decide +kernel
theorem dX9_breaksLines_98 : decode cX9_breaksLines 98 = .ok (.iconst 1, 1) := by decide +kernel
theorem dX9_breaksLines_99 : decode cX9_breaksLines 99 = .ok (.iadd, 1) := by decide +kernel
theorem dX9_breaksLines_100 : decode cX9_breaksLines 100 = .ok (.putfield 268, 3) := by decide +kernel
theorem dX9_breaksLines_103 : decode cX9_breaksLines 103 = .ok (.iload 5, 2) := by decide +kernel
theorem dX9_breaksLines_105 : decode cX9_breaksLines 105 = .ok (.iconst 1, 1) := by decide +kernel
theorem dX9_breaksLines_106 : decode cX9_breaksLines 106 = .ok (.iadd, 1) := by decide +kernel
theorem dX9_breaksLines_107 : decode cX9_breaksLines 107 = .ok (.istore 4, 2) := by decide +kernel
theorem dX9_breaksLines_109 : decode cX9_breaksLines 109 = .ok (.goto (-88), 3) := by decide +kernel
theorem dX9_breaksLines_112 : decode cX9_breaksLines 112 = .ok (.return_, 1) := by decide +kernel
theorem dX9_leastContent_0 : decode cX9_leastContent 0 = .ok (.aload_n 0, 1) := by decide +kernel
theorem dX9_leastContent_1 : decode cX9_leastContent 1 = .ok (.iload_n 1, 1) := by decide +kernel
theorem dX9_leastContent_2 : decode cX9_leastContent 2 = .ok (.iconst 3, 1) := by decide +kernel
theorem dX9_leastContent_3 : decode cX9_leastContent 3 = .ok (.invokevirtual 91, 3) := by decide +kernel
theorem dX9_leastContent_6 : decode cX9_leastContent 6 = .ok (.iconst 4, 1) := by decide +kernel
theorem dX9_leastContent_7 : decode cX9_leastContent 7 = .ok (.if_icmp .ne 14, 3) := by decide +kernel
theorem dX9_leastContent_10 : decode cX9_leastContent 10 = .ok (.aload_n 0, 1) := by decide +kernel
theorem dX9_leastContent_11 : decode cX9_leastContent 11 = .ok (.iload_n 1, 1) := by decide +kernel
theorem dX9_leastContent_12 : decode cX9_leastContent 12 = .ok (.iconst 5, 1) := by decide +kernel
theorem dX9_leastContent_13 : decode cX9_leastContent 13 = .ok (.invokevirtual 91, 3) := by decide +kernel
theorem dX9_leastContent_16 : decode cX9_leastContent 16 = .ok (.iconst 1, 1) := by decide +kernel
theorem dX9_leastContent_17 : decode cX9_leastContent 17 = .ok (.iadd, 1) := by decide +kernel
theorem dX9_leastContent_18 : decode cX9_leastContent 18 = .ok (.iconst 2, 1) := by decide +kernel
theorem dX9_leastContent_19 : decode cX9_leastContent 19 = .ok (.idiv, 1) := by decide +kernel
theorem dX9_leastContent_20 : decode cX9_leastContent 20 = .ok (.ireturn, 1) := by decide +kernel
theorem dX9_leastContent_21 : decode cX9_leastContent 21 = .ok (.aload_n 0, 1) := by decide +kernel
theorem dX9_leastContent_22 : decode cX9_leastContent 22 = .ok (.iload_n 1, 1) := by decide +kernel
theorem dX9_leastContent_23 : decode cX9_leastContent 23 = .ok (.iconst 3, 1) := by decide +kernel
theorem dX9_leastContent_24 : decode cX9_leastContent 24 = .ok (.invokevirtual 91, 3) := by decide +kernel
theorem dX9_leastContent_27 : decode cX9_leastContent 27 = .ok (.iconst 5, 1) := by decide +kernel
theorem dX9_leastContent_28 : decode cX9_leastContent 28 = .ok (.if_icmp .ne 10, 3) := by decide +kernel
theorem dX9_leastContent_31 : decode cX9_leastContent 31 = .ok (.aload_n 0, 1) := by decide +kernel
theorem dX9_leastContent_32 : decode cX9_leastContent 32 = .ok (.iload_n 1, 1) := by decide +kernel
theorem dX9_leastContent_33 : decode cX9_leastContent 33 = .ok (.iconst 5, 1) := by decide +kernel
theorem dX9_leastContent_34 : decode cX9_leastContent 34 = .ok (.invokevirtual 91, 3) := by decide +kernel
theorem dX9_leastContent_37 : decode cX9_leastContent 37 = .ok (.ireturn, 1) := by decide +kernel
theorem dX9_leastContent_38 : decode cX9_leastContent 38 = .ok (.aload_n 0, 1) := by decide +kernel
theorem dX9_leastContent_39 : decode cX9_leastContent 39 = .ok (.iload_n 1, 1) := by decide +kernel
theorem dX9_leastContent_40 : decode cX9_leastContent 40 = .ok (.invokevirtual 265, 3) := by decide +kernel
theorem dX9_leastContent_43 : decode cX9_leastContent 43 = .ok (.iconst 0, 1) := by decide +kernel
theorem dX9_leastContent_44 : decode cX9_leastContent 44 = .ok (.istore_n 2, 1) := by decide +kernel
theorem dX9_leastContent_45 : decode cX9_leastContent 45 = .ok (.iconst 0, 1) := by decide +kernel
theorem dX9_leastContent_46 : decode cX9_leastContent 46 = .ok (.istore_n 3, 1) := by decide +kernel
theorem dX9_leastContent_47 : decode cX9_leastContent 47 = .ok (.iload_n 3, 1) := by decide +kernel
theorem dX9_leastContent_48 : decode cX9_leastContent 48 = .ok (.aload_n 0, 1) := by decide +kernel
theorem dX9_leastContent_49 : decode cX9_leastContent 49 = .ok (.getfield 262, 3) := by decide +kernel
theorem dX9_leastContent_52 : decode cX9_leastContent 52 = .ok (.if_icmp .ge 20, 3) := by decide +kernel
theorem dX9_leastContent_55 : decode cX9_leastContent 55 = .ok (.iload_n 2, 1) := by decide +kernel
theorem dX9_leastContent_56 : decode cX9_leastContent 56 = .ok (.aload_n 0, 1) := by decide +kernel
theorem dX9_leastContent_57 : decode cX9_leastContent 57 = .ok (.iload_n 3, 1) := by decide +kernel
theorem dX9_leastContent_58 : decode cX9_leastContent 58 = .ok (.iload_n 3, 1) := by decide +kernel
theorem dX9_leastContent_59 : decode cX9_leastContent 59 = .ok (.invokevirtual 274, 3) := by decide +kernel
theorem dX9_leastContent_62 : decode cX9_leastContent 62 = .ok (.invokestatic 277, 3) := by decide +kernel
theorem dX9_leastContent_65 : decode cX9_leastContent 65 = .ok (.istore_n 2, 1) := by decide +kernel
theorem dX9_leastContent_66 : decode cX9_leastContent 66 = .ok (.iinc 3 1, 3) := by decide +kernel
theorem dX9_leastContent_69 : decode cX9_leastContent 69 = .ok (.goto (-22), 3) := by decide +kernel
theorem dX9_leastContent_72 : decode cX9_leastContent 72 = .ok (.aload_n 0, 1) := by decide +kernel
theorem dX9_leastContent_73 : decode cX9_leastContent 73 = .ok (.iload_n 1, 1) := by decide +kernel
theorem dX9_leastContent_74 : decode cX9_leastContent 74 = .ok (.invokevirtual 271, 3) := by decide +kernel
theorem dX9_leastContent_77 : decode cX9_leastContent 77 = .ok (.iload_n 2, 1) := by decide +kernel
theorem dX9_leastContent_78 : decode cX9_leastContent 78 = .ok (.iadd, 1) := by decide +kernel
theorem dX9_leastContent_79 : decode cX9_leastContent 79 = .ok (.ireturn, 1) := by decide +kernel
theorem dX9_mostContent_0 : decode cX9_mostContent 0 = .ok (.aload_n 0, 1) := by decide +kernel
theorem dX9_mostContent_1 : decode cX9_mostContent 1 = .ok (.iload_n 1, 1) := by decide +kernel
theorem dX9_mostContent_2 : decode cX9_mostContent 2 = .ok (.invokevirtual 127, 3) := by decide +kernel
theorem dX9_mostContent_5 : decode cX9_mostContent 5 = .ok (.ifCond .ne 10, 3) := by decide +kernel
theorem dX9_mostContent_8 : decode cX9_mostContent 8 = .ok (.aload_n 0, 1) := by decide +kernel
theorem dX9_mostContent_9 : decode cX9_mostContent 9 = .ok (.iload_n 1, 1) := by decide +kernel
theorem dX9_mostContent_10 : decode cX9_mostContent 10 = .ok (.iconst 5, 1) := by decide +kernel
theorem dX9_mostContent_11 : decode cX9_mostContent 11 = .ok (.invokevirtual 91, 3) := by decide +kernel
theorem dX9_mostContent_14 : decode cX9_mostContent 14 = .ok (.ireturn, 1) := by decide +kernel
theorem dX9_mostContent_15 : decode cX9_mostContent 15 = .ok (.aload_n 0, 1) := by decide +kernel
theorem dX9_mostContent_16 : decode cX9_mostContent 16 = .ok (.iload_n 1, 1) := by decide +kernel
theorem dX9_mostContent_17 : decode cX9_mostContent 17 = .ok (.invokevirtual 265, 3) := by decide +kernel
theorem dX9_mostContent_20 : decode cX9_mostContent 20 = .ok (.iconst 0, 1) := by decide +kernel
theorem dX9_mostContent_21 : decode cX9_mostContent 21 = .ok (.istore_n 2, 1) := by decide +kernel
theorem dX9_mostContent_22 : decode cX9_mostContent 22 = .ok (.iconst 0, 1) := by decide +kernel
theorem dX9_mostContent_23 : decode cX9_mostContent 23 = .ok (.istore_n 3, 1) := by decide +kernel
theorem dX9_mostContent_24 : decode cX9_mostContent 24 = .ok (.iconst 0, 1) := by decide +kernel
theorem dX9_mostContent_25 : decode cX9_mostContent 25 = .ok (.istore 4, 2) := by decide +kernel
theorem dX9_mostContent_27 : decode cX9_mostContent 27 = .ok (.iload 4, 2) := by decide +kernel
theorem dX9_mostContent_29 : decode cX9_mostContent 29 = .ok (.aload_n 0, 1) := by decide +kernel
theorem dX9_mostContent_30 : decode cX9_mostContent 30 = .ok (.getfield 262, 3) := by decide +kernel
theorem dX9_mostContent_33 : decode cX9_mostContent 33 = .ok (.if_icmp .ge 37, 3) := by decide +kernel
theorem dX9_mostContent_36 : decode cX9_mostContent 36 = .ok (.aload_n 0, 1) := by decide +kernel
theorem dX9_mostContent_37 : decode cX9_mostContent 37 = .ok (.getfield 42, 3) := by decide +kernel
theorem dX9_mostContent_40 : decode cX9_mostContent 40 = .ok (.iload 4, 2) := by decide +kernel
theorem dX9_mostContent_42 : decode cX9_mostContent 42 = .ok (.iaload, 1) := by decide +kernel
theorem dX9_mostContent_43 : decode cX9_mostContent 43 = .ok (.iconst 1, 1) := by decide +kernel
theorem dX9_mostContent_44 : decode cX9_mostContent 44 = .ok (.if_icmp .ne 20, 3) := by decide +kernel
theorem dX9_mostContent_47 : decode cX9_mostContent 47 = .ok (.iload_n 2, 1) := by decide +kernel
theorem dX9_mostContent_48 : decode cX9_mostContent 48 = .ok (.aload_n 0, 1) := by decide +kernel
theorem dX9_mostContent_49 : decode cX9_mostContent 49 = .ok (.iload_n 3, 1) := by decide +kernel
theorem dX9_mostContent_50 : decode cX9_mostContent 50 = .ok (.iload 4, 2) := by decide +kernel
theorem dX9_mostContent_52 : decode cX9_mostContent 52 = .ok (.invokevirtual 274, 3) := by decide +kernel
theorem dX9_mostContent_55 : decode cX9_mostContent 55 = .ok (.invokestatic 277, 3) := by decide +kernel
theorem dX9_mostContent_58 : decode cX9_mostContent 58 = .ok (.istore_n 2, 1) := by decide +kernel
theorem dX9_mostContent_59 : decode cX9_mostContent 59 = .ok (.iload 4, 2) := by decide +kernel
theorem dX9_mostContent_61 : decode cX9_mostContent 61 = .ok (.iconst 1, 1) := by decide +kernel
theorem dX9_mostContent_62 : decode cX9_mostContent 62 = .ok (.iadd, 1) := by decide +kernel
theorem dX9_mostContent_63 : decode cX9_mostContent 63 = .ok (.istore_n 3, 1) := by decide +kernel
theorem dX9_mostContent_64 : decode cX9_mostContent 64 = .ok (.iinc 4 1, 3) := by decide +kernel
theorem dX9_mostContent_67 : decode cX9_mostContent 67 = .ok (.goto (-40), 3) := by decide +kernel
theorem dX9_mostContent_70 : decode cX9_mostContent 70 = .ok (.aload_n 0, 1) := by decide +kernel
theorem dX9_mostContent_71 : decode cX9_mostContent 71 = .ok (.iload_n 1, 1) := by decide +kernel
theorem dX9_mostContent_72 : decode cX9_mostContent 72 = .ok (.invokevirtual 271, 3) := by decide +kernel
theorem dX9_mostContent_75 : decode cX9_mostContent 75 = .ok (.iload_n 2, 1) := by decide +kernel
theorem dX9_mostContent_76 : decode cX9_mostContent 76 = .ok (.iadd, 1) := by decide +kernel
theorem dX9_mostContent_77 : decode cX9_mostContent 77 = .ok (.ireturn, 1) := by decide +kernel
theorem dX9_contentHeight_0 : decode cX9_contentHeight 0 = .ok (.aload_n 0, 1) := by decide +kernel
theorem dX9_contentHeight_1 : decode cX9_contentHeight 1 = .ok (.iload_n 1, 1) := by decide +kernel
theorem dX9_contentHeight_2 : decode cX9_contentHeight 2 = .ok (.iconst 3, 1) := by decide +kernel
theorem dX9_contentHeight_3 : decode cX9_contentHeight 3 = .ok (.invokevirtual 91, 3) := by decide +kernel
theorem dX9_contentHeight_6 : decode cX9_contentHeight 6 = .ok (.iconst 5, 1) := by decide +kernel
theorem dX9_contentHeight_7 : decode cX9_contentHeight 7 = .ok (.if_icmp .eq 23, 3) := by decide +kernel
theorem dX9_contentHeight_10 : decode cX9_contentHeight 10 = .ok (.aload_n 0, 1) := by decide +kernel
theorem dX9_contentHeight_11 : decode cX9_contentHeight 11 = .ok (.iload_n 1, 1) := by decide +kernel
theorem dX9_contentHeight_12 : decode cX9_contentHeight 12 = .ok (.iconst 3, 1) := by decide +kernel
theorem dX9_contentHeight_13 : decode cX9_contentHeight 13 = .ok (.invokevirtual 91, 3) := by decide +kernel
theorem dX9_contentHeight_16 : decode cX9_contentHeight 16 = .ok (.iconst 4, 1) := by decide +kernel
theorem dX9_contentHeight_17 : decode cX9_contentHeight 17 = .ok (.if_icmp .ne 21, 3) := by decide +kernel
theorem dX9_contentHeight_20 : decode cX9_contentHeight 20 = .ok (.iload_n 2, 1) := by decide +kernel
theorem dX9_contentHeight_21 : decode cX9_contentHeight 21 = .ok (.aload_n 0, 1) := by decide +kernel
theorem dX9_contentHeight_22 : decode cX9_contentHeight 22 = .ok (.iload_n 1, 1) := by decide +kernel
theorem dX9_contentHeight_23 : decode cX9_contentHeight 23 = .ok (.iconst 5, 1) := by decide +kernel
theorem dX9_contentHeight_24 : decode cX9_contentHeight 24 = .ok (.invokevirtual 91, 3) := by decide +kernel
theorem dX9_contentHeight_27 : decode cX9_contentHeight 27 = .ok (.if_icmp .lt 11, 3) := by decide +kernel
theorem dX9_contentHeight_30 : decode cX9_contentHeight 30 = .ok (.aload_n 0, 1) := by decide +kernel
theorem dX9_contentHeight_31 : decode cX9_contentHeight 31 = .ok (.iload_n 1, 1) := by decide +kernel
theorem dX9_contentHeight_32 : decode cX9_contentHeight 32 = .ok (.bipush 6, 2) := by decide +kernel
theorem dX9_contentHeight_34 : decode cX9_contentHeight 34 = .ok (.invokevirtual 91, 3) := by decide +kernel
theorem dX9_contentHeight_37 : decode cX9_contentHeight 37 = .ok (.ireturn, 1) := by decide +kernel
theorem dX9_contentHeight_38 : decode cX9_contentHeight 38 = .ok (.aload_n 0, 1) := by decide +kernel
theorem dX9_contentHeight_39 : decode cX9_contentHeight 39 = .ok (.iload_n 1, 1) := by decide +kernel
theorem dX9_contentHeight_40 : decode cX9_contentHeight 40 = .ok (.iconst 3, 1) := by decide +kernel
theorem dX9_contentHeight_41 : decode cX9_contentHeight 41 = .ok (.invokevirtual 91, 3) := by decide +kernel
theorem dX9_contentHeight_44 : decode cX9_contentHeight 44 = .ok (.iconst 4, 1) := by decide +kernel
theorem dX9_contentHeight_45 : decode cX9_contentHeight 45 = .ok (.if_icmp .ne 30, 3) := by decide +kernel
theorem dX9_contentHeight_48 : decode cX9_contentHeight 48 = .ok (.iload_n 2, 1) := by decide +kernel
theorem dX9_contentHeight_49 : decode cX9_contentHeight 49 = .ok (.i2f, 1) := by decide +kernel
theorem dX9_contentHeight_50 : decode cX9_contentHeight 50 = .ok (.aload_n 0, 1) := by decide +kernel
theorem dX9_contentHeight_51 : decode cX9_contentHeight 51 = .ok (.iload_n 1, 1) := by decide +kernel
theorem dX9_contentHeight_52 : decode cX9_contentHeight 52 = .ok (.iconst 5, 1) := by decide +kernel
theorem dX9_contentHeight_53 : decode cX9_contentHeight 53 = .ok (.invokevirtual 91, 3) := by decide +kernel
theorem dX9_contentHeight_56 : decode cX9_contentHeight 56 = .ok (.i2f, 1) := by decide +kernel
theorem dX9_contentHeight_57 : decode cX9_contentHeight 57 = .ok (.fdiv, 1) := by decide +kernel
theorem dX9_contentHeight_58 : decode cX9_contentHeight 58 = .ok (.aload_n 0, 1) := by decide +kernel
theorem dX9_contentHeight_59 : decode cX9_contentHeight 59 = .ok (.iload_n 1, 1) := by decide +kernel
theorem dX9_contentHeight_60 : decode cX9_contentHeight 60 = .ok (.bipush 6, 2) := by decide +kernel
theorem dX9_contentHeight_62 : decode cX9_contentHeight 62 = .ok (.invokevirtual 91, 3) := by decide +kernel
theorem dX9_contentHeight_65 : decode cX9_contentHeight 65 = .ok (.i2f, 1) := by decide +kernel
theorem dX9_contentHeight_66 : decode cX9_contentHeight 66 = .ok (.fmul, 1) := by decide +kernel
theorem dX9_contentHeight_67 : decode cX9_contentHeight 67 = .ok (.fstore_n 3, 1) := by decide +kernel
theorem dX9_contentHeight_68 : decode cX9_contentHeight 68 = .ok (.fload_n 3, 1) := by decide +kernel
theorem dX9_contentHeight_69 : decode cX9_contentHeight 69 = .ok (.f2i, 1) := by decide +kernel
theorem dX9_contentHeight_70 : decode cX9_contentHeight 70 = .ok (.iconst 1, 1) := by decide +kernel
theorem dX9_contentHeight_71 : decode cX9_contentHeight 71 = .ok (.invokestatic 277, 3) := by decide +kernel
theorem dX9_contentHeight_74 : decode cX9_contentHeight 74 = .ok (.ireturn, 1) := by decide +kernel
theorem dX9_contentHeight_75 : decode cX9_contentHeight 75 = .ok (.aload_n 0, 1) := by decide +kernel
theorem dX9_contentHeight_76 : decode cX9_contentHeight 76 = .ok (.iload_n 1, 1) := by decide +kernel
theorem dX9_contentHeight_77 : decode cX9_contentHeight 77 = .ok (.iload_n 2, 1) := by decide +kernel
theorem dX9_contentHeight_78 : decode cX9_contentHeight 78 = .ok (.invokevirtual 280, 3) := by decide +kernel
theorem dX9_contentHeight_81 : decode cX9_contentHeight 81 = .ok (.aload_n 0, 1) := by decide +kernel
theorem dX9_contentHeight_82 : decode cX9_contentHeight 82 = .ok (.iload_n 1, 1) := by decide +kernel
theorem dX9_contentHeight_83 : decode cX9_contentHeight 83 = .ok (.iconst 3, 1) := by decide +kernel
theorem dX9_contentHeight_84 : decode cX9_contentHeight 84 = .ok (.invokevirtual 91, 3) := by decide +kernel
theorem dX9_contentHeight_87 : decode cX9_contentHeight 87 = .ok (.iconst 1, 1) := by decide +kernel
theorem dX9_contentHeight_88 : decode cX9_contentHeight 88 = .ok (.if_icmp .ne 12, 3) := by decide +kernel
theorem dX9_contentHeight_91 : decode cX9_contentHeight 91 = .ok (.iconst 2, 1) := by decide +kernel
theorem dX9_contentHeight_92 : decode cX9_contentHeight 92 = .ok (.aload_n 0, 1) := by decide +kernel
theorem dX9_contentHeight_93 : decode cX9_contentHeight 93 = .ok (.getfield 268, 3) := by decide +kernel
theorem dX9_contentHeight_96 : decode cX9_contentHeight 96 = .ok (.imul, 1) := by decide +kernel
theorem dX9_contentHeight_97 : decode cX9_contentHeight 97 = .ok (.goto 7, 3) := by decide +kernel
theorem dX9_contentHeight_100 : decode cX9_contentHeight 100 = .ok (.aload_n 0, 1) := by decide +kernel
theorem dX9_contentHeight_101 : decode cX9_contentHeight 101 = .ok (.getfield 268, 3) := by decide +kernel
theorem dX9_contentHeight_104 : decode cX9_contentHeight 104 = .ok (.ireturn, 1) := by decide +kernel
theorem dX9_leastOf_0 : decode cX9_leastOf 0 = .ok (.aload_n 0, 1) := by decide +kernel
theorem dX9_leastOf_1 : decode cX9_leastOf 1 = .ok (.iload_n 1, 1) := by decide +kernel
theorem dX9_leastOf_2 : decode cX9_leastOf 2 = .ok (.invokevirtual 284, 3) := by decide +kernel
theorem dX9_leastOf_5 : decode cX9_leastOf 5 = .ok (.iconst 2, 1) := by decide +kernel
theorem dX9_leastOf_6 : decode cX9_leastOf 6 = .ok (.aload_n 0, 1) := by decide +kernel
theorem dX9_leastOf_7 : decode cX9_leastOf 7 = .ok (.getfield 9, 3) := by decide +kernel
theorem dX9_leastOf_10 : decode cX9_leastOf 10 = .ok (.iconst 3, 1) := by decide +kernel
theorem dX9_leastOf_11 : decode cX9_leastOf 11 = .ok (.iaload, 1) := by decide +kernel
theorem dX9_leastOf_12 : decode cX9_leastOf 12 = .ok (.imul, 1) := by decide +kernel
theorem dX9_leastOf_13 : decode cX9_leastOf 13 = .ok (.iadd, 1) := by decide +kernel
theorem dX9_leastOf_14 : decode cX9_leastOf 14 = .ok (.ireturn, 1) := by decide +kernel
theorem dX9_mostOf_0 : decode cX9_mostOf 0 = .ok (.aload_n 0, 1) := by decide +kernel
theorem dX9_mostOf_1 : decode cX9_mostOf 1 = .ok (.iload_n 1, 1) := by decide +kernel
theorem dX9_mostOf_2 : decode cX9_mostOf 2 = .ok (.invokevirtual 287, 3) := by decide +kernel
theorem dX9_mostOf_5 : decode cX9_mostOf 5 = .ok (.iconst 2, 1) := by decide +kernel
theorem dX9_mostOf_6 : decode cX9_mostOf 6 = .ok (.aload_n 0, 1) := by decide +kernel
theorem dX9_mostOf_7 : decode cX9_mostOf 7 = .ok (.getfield 9, 3) := by decide +kernel
theorem dX9_mostOf_10 : decode cX9_mostOf 10 = .ok (.iconst 3, 1) := by decide +kernel
theorem dX9_mostOf_11 : decode cX9_mostOf 11 = .ok (.iaload, 1) := by decide +kernel
theorem dX9_mostOf_12 : decode cX9_mostOf 12 = .ok (.imul, 1) := by decide +kernel
theorem dX9_mostOf_13 : decode cX9_mostOf 13 = .ok (.iadd, 1) := by decide +kernel
theorem dX9_mostOf_14 : decode cX9_mostOf 14 = .ok (.ireturn, 1) := by decide +kernel
theorem dX9_heightOf_0 : decode cX9_heightOf 0 = .ok (.aload_n 0, 1) := by decide +kernel
theorem dX9_heightOf_1 : decode cX9_heightOf 1 = .ok (.iload_n 1, 1) := by decide +kernel
theorem dX9_heightOf_2 : decode cX9_heightOf 2 = .ok (.iload_n 2, 1) := by decide +kernel
theorem dX9_heightOf_3 : decode cX9_heightOf 3 = .ok (.iconst 2, 1) := by decide +kernel
theorem dX9_heightOf_4 : decode cX9_heightOf 4 = .ok (.aload_n 0, 1) := by decide +kernel
theorem dX9_heightOf_5 : decode cX9_heightOf 5 = .ok (.getfield 9, 3) := by decide +kernel
theorem dX9_heightOf_8 : decode cX9_heightOf 8 = .ok (.iconst 3, 1) := by decide +kernel
theorem dX9_heightOf_9 : decode cX9_heightOf 9 = .ok (.iaload, 1) := by decide +kernel
theorem dX9_heightOf_10 : decode cX9_heightOf 10 = .ok (.imul, 1) := by decide +kernel
theorem dX9_heightOf_11 : decode cX9_heightOf 11 = .ok (.isub, 1) := by decide +kernel
theorem dX9_heightOf_12 : decode cX9_heightOf 12 = .ok (.invokevirtual 290, 3) := by decide +kernel
theorem dX9_heightOf_15 : decode cX9_heightOf 15 = .ok (.iconst 2, 1) := by decide +kernel
theorem dX9_heightOf_16 : decode cX9_heightOf 16 = .ok (.aload_n 0, 1) := by decide +kernel
theorem dX9_heightOf_17 : decode cX9_heightOf 17 = .ok (.getfield 9, 3) := by decide +kernel
theorem dX9_heightOf_20 : decode cX9_heightOf 20 = .ok (.iconst 3, 1) := by decide +kernel
theorem dX9_heightOf_21 : decode cX9_heightOf 21 = .ok (.iaload, 1) := by decide +kernel
theorem dX9_heightOf_22 : decode cX9_heightOf 22 = .ok (.imul, 1) := by decide +kernel
theorem dX9_heightOf_23 : decode cX9_heightOf 23 = .ok (.iadd, 1) := by decide +kernel
theorem dX9_heightOf_24 : decode cX9_heightOf 24 = .ok (.ireturn, 1) := by decide +kernel
theorem dX9_count_0 : decode cX9_count 0 = .ok (.aload_n 0, 1) := by decide +kernel
theorem dX9_count_1 : decode cX9_count 1 = .ok (.iconst 0, 1) := by decide +kernel
theorem dX9_count_2 : decode cX9_count 2 = .ok (.putfield 84, 3) := by decide +kernel
theorem dX9_count_5 : decode cX9_count 5 = .ok (.iload_n 1, 1) := by decide +kernel
theorem dX9_count_6 : decode cX9_count 6 = .ok (.ifCond .ne 12, 3) := by decide +kernel
theorem dX9_count_9 : decode cX9_count 9 = .ok (.aload_n 0, 1) := by decide +kernel
theorem dX9_count_10 : decode cX9_count 10 = .ok (.getfield 9, 3) := by decide +kernel
theorem dX9_count_13 : decode cX9_count 13 = .ok (.iconst 0, 1) := by decide +kernel
theorem dX9_count_14 : decode cX9_count 14 = .ok (.iaload, 1) := by decide +kernel
theorem dX9_count_15 : decode cX9_count 15 = .ok (.goto 36, 3) := by decide +kernel
theorem dX9_count_18 : decode cX9_count 18 = .ok (.iload_n 1, 1) := by decide +kernel
theorem dX9_count_19 : decode cX9_count 19 = .ok (.iconst 1, 1) := by decide +kernel
theorem dX9_count_20 : decode cX9_count 20 = .ok (.if_icmp .ne 12, 3) := by decide +kernel
theorem dX9_count_23 : decode cX9_count 23 = .ok (.aload_n 0, 1) := by decide +kernel
theorem dX9_count_24 : decode cX9_count 24 = .ok (.getfield 9, 3) := by decide +kernel
theorem dX9_count_27 : decode cX9_count 27 = .ok (.iconst 4, 1) := by decide +kernel
theorem dX9_count_28 : decode cX9_count 28 = .ok (.iaload, 1) := by decide +kernel
theorem dX9_count_29 : decode cX9_count 29 = .ok (.goto 22, 3) := by decide +kernel
theorem dX9_count_32 : decode cX9_count 32 = .ok (.iload_n 1, 1) := by decide +kernel
theorem dX9_count_33 : decode cX9_count 33 = .ok (.iconst 2, 1) := by decide +kernel
theorem dX9_count_34 : decode cX9_count 34 = .ok (.if_icmp .ne 12, 3) := by decide +kernel
theorem dX9_count_37 : decode cX9_count 37 = .ok (.aload_n 0, 1) := by decide +kernel
theorem dX9_count_38 : decode cX9_count 38 = .ok (.getfield 9, 3) := by decide +kernel
theorem dX9_count_41 : decode cX9_count 41 = .ok (.iconst 5, 1) := by decide +kernel
theorem dX9_count_42 : decode cX9_count 42 = .ok (.iaload, 1) := by decide +kernel
theorem dX9_count_43 : decode cX9_count 43 = .ok (.goto 8, 3) := by decide +kernel
theorem dX9_count_46 : decode cX9_count 46 = .ok (.aload_n 0, 1) := by decide +kernel
theorem dX9_count_47 : decode cX9_count 47 = .ok (.iconst 1, 1) := by decide +kernel
theorem dX9_count_48 : decode cX9_count 48 = .ok (.invokevirtual 95, 3) := by decide +kernel
theorem dX9_count_51 : decode cX9_count 51 = .ok (.ireturn, 1) := by decide +kernel
theorem dX9_property_0 : decode cX9_property 0 = .ok (.aload_n 0, 1) := by decide +kernel
theorem dX9_property_1 : decode cX9_property 1 = .ok (.iconst 0, 1) := by decide +kernel
theorem dX9_property_2 : decode cX9_property 2 = .ok (.putfield 84, 3) := by decide +kernel
theorem dX9_property_5 : decode cX9_property 5 = .ok (.aload_n 0, 1) := by decide +kernel
theorem dX9_property_6 : decode cX9_property 6 = .ok (.iload_n 1, 1) := by decide +kernel
theorem dX9_property_7 : decode cX9_property 7 = .ok (.invokevirtual 120, 3) := by decide +kernel
theorem dX9_property_10 : decode cX9_property 10 = .ok (.ifCond .ne 9, 3) := by decide +kernel
theorem dX9_property_13 : decode cX9_property 13 = .ok (.aload_n 0, 1) := by decide +kernel
theorem dX9_property_14 : decode cX9_property 14 = .ok (.iconst 1, 1) := by decide +kernel
theorem dX9_property_15 : decode cX9_property 15 = .ok (.invokevirtual 95, 3) := by decide +kernel
theorem dX9_property_18 : decode cX9_property 18 = .ok (.ireturn, 1) := by decide +kernel
theorem dX9_property_19 : decode cX9_property 19 = .ok (.iload_n 2, 1) := by decide +kernel
theorem dX9_property_20 : decode cX9_property 20 = .ok (.tableswitch 59 4 6 #[28, 47, 53], 28) := by decide +kernel
theorem dX9_property_48 : decode cX9_property 48 = .ok (.aload_n 0, 1) := by decide +kernel
theorem dX9_property_49 : decode cX9_property 49 = .ok (.iload_n 1, 1) := by decide +kernel
theorem dX9_property_50 : decode cX9_property 50 = .ok (.invokevirtual 127, 3) := by decide +kernel
theorem dX9_property_53 : decode cX9_property 53 = .ok (.ifCond .eq 12, 3) := by decide +kernel
theorem dX9_property_56 : decode cX9_property 56 = .ok (.aload_n 0, 1) := by decide +kernel
theorem dX9_property_57 : decode cX9_property 57 = .ok (.iload_n 1, 1) := by decide +kernel
theorem dX9_property_58 : decode cX9_property 58 = .ok (.iconst 4, 1) := by decide +kernel
theorem dX9_property_59 : decode cX9_property 59 = .ok (.invokevirtual 91, 3) := by decide +kernel
theorem dX9_property_62 : decode cX9_property 62 = .ok (.goto 4, 3) := by decide +kernel
theorem dX9_property_65 : decode cX9_property 65 = .ok (.iconst 0, 1) := by decide +kernel
theorem dX9_property_66 : decode cX9_property 66 = .ok (.ireturn, 1) := by decide +kernel
theorem dX9_property_67 : decode cX9_property 67 = .ok (.aload_n 0, 1) := by decide +kernel
theorem dX9_property_68 : decode cX9_property 68 = .ok (.iload_n 1, 1) := by decide +kernel
theorem dX9_property_69 : decode cX9_property 69 = .ok (.invokevirtual 293, 3) := by decide +kernel
theorem dX9_property_72 : decode cX9_property 72 = .ok (.ireturn, 1) := by decide +kernel
theorem dX9_property_73 : decode cX9_property 73 = .ok (.aload_n 0, 1) := by decide +kernel
theorem dX9_property_74 : decode cX9_property 74 = .ok (.iload_n 1, 1) := by decide +kernel
theorem dX9_property_75 : decode cX9_property 75 = .ok (.invokevirtual 296, 3) := by decide +kernel
theorem dX9_property_78 : decode cX9_property 78 = .ok (.ireturn, 1) := by decide +kernel
theorem dX9_property_79 : decode cX9_property 79 = .ok (.iload_n 2, 1) := by decide +kernel
theorem dX9_property_80 : decode cX9_property 80 = .ok (.iconst 0, 1) := by decide +kernel
theorem dX9_property_81 : decode cX9_property 81 = .ok (.iconst 3, 1) := by decide +kernel
theorem dX9_property_82 : decode cX9_property 82 = .ok (.invokestatic 87, 3) := by decide +kernel
theorem dX9_property_85 : decode cX9_property 85 = .ok (.ifCond .eq 12, 3) := by decide +kernel
theorem dX9_property_88 : decode cX9_property 88 = .ok (.aload_n 0, 1) := by decide +kernel
theorem dX9_property_89 : decode cX9_property 89 = .ok (.iload_n 1, 1) := by decide +kernel
theorem dX9_property_90 : decode cX9_property 90 = .ok (.iload_n 2, 1) := by decide +kernel
theorem dX9_property_91 : decode cX9_property 91 = .ok (.invokevirtual 91, 3) := by decide +kernel
theorem dX9_property_94 : decode cX9_property 94 = .ok (.goto 8, 3) := by decide +kernel
theorem dX9_property_97 : decode cX9_property 97 = .ok (.aload_n 0, 1) := by decide +kernel
theorem dX9_property_98 : decode cX9_property 98 = .ok (.iconst 2, 1) := by decide +kernel
theorem dX9_property_99 : decode cX9_property 99 = .ok (.invokevirtual 95, 3) := by decide +kernel
theorem dX9_property_102 : decode cX9_property 102 = .ok (.ireturn, 1) := by decide +kernel
theorem dX9_cellAt_0 : decode cX9_cellAt 0 = .ok (.aload_n 0, 1) := by decide +kernel
theorem dX9_cellAt_1 : decode cX9_cellAt 1 = .ok (.iconst 0, 1) := by decide +kernel
theorem dX9_cellAt_2 : decode cX9_cellAt 2 = .ok (.putfield 84, 3) := by decide +kernel
theorem dX9_cellAt_5 : decode cX9_cellAt 5 = .ok (.aload_n 0, 1) := by decide +kernel
theorem dX9_cellAt_6 : decode cX9_cellAt 6 = .ok (.iload_n 1, 1) := by decide +kernel
theorem dX9_cellAt_7 : decode cX9_cellAt 7 = .ok (.invokevirtual 110, 3) := by decide +kernel
theorem dX9_cellAt_10 : decode cX9_cellAt 10 = .ok (.ifCond .eq 20, 3) := by decide +kernel
theorem dX9_cellAt_13 : decode cX9_cellAt 13 = .ok (.aload_n 0, 1) := by decide +kernel
theorem dX9_cellAt_14 : decode cX9_cellAt 14 = .ok (.iload_n 2, 1) := by decide +kernel
theorem dX9_cellAt_15 : decode cX9_cellAt 15 = .ok (.invokevirtual 103, 3) := by decide +kernel
theorem dX9_cellAt_18 : decode cX9_cellAt 18 = .ok (.ifCond .eq 12, 3) := by decide +kernel
theorem dX9_cellAt_21 : decode cX9_cellAt 21 = .ok (.aload_n 0, 1) := by decide +kernel
theorem dX9_cellAt_22 : decode cX9_cellAt 22 = .ok (.iload_n 1, 1) := by decide +kernel
theorem dX9_cellAt_23 : decode cX9_cellAt 23 = .ok (.iload_n 2, 1) := by decide +kernel
theorem dX9_cellAt_24 : decode cX9_cellAt 24 = .ok (.invokevirtual 107, 3) := by decide +kernel
theorem dX9_cellAt_27 : decode cX9_cellAt 27 = .ok (.goto 8, 3) := by decide +kernel
theorem dX9_cellAt_30 : decode cX9_cellAt 30 = .ok (.aload_n 0, 1) := by decide +kernel
theorem dX9_cellAt_31 : decode cX9_cellAt 31 = .ok (.iconst 1, 1) := by decide +kernel
theorem dX9_cellAt_32 : decode cX9_cellAt 32 = .ok (.invokevirtual 95, 3) := by decide +kernel
theorem dX9_cellAt_35 : decode cX9_cellAt 35 = .ok (.ireturn, 1) := by decide +kernel
theorem dX9_lineCount_0 : decode cX9_lineCount 0 = .ok (.aload_n 0, 1) := by decide +kernel
theorem dX9_lineCount_1 : decode cX9_lineCount 1 = .ok (.iconst 0, 1) := by decide +kernel
theorem dX9_lineCount_2 : decode cX9_lineCount 2 = .ok (.putfield 84, 3) := by decide +kernel
theorem dX9_lineCount_5 : decode cX9_lineCount 5 = .ok (.aload_n 0, 1) := by decide +kernel
theorem dX9_lineCount_6 : decode cX9_lineCount 6 = .ok (.iload_n 1, 1) := by decide +kernel
theorem dX9_lineCount_7 : decode cX9_lineCount 7 = .ok (.invokevirtual 120, 3) := by decide +kernel
theorem dX9_lineCount_10 : decode cX9_lineCount 10 = .ok (.ifCond .ne 9, 3) := by decide +kernel
theorem dX9_lineCount_13 : decode cX9_lineCount 13 = .ok (.aload_n 0, 1) := by decide +kernel
theorem dX9_lineCount_14 : decode cX9_lineCount 14 = .ok (.iconst 1, 1) := by decide +kernel
theorem dX9_lineCount_15 : decode cX9_lineCount 15 = .ok (.invokevirtual 95, 3) := by decide +kernel
theorem dX9_lineCount_18 : decode cX9_lineCount 18 = .ok (.ireturn, 1) := by decide +kernel
theorem dX9_lineCount_19 : decode cX9_lineCount 19 = .ok (.aload_n 0, 1) := by decide +kernel
theorem dX9_lineCount_20 : decode cX9_lineCount 20 = .ok (.iload_n 1, 1) := by decide +kernel
theorem dX9_lineCount_21 : decode cX9_lineCount 21 = .ok (.invokevirtual 127, 3) := by decide +kernel
theorem dX9_lineCount_24 : decode cX9_lineCount 24 = .ok (.ifCond .ne 9, 3) := by decide +kernel
theorem dX9_lineCount_27 : decode cX9_lineCount 27 = .ok (.aload_n 0, 1) := by decide +kernel
theorem dX9_lineCount_28 : decode cX9_lineCount 28 = .ok (.iconst 2, 1) := by decide +kernel
theorem dX9_lineCount_29 : decode cX9_lineCount 29 = .ok (.invokevirtual 95, 3) := by decide +kernel
theorem dX9_lineCount_32 : decode cX9_lineCount 32 = .ok (.ireturn, 1) := by decide +kernel
theorem dX9_lineCount_33 : decode cX9_lineCount 33 = .ok (.iload_n 2, 1) := by decide +kernel
theorem dX9_lineCount_34 : decode cX9_lineCount 34 = .ok (.aload_n 0, 1) := by decide +kernel
theorem dX9_lineCount_35 : decode cX9_lineCount 35 = .ok (.iload_n 1, 1) := by decide +kernel
theorem dX9_lineCount_36 : decode cX9_lineCount 36 = .ok (.invokevirtual 284, 3) := by decide +kernel
theorem dX9_lineCount_39 : decode cX9_lineCount 39 = .ok (.bipush 99, 2) := by decide +kernel
theorem dX9_lineCount_41 : decode cX9_lineCount 41 = .ok (.invokestatic 87, 3) := by decide +kernel
theorem dX9_lineCount_44 : decode cX9_lineCount 44 = .ok (.ifCond .ne 9, 3) := by decide +kernel
theorem dX9_lineCount_47 : decode cX9_lineCount 47 = .ok (.aload_n 0, 1) := by decide +kernel
theorem dX9_lineCount_48 : decode cX9_lineCount 48 = .ok (.iconst 3, 1) := by decide +kernel
theorem dX9_lineCount_49 : decode cX9_lineCount 49 = .ok (.invokevirtual 95, 3) := by decide +kernel
theorem dX9_lineCount_52 : decode cX9_lineCount 52 = .ok (.ireturn, 1) := by decide +kernel
theorem dX9_lineCount_53 : decode cX9_lineCount 53 = .ok (.aload_n 0, 1) := by decide +kernel
theorem dX9_lineCount_54 : decode cX9_lineCount 54 = .ok (.iload_n 1, 1) := by decide +kernel
theorem dX9_lineCount_55 : decode cX9_lineCount 55 = .ok (.iload_n 2, 1) := by decide +kernel
theorem dX9_lineCount_56 : decode cX9_lineCount 56 = .ok (.invokevirtual 280, 3) := by decide +kernel
theorem dX9_lineCount_59 : decode cX9_lineCount 59 = .ok (.aload_n 0, 1) := by decide +kernel
theorem dX9_lineCount_60 : decode cX9_lineCount 60 = .ok (.getfield 268, 3) := by decide +kernel
theorem dX9_lineCount_63 : decode cX9_lineCount 63 = .ok (.ireturn, 1) := by decide +kernel
theorem dX9_lineLength_0 : decode cX9_lineLength 0 = .ok (.aload_n 0, 1) := by decide +kernel
theorem dX9_lineLength_1 : decode cX9_lineLength 1 = .ok (.iconst 0, 1) := by decide +kernel
theorem dX9_lineLength_2 : decode cX9_lineLength 2 = .ok (.putfield 84, 3) := by decide +kernel
theorem dX9_lineLength_5 : decode cX9_lineLength 5 = .ok (.aload_n 0, 1) := by decide +kernel
theorem dX9_lineLength_6 : decode cX9_lineLength 6 = .ok (.iload_n 1, 1) := by decide +kernel
theorem dX9_lineLength_7 : decode cX9_lineLength 7 = .ok (.invokevirtual 120, 3) := by decide +kernel
theorem dX9_lineLength_10 : decode cX9_lineLength 10 = .ok (.ifCond .ne 9, 3) := by decide +kernel
theorem dX9_lineLength_13 : decode cX9_lineLength 13 = .ok (.aload_n 0, 1) := by decide +kernel
theorem dX9_lineLength_14 : decode cX9_lineLength 14 = .ok (.iconst 1, 1) := by decide +kernel
theorem dX9_lineLength_15 : decode cX9_lineLength 15 = .ok (.invokevirtual 95, 3) := by decide +kernel
theorem dX9_lineLength_18 : decode cX9_lineLength 18 = .ok (.ireturn, 1) := by decide +kernel
theorem dX9_lineLength_19 : decode cX9_lineLength 19 = .ok (.aload_n 0, 1) := by decide +kernel
theorem dX9_lineLength_20 : decode cX9_lineLength 20 = .ok (.iload_n 1, 1) := by decide +kernel
theorem dX9_lineLength_21 : decode cX9_lineLength 21 = .ok (.invokevirtual 127, 3) := by decide +kernel
theorem dX9_lineLength_24 : decode cX9_lineLength 24 = .ok (.ifCond .ne 9, 3) := by decide +kernel
theorem dX9_lineLength_27 : decode cX9_lineLength 27 = .ok (.aload_n 0, 1) := by decide +kernel
theorem dX9_lineLength_28 : decode cX9_lineLength 28 = .ok (.iconst 2, 1) := by decide +kernel
theorem dX9_lineLength_29 : decode cX9_lineLength 29 = .ok (.invokevirtual 95, 3) := by decide +kernel
theorem dX9_lineLength_32 : decode cX9_lineLength 32 = .ok (.ireturn, 1) := by decide +kernel
theorem dX9_lineLength_33 : decode cX9_lineLength 33 = .ok (.iload_n 2, 1) := by decide +kernel
theorem dX9_lineLength_34 : decode cX9_lineLength 34 = .ok (.aload_n 0, 1) := by decide +kernel
theorem dX9_lineLength_35 : decode cX9_lineLength 35 = .ok (.iload_n 1, 1) := by decide +kernel
theorem dX9_lineLength_36 : decode cX9_lineLength 36 = .ok (.invokevirtual 284, 3) := by decide +kernel
theorem dX9_lineLength_39 : decode cX9_lineLength 39 = .ok (.bipush 99, 2) := by decide +kernel
theorem dX9_lineLength_41 : decode cX9_lineLength 41 = .ok (.invokestatic 87, 3) := by decide +kernel
theorem dX9_lineLength_44 : decode cX9_lineLength 44 = .ok (.ifCond .ne 9, 3) := by decide +kernel
theorem dX9_lineLength_47 : decode cX9_lineLength 47 = .ok (.aload_n 0, 1) := by decide +kernel
theorem dX9_lineLength_48 : decode cX9_lineLength 48 = .ok (.iconst 3, 1) := by decide +kernel
theorem dX9_lineLength_49 : decode cX9_lineLength 49 = .ok (.invokevirtual 95, 3) := by decide +kernel
theorem dX9_lineLength_52 : decode cX9_lineLength 52 = .ok (.ireturn, 1) := by decide +kernel
theorem dX9_lineLength_53 : decode cX9_lineLength 53 = .ok (.aload_n 0, 1) := by decide +kernel
theorem dX9_lineLength_54 : decode cX9_lineLength 54 = .ok (.iload_n 1, 1) := by decide +kernel
theorem dX9_lineLength_55 : decode cX9_lineLength 55 = .ok (.iload_n 2, 1) := by decide +kernel
theorem dX9_lineLength_56 : decode cX9_lineLength 56 = .ok (.invokevirtual 280, 3) := by decide +kernel
theorem dX9_lineLength_59 : decode cX9_lineLength 59 = .ok (.iload_n 3, 1) := by decide +kernel
theorem dX9_lineLength_60 : decode cX9_lineLength 60 = .ok (.iconst 0, 1) := by decide +kernel
theorem dX9_lineLength_61 : decode cX9_lineLength 61 = .ok (.aload_n 0, 1) := by decide +kernel
theorem dX9_lineLength_62 : decode cX9_lineLength 62 = .ok (.getfield 268, 3) := by decide +kernel
theorem dX9_lineLength_65 : decode cX9_lineLength 65 = .ok (.iconst 1, 1) := by decide +kernel
theorem dX9_lineLength_66 : decode cX9_lineLength 66 = .ok (.isub, 1) := by decide +kernel
theorem dX9_lineLength_67 : decode cX9_lineLength 67 = .ok (.invokestatic 87, 3) := by decide +kernel
theorem dX9_lineLength_70 : decode cX9_lineLength 70 = .ok (.ifCond .eq 12, 3) := by decide +kernel
theorem dX9_lineLength_73 : decode cX9_lineLength 73 = .ok (.aload_n 0, 1) := by decide +kernel
theorem dX9_lineLength_74 : decode cX9_lineLength 74 = .ok (.getfield 45, 3) := by decide +kernel
theorem dX9_lineLength_77 : decode cX9_lineLength 77 = .ok (.iload_n 3, 1) := by decide +kernel
theorem dX9_lineLength_78 : decode cX9_lineLength 78 = .ok (.iaload, 1) := by decide +kernel
theorem dX9_lineLength_79 : decode cX9_lineLength 79 = .ok (.goto 8, 3) := by decide +kernel
theorem dX9_lineLength_82 : decode cX9_lineLength 82 = .ok (.aload_n 0, 1) := by decide +kernel
theorem dX9_lineLength_83 : decode cX9_lineLength 83 = .ok (.iconst 4, 1) := by decide +kernel
theorem dX9_lineLength_84 : decode cX9_lineLength 84 = .ok (.invokevirtual 95, 3) := by decide +kernel
theorem dX9_lineLength_87 : decode cX9_lineLength 87 = .ok (.ireturn, 1) := by decide +kernel
theorem dX9_cellHeight_0 : decode cX9_cellHeight 0 = .ok (.aload_n 0, 1) := by decide +kernel
theorem dX9_cellHeight_1 : decode cX9_cellHeight 1 = .ok (.iconst 0, 1) := by decide +kernel
theorem dX9_cellHeight_2 : decode cX9_cellHeight 2 = .ok (.putfield 84, 3) := by decide +kernel
theorem dX9_cellHeight_5 : decode cX9_cellHeight 5 = .ok (.aload_n 0, 1) := by decide +kernel
theorem dX9_cellHeight_6 : decode cX9_cellHeight 6 = .ok (.iload_n 1, 1) := by decide +kernel
theorem dX9_cellHeight_7 : decode cX9_cellHeight 7 = .ok (.invokevirtual 120, 3) := by decide +kernel
theorem dX9_cellHeight_10 : decode cX9_cellHeight 10 = .ok (.ifCond .ne 9, 3) := by decide +kernel
theorem dX9_cellHeight_13 : decode cX9_cellHeight 13 = .ok (.aload_n 0, 1) := by decide +kernel
theorem dX9_cellHeight_14 : decode cX9_cellHeight 14 = .ok (.iconst 1, 1) := by decide +kernel
theorem dX9_cellHeight_15 : decode cX9_cellHeight 15 = .ok (.invokevirtual 95, 3) := by decide +kernel
theorem dX9_cellHeight_18 : decode cX9_cellHeight 18 = .ok (.ireturn, 1) := by decide +kernel
theorem dX9_cellHeight_19 : decode cX9_cellHeight 19 = .ok (.iload_n 2, 1) := by decide +kernel
theorem dX9_cellHeight_20 : decode cX9_cellHeight 20 = .ok (.aload_n 0, 1) := by decide +kernel
theorem dX9_cellHeight_21 : decode cX9_cellHeight 21 = .ok (.iload_n 1, 1) := by decide +kernel
theorem dX9_cellHeight_22 : decode cX9_cellHeight 22 = .ok (.invokevirtual 293, 3) := by decide +kernel
theorem dX9_cellHeight_25 : decode cX9_cellHeight 25 = .ok (.bipush 99, 2) := by decide +kernel
theorem dX9_cellHeight_27 : decode cX9_cellHeight 27 = .ok (.invokestatic 87, 3) := by decide +kernel
theorem dX9_cellHeight_30 : decode cX9_cellHeight 30 = .ok (.ifCond .eq 12, 3) := by decide +kernel
theorem dX9_cellHeight_33 : decode cX9_cellHeight 33 = .ok (.aload_n 0, 1) := by decide +kernel
theorem dX9_cellHeight_34 : decode cX9_cellHeight 34 = .ok (.iload_n 1, 1) := by decide +kernel
theorem dX9_cellHeight_35 : decode cX9_cellHeight 35 = .ok (.iload_n 2, 1) := by decide +kernel
theorem dX9_cellHeight_36 : decode cX9_cellHeight 36 = .ok (.invokevirtual 299, 3) := by decide +kernel
theorem dX9_cellHeight_39 : decode cX9_cellHeight 39 = .ok (.goto 8, 3) := by decide +kernel
theorem dX9_cellHeight_42 : decode cX9_cellHeight 42 = .ok (.aload_n 0, 1) := by decide +kernel
theorem dX9_cellHeight_43 : decode cX9_cellHeight 43 = .ok (.iconst 2, 1) := by decide +kernel
theorem dX9_cellHeight_44 : decode cX9_cellHeight 44 = .ok (.invokevirtual 95, 3) := by decide +kernel
theorem dX9_cellHeight_47 : decode cX9_cellHeight 47 = .ok (.ireturn, 1) := by decide +kernel
theorem dX9_nextStep_0 : decode cX9_nextStep 0 = .ok (.aload_n 0, 1) := by decide +kernel
theorem dX9_nextStep_1 : decode cX9_nextStep 1 = .ok (.iconst 0, 1) := by decide +kernel
theorem dX9_nextStep_2 : decode cX9_nextStep 2 = .ok (.putfield 84, 3) := by decide +kernel
theorem dX9_nextStep_5 : decode cX9_nextStep 5 = .ok (.aload_n 0, 1) := by decide +kernel
theorem dX9_nextStep_6 : decode cX9_nextStep 6 = .ok (.iload_n 1, 1) := by decide +kernel
theorem dX9_nextStep_7 : decode cX9_nextStep 7 = .ok (.invokevirtual 120, 3) := by decide +kernel
theorem dX9_nextStep_10 : decode cX9_nextStep 10 = .ok (.ifCond .ne 9, 3) := by decide +kernel
theorem dX9_nextStep_13 : decode cX9_nextStep 13 = .ok (.aload_n 0, 1) := by decide +kernel
theorem dX9_nextStep_14 : decode cX9_nextStep 14 = .ok (.iconst 1, 1) := by decide +kernel
theorem dX9_nextStep_15 : decode cX9_nextStep 15 = .ok (.invokevirtual 95, 3) := by decide +kernel
theorem dX9_nextStep_18 : decode cX9_nextStep 18 = .ok (.ireturn, 1) := by decide +kernel
theorem dX9_nextStep_19 : decode cX9_nextStep 19 = .ok (.iload_n 2, 1) := by decide +kernel
theorem dX9_nextStep_20 : decode cX9_nextStep 20 = .ok (.aload_n 0, 1) := by decide +kernel
theorem dX9_nextStep_21 : decode cX9_nextStep 21 = .ok (.iload_n 1, 1) := by decide +kernel
theorem dX9_nextStep_22 : decode cX9_nextStep 22 = .ok (.invokevirtual 293, 3) := by decide +kernel
theorem dX9_nextStep_25 : decode cX9_nextStep 25 = .ok (.bipush 99, 2) := by decide +kernel
theorem dX9_nextStep_27 : decode cX9_nextStep 27 = .ok (.invokestatic 87, 3) := by decide +kernel
theorem dX9_nextStep_30 : decode cX9_nextStep 30 = .ok (.ifCond .ne 9, 3) := by decide +kernel
theorem dX9_nextStep_33 : decode cX9_nextStep 33 = .ok (.aload_n 0, 1) := by decide +kernel
theorem dX9_nextStep_34 : decode cX9_nextStep 34 = .ok (.iconst 2, 1) := by decide +kernel
theorem dX9_nextStep_35 : decode cX9_nextStep 35 = .ok (.invokevirtual 95, 3) := by decide +kernel
theorem dX9_nextStep_38 : decode cX9_nextStep 38 = .ok (.ireturn, 1) := by decide +kernel
theorem dX9_nextStep_39 : decode cX9_nextStep 39 = .ok (.aload_n 0, 1) := by decide +kernel
theorem dX9_nextStep_40 : decode cX9_nextStep 40 = .ok (.iload_n 1, 1) := by decide +kernel
theorem dX9_nextStep_41 : decode cX9_nextStep 41 = .ok (.iload_n 2, 1) := by decide +kernel
theorem dX9_nextStep_42 : decode cX9_nextStep 42 = .ok (.invokevirtual 299, 3) := by decide +kernel
theorem dX9_nextStep_45 : decode cX9_nextStep 45 = .ok (.istore_n 3, 1) := by decide +kernel
theorem dX9_nextStep_46 : decode cX9_nextStep 46 = .ok (.iload_n 2, 1) := by decide +kernel
theorem dX9_nextStep_47 : decode cX9_nextStep 47 = .ok (.iconst 1, 1) := by decide +kernel
theorem dX9_nextStep_48 : decode cX9_nextStep 48 = .ok (.iadd, 1) := by decide +kernel
theorem dX9_nextStep_49 : decode cX9_nextStep 49 = .ok (.istore 4, 2) := by decide +kernel
theorem dX9_nextStep_51 : decode cX9_nextStep 51 = .ok (.iload 4, 2) := by decide +kernel
theorem dX9_nextStep_53 : decode cX9_nextStep 53 = .ok (.bipush 99, 2) := by decide +kernel
theorem dX9_nextStep_55 : decode cX9_nextStep 55 = .ok (.if_icmp .gt 23, 3) := by decide +kernel
theorem dX9_nextStep_58 : decode cX9_nextStep 58 = .ok (.aload_n 0, 1) := by decide +kernel
theorem dX9_nextStep_59 : decode cX9_nextStep 59 = .ok (.iload_n 1, 1) := by decide +kernel
theorem dX9_nextStep_60 : decode cX9_nextStep 60 = .ok (.iload 4, 2) := by decide +kernel
theorem dX9_nextStep_62 : decode cX9_nextStep 62 = .ok (.invokevirtual 299, 3) := by decide +kernel
theorem dX9_nextStep_65 : decode cX9_nextStep 65 = .ok (.iload_n 3, 1) := by decide +kernel
theorem dX9_nextStep_66 : decode cX9_nextStep 66 = .ok (.if_icmp .ge 6, 3) := by decide +kernel
theorem dX9_nextStep_69 : decode cX9_nextStep 69 = .ok (.iload 4, 2) := by decide +kernel
theorem dX9_nextStep_71 : decode cX9_nextStep 71 = .ok (.ireturn, 1) := by decide +kernel
theorem dX9_nextStep_72 : decode cX9_nextStep 72 = .ok (.iinc 4 1, 3) := by decide +kernel
theorem dX9_nextStep_75 : decode cX9_nextStep 75 = .ok (.goto (-24), 3) := by decide +kernel
theorem dX9_nextStep_78 : decode cX9_nextStep 78 = .ok (.aload_n 0, 1) := by decide +kernel
theorem dX9_nextStep_79 : decode cX9_nextStep 79 = .ok (.iconst 3, 1) := by decide +kernel
theorem dX9_nextStep_80 : decode cX9_nextStep 80 = .ok (.invokevirtual 95, 3) := by decide +kernel
theorem dX9_nextStep_83 : decode cX9_nextStep 83 = .ok (.ireturn, 1) := by decide +kernel
theorem dX9_shares_0 : decode cX9_shares 0 = .ok (.iconst 0, 1) := by decide +kernel
theorem dX9_shares_1 : decode cX9_shares 1 = .ok (.istore_n 3, 1) := by decide +kernel
theorem dX9_shares_2 : decode cX9_shares 2 = .ok (.iconst 0, 1) := by decide +kernel
theorem dX9_shares_3 : decode cX9_shares 3 = .ok (.istore 4, 2) := by decide +kernel
theorem dX9_shares_5 : decode cX9_shares 5 = .ok (.iload 4, 2) := by decide +kernel
theorem dX9_shares_7 : decode cX9_shares 7 = .ok (.aload_n 0, 1) := by decide +kernel
theorem dX9_shares_8 : decode cX9_shares 8 = .ok (.getfield 9, 3) := by decide +kernel
theorem dX9_shares_11 : decode cX9_shares 11 = .ok (.iconst 0, 1) := by decide +kernel
theorem dX9_shares_12 : decode cX9_shares 12 = .ok (.iaload, 1) := by decide +kernel
theorem dX9_shares_13 : decode cX9_shares 13 = .ok (.if_icmp .ge 33, 3) := by decide +kernel
theorem dX9_shares_16 : decode cX9_shares 16 = .ok (.iload_n 3, 1) := by decide +kernel
theorem dX9_shares_17 : decode cX9_shares 17 = .ok (.iload_n 2, 1) := by decide +kernel
theorem dX9_shares_18 : decode cX9_shares 18 = .ok (.iload 4, 2) := by decide +kernel
theorem dX9_shares_20 : decode cX9_shares 20 = .ok (.ishr, 1) := by decide +kernel
theorem dX9_shares_21 : decode cX9_shares 21 = .ok (.iconst 1, 1) := by decide +kernel
theorem dX9_shares_22 : decode cX9_shares 22 = .ok (.iand, 1) := by decide +kernel
theorem dX9_shares_23 : decode cX9_shares 23 = .ok (.iconst 1, 1) := by decide +kernel
theorem dX9_shares_24 : decode cX9_shares 24 = .ok (.if_icmp .ne 13, 3) := by decide +kernel
theorem dX9_shares_27 : decode cX9_shares 27 = .ok (.aload_n 0, 1) := by decide +kernel
theorem dX9_shares_28 : decode cX9_shares 28 = .ok (.getfield 57, 3) := by decide +kernel
theorem dX9_shares_31 : decode cX9_shares 31 = .ok (.iload 4, 2) := by decide +kernel
theorem dX9_shares_33 : decode cX9_shares 33 = .ok (.iaload, 1) := by decide +kernel
theorem dX9_shares_34 : decode cX9_shares 34 = .ok (.goto 4, 3) := by decide +kernel
theorem dX9_shares_37 : decode cX9_shares 37 = .ok (.iconst 0, 1) := by decide +kernel
theorem dX9_shares_38 : decode cX9_shares 38 = .ok (.iadd, 1) := by decide +kernel
theorem dX9_shares_39 : decode cX9_shares 39 = .ok (.istore_n 3, 1) := by decide +kernel
theorem dX9_shares_40 : decode cX9_shares 40 = .ok (.iinc 4 1, 3) := by decide +kernel
theorem dX9_shares_43 : decode cX9_shares 43 = .ok (.goto (-38), 3) := by decide +kernel
theorem dX9_shares_46 : decode cX9_shares 46 = .ok (.iload_n 1, 1) := by decide +kernel
theorem dX9_shares_47 : decode cX9_shares 47 = .ok (.istore 4, 2) := by decide +kernel
theorem dX9_shares_49 : decode cX9_shares 49 = .ok (.iconst 0, 1) := by decide +kernel
theorem dX9_shares_50 : decode cX9_shares 50 = .ok (.istore 5, 2) := by decide +kernel
theorem dX9_shares_52 : decode cX9_shares 52 = .ok (.iload 5, 2) := by decide +kernel
theorem dX9_shares_54 : decode cX9_shares 54 = .ok (.iconst 4, 1) := by decide +kernel
theorem dX9_shares_55 : decode cX9_shares 55 = .ok (.if_icmp .ge 68, 3) := by decide +kernel
theorem dX9_shares_58 : decode cX9_shares 58 = .ok (.aload_n 0, 1) := by decide +kernel
theorem dX9_shares_59 : decode cX9_shares 59 = .ok (.getfield 60, 3) := by decide +kernel
theorem dX9_shares_62 : decode cX9_shares 62 = .ok (.iload 5, 2) := by decide +kernel
theorem dX9_shares_64 : decode cX9_shares 64 = .ok (.iload 5, 2) := by decide +kernel
theorem dX9_shares_66 : decode cX9_shares 66 = .ok (.aload_n 0, 1) := by decide +kernel
theorem dX9_shares_67 : decode cX9_shares 67 = .ok (.getfield 9, 3) := by decide +kernel
theorem dX9_shares_70 : decode cX9_shares 70 = .ok (.iconst 0, 1) := by decide +kernel
theorem dX9_shares_71 : decode cX9_shares 71 = .ok (.iaload, 1) := by decide +kernel
theorem dX9_shares_72 : decode cX9_shares 72 = .ok (.if_icmp .ge 31, 3) := by decide +kernel
theorem dX9_shares_75 : decode cX9_shares 75 = .ok (.iload_n 2, 1) := by decide +kernel
theorem dX9_shares_76 : decode cX9_shares 76 = .ok (.iload 5, 2) := by decide +kernel
theorem dX9_shares_78 : decode cX9_shares 78 = .ok (.ishr, 1) := by decide +kernel
theorem dX9_shares_79 : decode cX9_shares 79 = .ok (.iconst 1, 1) := by decide +kernel
theorem dX9_shares_80 : decode cX9_shares 80 = .ok (.iand, 1) := by decide +kernel
theorem dX9_shares_81 : decode cX9_shares 81 = .ok (.iconst 1, 1) := by decide +kernel
theorem dX9_shares_82 : decode cX9_shares 82 = .ok (.if_icmp .ne 21, 3) := by decide +kernel
theorem dX9_shares_85 : decode cX9_shares 85 = .ok (.iload_n 3, 1) := by decide +kernel
theorem dX9_shares_86 : decode cX9_shares 86 = .ok (.ifCond .le 17, 3) := by decide +kernel
theorem dX9_shares_89 : decode cX9_shares 89 = .ok (.iload_n 1, 1) := by decide +kernel
theorem dX9_shares_90 : decode cX9_shares 90 = .ok (.aload_n 0, 1) := by decide +kernel
theorem dX9_shares_91 : decode cX9_shares 91 = .ok (.getfield 57, 3) := by decide +kernel
theorem dX9_shares_94 : decode cX9_shares 94 = .ok (.iload 5, 2) := by decide +kernel
theorem dX9_shares_96 : decode cX9_shares 96 = .ok (.iaload, 1) := by decide +kernel
theorem dX9_shares_97 : decode cX9_shares 97 = .ok (.imul, 1) := by decide +kernel
theorem dX9_shares_98 : decode cX9_shares 98 = .ok (.iload_n 3, 1) := by decide +kernel
theorem dX9_shares_99 : decode cX9_shares 99 = .ok (.idiv, 1) := by decide +kernel
theorem dX9_shares_100 : decode cX9_shares 100 = .ok (.goto 4, 3) := by decide +kernel
theorem dX9_shares_103 : decode cX9_shares 103 = .ok (.iconst 0, 1) := by decide +kernel
theorem dX9_shares_104 : decode cX9_shares 104 = .ok (.iastore, 1) := by decide +kernel
theorem dX9_shares_105 : decode cX9_shares 105 = .ok (.iload 4, 2) := by decide +kernel
theorem dX9_shares_107 : decode cX9_shares 107 = .ok (.aload_n 0, 1) := by decide +kernel
theorem dX9_shares_108 : decode cX9_shares 108 = .ok (.getfield 60, 3) := by decide +kernel
theorem dX9_shares_111 : decode cX9_shares 111 = .ok (.iload 5, 2) := by decide +kernel
theorem dX9_shares_113 : decode cX9_shares 113 = .ok (.iaload, 1) := by decide +kernel
theorem dX9_shares_114 : decode cX9_shares 114 = .ok (.isub, 1) := by decide +kernel
theorem dX9_shares_115 : decode cX9_shares 115 = .ok (.istore 4, 2) := by decide +kernel
theorem dX9_shares_117 : decode cX9_shares 117 = .ok (.iinc 5 1, 3) := by decide +kernel
theorem dX9_shares_120 : decode cX9_shares 120 = .ok (.goto (-68), 3) := by decide +kernel
theorem dX9_shares_123 : decode cX9_shares 123 = .ok (.iconst 0, 1) := by decide +kernel
theorem dX9_shares_124 : decode cX9_shares 124 = .ok (.istore 5, 2) := by decide +kernel
theorem dX9_shares_126 : decode cX9_shares 126 = .ok (.iload 5, 2) := by decide +kernel
theorem dX9_shares_128 : decode cX9_shares 128 = .ok (.aload_n 0, 1) := by decide +kernel
theorem dX9_shares_129 : decode cX9_shares 129 = .ok (.getfield 9, 3) := by decide +kernel
theorem dX9_shares_132 : decode cX9_shares 132 = .ok (.iconst 0, 1) := by decide +kernel
theorem dX9_shares_133 : decode cX9_shares 133 = .ok (.iaload, 1) := by decide +kernel
theorem dX9_shares_134 : decode cX9_shares 134 = .ok (.if_icmp .ge 76, 3) := by decide +kernel
theorem dX9_shares_137 : decode cX9_shares 137 = .ok (.iload 4, 2) := by decide +kernel
theorem dX9_shares_139 : decode cX9_shares 139 = .ok (.ifCond .le 71, 3) := by decide +kernel
theorem dX9_shares_142 : decode cX9_shares 142 = .ok (.iload_n 2, 1) := by decide +kernel
theorem dX9_shares_143 : decode cX9_shares 143 = .ok (.iload 5, 2) := by decide +kernel
theorem dX9_shares_145 : decode cX9_shares 145 = .ok (.ishr, 1) := by decide +kernel
theorem dX9_shares_146 : decode cX9_shares 146 = .ok (.iconst 1, 1) := by decide +kernel
theorem dX9_shares_147 : decode cX9_shares 147 = .ok (.iand, 1) := by decide +kernel
theorem dX9_shares_148 : decode cX9_shares 148 = .ok (.iconst 1, 1) := by decide +kernel
theorem dX9_shares_149 : decode cX9_shares 149 = .ok (.if_icmp .ne 17, 3) := by decide +kernel
theorem dX9_shares_152 : decode cX9_shares 152 = .ok (.aload_n 0, 1) := by decide +kernel
theorem dX9_shares_153 : decode cX9_shares 153 = .ok (.getfield 57, 3) := by decide +kernel
theorem dX9_shares_156 : decode cX9_shares 156 = .ok (.iload 5, 2) := by decide +kernel
theorem dX9_shares_158 : decode cX9_shares 158 = .ok (.iaload, 1) := by decide +kernel
theorem dX9_shares_159 : decode cX9_shares 159 = .ok (.ifCond .le 7, 3) := by decide +kernel
theorem dX9_shares_162 : decode cX9_shares 162 = .ok (.iconst 1, 1) := by decide +kernel
theorem dX9_shares_163 : decode cX9_shares 163 = .ok (.goto 4, 3) := by decide +kernel
theorem dX9_shares_166 : decode cX9_shares 166 = .ok (.iconst 0, 1) := by decide +kernel
theorem dX9_shares_167 : decode cX9_shares 167 = .ok (.istore 6, 2) := by decide +kernel
theorem dX9_shares_169 : decode cX9_shares 169 = .ok (.aload_n 0, 1) := by decide +kernel
theorem dX9_shares_170 : decode cX9_shares 170 = .ok (.getfield 60, 3) := by decide +kernel
theorem dX9_shares_173 : decode cX9_shares 173 = .ok (.iload 5, 2) := by decide +kernel
theorem dX9_shares_175 : decode cX9_shares 175 = .ok (.dup2, 1) := by decide +kernel
theorem dX9_shares_176 : decode cX9_shares 176 = .ok (.iaload, 1) := by decide +kernel
theorem dX9_shares_177 : decode cX9_shares 177 = .ok (.iload 6, 2) := by decide +kernel
theorem dX9_shares_179 : decode cX9_shares 179 = .ok (.ifCond .eq 7, 3) := by decide +kernel
theorem dX9_shares_182 : decode cX9_shares 182 = .ok (.iconst 1, 1) := by decide +kernel
theorem dX9_shares_183 : decode cX9_shares 183 = .ok (.goto 4, 3) := by decide +kernel
theorem dX9_shares_186 : decode cX9_shares 186 = .ok (.iconst 0, 1) := by decide +kernel
theorem dX9_shares_187 : decode cX9_shares 187 = .ok (.iadd, 1) := by decide +kernel
theorem dX9_shares_188 : decode cX9_shares 188 = .ok (.iastore, 1) := by decide +kernel
theorem dX9_shares_189 : decode cX9_shares 189 = .ok (.iload 4, 2) := by decide +kernel
theorem dX9_shares_191 : decode cX9_shares 191 = .ok (.iload 6, 2) := by decide +kernel
theorem dX9_shares_193 : decode cX9_shares 193 = .ok (.ifCond .eq 7, 3) := by decide +kernel
theorem dX9_shares_196 : decode cX9_shares 196 = .ok (.iconst 1, 1) := by decide +kernel
theorem dX9_shares_197 : decode cX9_shares 197 = .ok (.goto 4, 3) := by decide +kernel
theorem dX9_shares_200 : decode cX9_shares 200 = .ok (.iconst 0, 1) := by decide +kernel
theorem dX9_shares_201 : decode cX9_shares 201 = .ok (.isub, 1) := by decide +kernel
theorem dX9_shares_202 : decode cX9_shares 202 = .ok (.istore 4, 2) := by decide +kernel
theorem dX9_shares_204 : decode cX9_shares 204 = .ok (.iinc 5 1, 3) := by decide +kernel
theorem dX9_shares_207 : decode cX9_shares 207 = .ok (.goto (-81), 3) := by decide +kernel
theorem dX9_shares_210 : decode cX9_shares 210 = .ok (.return_, 1) := by decide +kernel
theorem dX9_weighsByMost_0 : decode cX9_weighsByMost 0 = .ok (.iconst 0, 1) := by decide +kernel
theorem dX9_weighsByMost_1 : decode cX9_weighsByMost 1 = .ok (.istore_n 1, 1) := by decide +kernel
theorem dX9_weighsByMost_2 : decode cX9_weighsByMost 2 = .ok (.iload_n 1, 1) := by decide +kernel
theorem dX9_weighsByMost_3 : decode cX9_weighsByMost 3 = .ok (.iconst 4, 1) := by decide +kernel
theorem dX9_weighsByMost_4 : decode cX9_weighsByMost 4 = .ok (.if_icmp .ge 21, 3) := by decide +kernel
theorem dX9_weighsByMost_7 : decode cX9_weighsByMost 7 = .ok (.aload_n 0, 1) := by decide +kernel
theorem dX9_weighsByMost_8 : decode cX9_weighsByMost 8 = .ok (.getfield 57, 3) := by decide +kernel
theorem dX9_weighsByMost_11 : decode cX9_weighsByMost 11 = .ok (.iload_n 1, 1) := by decide +kernel
theorem dX9_weighsByMost_12 : decode cX9_weighsByMost 12 = .ok (.aload_n 0, 1) := by decide +kernel
theorem dX9_weighsByMost_13 : decode cX9_weighsByMost 13 = .ok (.getfield 51, 3) := by decide +kernel
theorem dX9_weighsByMost_16 : decode cX9_weighsByMost 16 = .ok (.iload_n 1, 1) := by decide +kernel
theorem dX9_weighsByMost_17 : decode cX9_weighsByMost 17 = .ok (.iaload, 1) := by decide +kernel
theorem dX9_weighsByMost_18 : decode cX9_weighsByMost 18 = .ok (.iastore, 1) := by decide +kernel
theorem dX9_weighsByMost_19 : decode cX9_weighsByMost 19 = .ok (.iinc 1 1, 3) := by decide +kernel
theorem dX9_weighsByMost_22 : decode cX9_weighsByMost 22 = .ok (.goto (-20), 3) := by decide +kernel
theorem dX9_weighsByMost_25 : decode cX9_weighsByMost 25 = .ok (.return_, 1) := by decide +kernel
theorem dX9_sharing_0 : decode cX9_sharing 0 = .ok (.iconst 0, 1) := by decide +kernel
theorem dX9_sharing_1 : decode cX9_sharing 1 = .ok (.istore_n 2, 1) := by decide +kernel
theorem dX9_sharing_2 : decode cX9_sharing 2 = .ok (.iconst 0, 1) := by decide +kernel
theorem dX9_sharing_3 : decode cX9_sharing 3 = .ok (.istore_n 3, 1) := by decide +kernel
theorem dX9_sharing_4 : decode cX9_sharing 4 = .ok (.aload_n 0, 1) := by decide +kernel
theorem dX9_sharing_5 : decode cX9_sharing 5 = .ok (.iload_n 1, 1) := by decide +kernel
theorem dX9_sharing_6 : decode cX9_sharing 6 = .ok (.iconst 1, 1) := by decide +kernel
theorem dX9_sharing_7 : decode cX9_sharing 7 = .ok (.invokevirtual 91, 3) := by decide +kernel
theorem dX9_sharing_10 : decode cX9_sharing 10 = .ok (.istore 4, 2) := by decide +kernel
theorem dX9_sharing_12 : decode cX9_sharing 12 = .ok (.iload 4, 2) := by decide +kernel
theorem dX9_sharing_14 : decode cX9_sharing 14 = .ok (.aload_n 0, 1) := by decide +kernel
theorem dX9_sharing_15 : decode cX9_sharing 15 = .ok (.iload_n 1, 1) := by decide +kernel
theorem dX9_sharing_16 : decode cX9_sharing 16 = .ok (.iconst 1, 1) := by decide +kernel
theorem dX9_sharing_17 : decode cX9_sharing 17 = .ok (.invokevirtual 91, 3) := by decide +kernel
theorem dX9_sharing_20 : decode cX9_sharing 20 = .ok (.aload_n 0, 1) := by decide +kernel
theorem dX9_sharing_21 : decode cX9_sharing 21 = .ok (.iload_n 1, 1) := by decide +kernel
theorem dX9_sharing_22 : decode cX9_sharing 22 = .ok (.iconst 2, 1) := by decide +kernel
theorem dX9_sharing_23 : decode cX9_sharing 23 = .ok (.invokevirtual 91, 3) := by decide +kernel
theorem dX9_sharing_26 : decode cX9_sharing 26 = .ok (.iadd, 1) := by decide +kernel
theorem dX9_sharing_27 : decode cX9_sharing 27 = .ok (.if_icmp .ge 36, 3) := by decide +kernel
theorem dX9_sharing_30 : decode cX9_sharing 30 = .ok (.iload_n 2, 1) := by decide +kernel
theorem dX9_sharing_31 : decode cX9_sharing 31 = .ok (.iconst 1, 1) := by decide +kernel
theorem dX9_sharing_32 : decode cX9_sharing 32 = .ok (.iload 4, 2) := by decide +kernel
theorem dX9_sharing_34 : decode cX9_sharing 34 = .ok (.ishl, 1) := by decide +kernel
theorem dX9_sharing_35 : decode cX9_sharing 35 = .ok (.ior, 1) := by decide +kernel
theorem dX9_sharing_36 : decode cX9_sharing 36 = .ok (.istore_n 2, 1) := by decide +kernel
theorem dX9_sharing_37 : decode cX9_sharing 37 = .ok (.iload_n 3, 1) := by decide +kernel
theorem dX9_sharing_38 : decode cX9_sharing 38 = .ok (.aload_n 0, 1) := by decide +kernel
theorem dX9_sharing_39 : decode cX9_sharing 39 = .ok (.iload 4, 2) := by decide +kernel
theorem dX9_sharing_41 : decode cX9_sharing 41 = .ok (.invokevirtual 302, 3) := by decide +kernel
theorem dX9_sharing_44 : decode cX9_sharing 44 = .ok (.ifCond .eq 7, 3) := by decide +kernel
theorem dX9_sharing_47 : decode cX9_sharing 47 = .ok (.iconst 0, 1) := by decide +kernel
theorem dX9_sharing_48 : decode cX9_sharing 48 = .ok (.goto 7, 3) := by decide +kernel
theorem dX9_sharing_51 : decode cX9_sharing 51 = .ok (.iconst 1, 1) := by decide +kernel
theorem dX9_sharing_52 : decode cX9_sharing 52 = .ok (.iload 4, 2) := by decide +kernel
theorem dX9_sharing_54 : decode cX9_sharing 54 = .ok (.ishl, 1) := by decide +kernel
theorem dX9_sharing_55 : decode cX9_sharing 55 = .ok (.ior, 1) := by decide +kernel
theorem dX9_sharing_56 : decode cX9_sharing 56 = .ok (.istore_n 3, 1) := by decide +kernel
theorem dX9_sharing_57 : decode cX9_sharing 57 = .ok (.iinc 4 1, 3) := by decide +kernel
theorem dX9_sharing_60 : decode cX9_sharing 60 = .ok (.goto (-48), 3) := by decide +kernel
theorem dX9_sharing_63 : decode cX9_sharing 63 = .ok (.iload_n 3, 1) := by decide +kernel
theorem dX9_sharing_64 : decode cX9_sharing 64 = .ok (.ifCond .ne 7, 3) := by decide +kernel
theorem dX9_sharing_67 : decode cX9_sharing 67 = .ok (.iload_n 2, 1) := by decide +kernel
theorem dX9_sharing_68 : decode cX9_sharing 68 = .ok (.goto 4, 3) := by decide +kernel
theorem dX9_sharing_71 : decode cX9_sharing 71 = .ok (.iload_n 3, 1) := by decide +kernel
theorem dX9_sharing_72 : decode cX9_sharing 72 = .ok (.ireturn, 1) := by decide +kernel
theorem dX9_spreads_0 : decode cX9_spreads 0 = .ok (.aload_n 0, 1) := by decide +kernel
theorem dX9_spreads_1 : decode cX9_spreads 1 = .ok (.iload_n 1, 1) := by decide +kernel
theorem dX9_spreads_2 : decode cX9_spreads 2 = .ok (.invokevirtual 305, 3) := by decide +kernel
theorem dX9_spreads_5 : decode cX9_spreads 5 = .ok (.istore_n 2, 1) := by decide +kernel
theorem dX9_spreads_6 : decode cX9_spreads 6 = .ok (.aload_n 0, 1) := by decide +kernel
theorem dX9_spreads_7 : decode cX9_spreads 7 = .ok (.iload_n 1, 1) := by decide +kernel
theorem dX9_spreads_8 : decode cX9_spreads 8 = .ok (.invokevirtual 293, 3) := by decide +kernel
theorem dX9_spreads_11 : decode cX9_spreads 11 = .ok (.aload_n 0, 1) := by decide +kernel
theorem dX9_spreads_12 : decode cX9_spreads 12 = .ok (.getfield 9, 3) := by decide +kernel
theorem dX9_spreads_15 : decode cX9_spreads 15 = .ok (.iconst 2, 1) := by decide +kernel
theorem dX9_spreads_16 : decode cX9_spreads 16 = .ok (.iaload, 1) := by decide +kernel
theorem dX9_spreads_17 : decode cX9_spreads 17 = .ok (.aload_n 0, 1) := by decide +kernel
theorem dX9_spreads_18 : decode cX9_spreads 18 = .ok (.iload_n 1, 1) := by decide +kernel
theorem dX9_spreads_19 : decode cX9_spreads 19 = .ok (.iconst 2, 1) := by decide +kernel
theorem dX9_spreads_20 : decode cX9_spreads 20 = .ok (.invokevirtual 91, 3) := by decide +kernel
theorem dX9_spreads_23 : decode cX9_spreads 23 = .ok (.iconst 1, 1) := by decide +kernel
theorem dX9_spreads_24 : decode cX9_spreads 24 = .ok (.isub, 1) := by decide +kernel
theorem dX9_spreads_25 : decode cX9_spreads 25 = .ok (.imul, 1) := by decide +kernel
theorem dX9_spreads_26 : decode cX9_spreads 26 = .ok (.isub, 1) := by decide +kernel
theorem dX9_spreads_27 : decode cX9_spreads 27 = .ok (.istore_n 3, 1) := by decide +kernel
theorem dX9_spreads_28 : decode cX9_spreads 28 = .ok (.aload_n 0, 1) := by decide +kernel
theorem dX9_spreads_29 : decode cX9_spreads 29 = .ok (.iload_n 1, 1) := by decide +kernel
theorem dX9_spreads_30 : decode cX9_spreads 30 = .ok (.invokevirtual 296, 3) := by decide +kernel
theorem dX9_spreads_33 : decode cX9_spreads 33 = .ok (.aload_n 0, 1) := by decide +kernel
theorem dX9_spreads_34 : decode cX9_spreads 34 = .ok (.getfield 9, 3) := by decide +kernel
theorem dX9_spreads_37 : decode cX9_spreads 37 = .ok (.iconst 2, 1) := by decide +kernel
theorem dX9_spreads_38 : decode cX9_spreads 38 = .ok (.iaload, 1) := by decide +kernel
theorem dX9_spreads_39 : decode cX9_spreads 39 = .ok (.aload_n 0, 1) := by decide +kernel
theorem dX9_spreads_40 : decode cX9_spreads 40 = .ok (.iload_n 1, 1) := by decide +kernel
theorem dX9_spreads_41 : decode cX9_spreads 41 = .ok (.iconst 2, 1) := by decide +kernel
theorem dX9_spreads_42 : decode cX9_spreads 42 = .ok (.invokevirtual 91, 3) := by decide +kernel
theorem dX9_spreads_45 : decode cX9_spreads 45 = .ok (.iconst 1, 1) := by decide +kernel
theorem dX9_spreads_46 : decode cX9_spreads 46 = .ok (.isub, 1) := by decide +kernel
theorem dX9_spreads_47 : decode cX9_spreads 47 = .ok (.imul, 1) := by decide +kernel
theorem dX9_spreads_48 : decode cX9_spreads 48 = .ok (.isub, 1) := by decide +kernel
theorem dX9_spreads_49 : decode cX9_spreads 49 = .ok (.istore 4, 2) := by decide +kernel
theorem dX9_spreads_51 : decode cX9_spreads 51 = .ok (.aload_n 0, 1) := by decide +kernel
theorem dX9_spreads_52 : decode cX9_spreads 52 = .ok (.iload_n 1, 1) := by decide +kernel
theorem dX9_spreads_53 : decode cX9_spreads 53 = .ok (.iconst 1, 1) := by decide +kernel
theorem dX9_spreads_54 : decode cX9_spreads 54 = .ok (.invokevirtual 91, 3) := by decide +kernel
theorem dX9_spreads_57 : decode cX9_spreads 57 = .ok (.istore 5, 2) := by decide +kernel
theorem dX9_spreads_59 : decode cX9_spreads 59 = .ok (.iload 5, 2) := by decide +kernel
theorem dX9_spreads_61 : decode cX9_spreads 61 = .ok (.aload_n 0, 1) := by decide +kernel
theorem dX9_spreads_62 : decode cX9_spreads 62 = .ok (.iload_n 1, 1) := by decide +kernel
theorem dX9_spreads_63 : decode cX9_spreads 63 = .ok (.iconst 1, 1) := by decide +kernel
theorem dX9_spreads_64 : decode cX9_spreads 64 = .ok (.invokevirtual 91, 3) := by decide +kernel
theorem dX9_spreads_67 : decode cX9_spreads 67 = .ok (.aload_n 0, 1) := by decide +kernel
theorem dX9_spreads_68 : decode cX9_spreads 68 = .ok (.iload_n 1, 1) := by decide +kernel
theorem dX9_spreads_69 : decode cX9_spreads 69 = .ok (.iconst 2, 1) := by decide +kernel
theorem dX9_spreads_70 : decode cX9_spreads 70 = .ok (.invokevirtual 91, 3) := by decide +kernel
theorem dX9_spreads_73 : decode cX9_spreads 73 = .ok (.iadd, 1) := by decide +kernel
theorem dX9_spreads_74 : decode cX9_spreads 74 = .ok (.if_icmp .ge 19, 3) := by decide +kernel
theorem dX9_spreads_77 : decode cX9_spreads 77 = .ok (.iload_n 3, 1) := by decide +kernel
theorem dX9_spreads_78 : decode cX9_spreads 78 = .ok (.aload_n 0, 1) := by decide +kernel
theorem dX9_spreads_79 : decode cX9_spreads 79 = .ok (.getfield 48, 3) := by decide +kernel
theorem dX9_spreads_82 : decode cX9_spreads 82 = .ok (.iload 5, 2) := by decide +kernel
theorem dX9_spreads_84 : decode cX9_spreads 84 = .ok (.iaload, 1) := by decide +kernel
theorem dX9_spreads_85 : decode cX9_spreads 85 = .ok (.isub, 1) := by decide +kernel
theorem dX9_spreads_86 : decode cX9_spreads 86 = .ok (.istore_n 3, 1) := by decide +kernel
theorem dX9_spreads_87 : decode cX9_spreads 87 = .ok (.iinc 5 1, 3) := by decide +kernel
theorem dX9_spreads_90 : decode cX9_spreads 90 = .ok (.goto (-31), 3) := by decide +kernel
theorem dX9_spreads_93 : decode cX9_spreads 93 = .ok (.iload_n 3, 1) := by decide +kernel
theorem dX9_spreads_94 : decode cX9_spreads 94 = .ok (.ifCond .le 74, 3) := by decide +kernel
theorem dX9_spreads_97 : decode cX9_spreads 97 = .ok (.aload_n 0, 1) := by decide +kernel
theorem dX9_spreads_98 : decode cX9_spreads 98 = .ok (.invokevirtual 308, 3) := by decide +kernel
theorem dX9_spreads_101 : decode cX9_spreads 101 = .ok (.aload_n 0, 1) := by decide +kernel
theorem dX9_spreads_102 : decode cX9_spreads 102 = .ok (.iload_n 3, 1) := by decide +kernel
theorem dX9_spreads_103 : decode cX9_spreads 103 = .ok (.iload_n 2, 1) := by decide +kernel
theorem dX9_spreads_104 : decode cX9_spreads 104 = .ok (.invokevirtual 311, 3) := by decide +kernel
theorem dX9_spreads_107 : decode cX9_spreads 107 = .ok (.iconst 0, 1) := by decide +kernel
theorem dX9_spreads_108 : decode cX9_spreads 108 = .ok (.istore 5, 2) := by decide +kernel
theorem dX9_spreads_110 : decode cX9_spreads 110 = .ok (.iload 5, 2) := by decide +kernel
theorem dX9_spreads_112 : decode cX9_spreads 112 = .ok (.aload_n 0, 1) := by decide +kernel
theorem dX9_spreads_113 : decode cX9_spreads 113 = .ok (.getfield 9, 3) := by decide +kernel
theorem dX9_spreads_116 : decode cX9_spreads 116 = .ok (.iconst 0, 1) := by decide +kernel
theorem dX9_spreads_117 : decode cX9_spreads 117 = .ok (.iaload, 1) := by decide +kernel
theorem dX9_spreads_118 : decode cX9_spreads 118 = .ok (.if_icmp .ge 50, 3) := by decide +kernel
theorem dX9_spreads_121 : decode cX9_spreads 121 = .ok (.aload_n 0, 1) := by decide +kernel
theorem dX9_spreads_122 : decode cX9_spreads 122 = .ok (.getfield 48, 3) := by decide +kernel
theorem dX9_spreads_125 : decode cX9_spreads 125 = .ok (.iload 5, 2) := by decide +kernel
theorem dX9_spreads_127 : decode cX9_spreads 127 = .ok (.dup2, 1) := by decide +kernel
theorem dX9_spreads_128 : decode cX9_spreads 128 = .ok (.iaload, 1) := by decide +kernel
theorem dX9_spreads_129 : decode cX9_spreads 129 = .ok (.aload_n 0, 1) := by decide +kernel
theorem dX9_spreads_130 : decode cX9_spreads 130 = .ok (.getfield 60, 3) := by decide +kernel
theorem dX9_spreads_133 : decode cX9_spreads 133 = .ok (.iload 5, 2) := by decide +kernel
theorem dX9_spreads_135 : decode cX9_spreads 135 = .ok (.iaload, 1) := by decide +kernel
theorem dX9_spreads_136 : decode cX9_spreads 136 = .ok (.iadd, 1) := by decide +kernel
theorem dX9_spreads_137 : decode cX9_spreads 137 = .ok (.iastore, 1) := by decide +kernel
theorem dX9_spreads_138 : decode cX9_spreads 138 = .ok (.aload_n 0, 1) := by decide +kernel
theorem dX9_spreads_139 : decode cX9_spreads 139 = .ok (.getfield 51, 3) := by decide +kernel
theorem dX9_spreads_142 : decode cX9_spreads 142 = .ok (.iload 5, 2) := by decide +kernel
theorem dX9_spreads_144 : decode cX9_spreads 144 = .ok (.aload_n 0, 1) := by decide +kernel
theorem dX9_spreads_145 : decode cX9_spreads 145 = .ok (.getfield 51, 3) := by decide +kernel
theorem dX9_spreads_148 : decode cX9_spreads 148 = .ok (.iload 5, 2) := by decide +kernel
theorem dX9_spreads_150 : decode cX9_spreads 150 = .ok (.iaload, 1) := by decide +kernel
theorem dX9_spreads_151 : decode cX9_spreads 151 = .ok (.aload_n 0, 1) := by decide +kernel
theorem dX9_spreads_152 : decode cX9_spreads 152 = .ok (.getfield 48, 3) := by decide +kernel
theorem dX9_spreads_155 : decode cX9_spreads 155 = .ok (.iload 5, 2) := by decide +kernel
theorem dX9_spreads_157 : decode cX9_spreads 157 = .ok (.iaload, 1) := by decide +kernel
theorem dX9_spreads_158 : decode cX9_spreads 158 = .ok (.invokestatic 277, 3) := by decide +kernel
theorem dX9_spreads_161 : decode cX9_spreads 161 = .ok (.iastore, 1) := by decide +kernel
theorem dX9_spreads_162 : decode cX9_spreads 162 = .ok (.iinc 5 1, 3) := by decide +kernel
theorem dX9_spreads_165 : decode cX9_spreads 165 = .ok (.goto (-55), 3) := by decide +kernel
theorem dX9_spreads_168 : decode cX9_spreads 168 = .ok (.aload_n 0, 1) := by decide +kernel
theorem dX9_spreads_169 : decode cX9_spreads 169 = .ok (.iload_n 1, 1) := by decide +kernel
theorem dX9_spreads_170 : decode cX9_spreads 170 = .ok (.iconst 1, 1) := by decide +kernel
theorem dX9_spreads_171 : decode cX9_spreads 171 = .ok (.invokevirtual 91, 3) := by decide +kernel
theorem dX9_spreads_174 : decode cX9_spreads 174 = .ok (.istore 5, 2) := by decide +kernel
theorem dX9_spreads_176 : decode cX9_spreads 176 = .ok (.iload 5, 2) := by decide +kernel
theorem dX9_spreads_178 : decode cX9_spreads 178 = .ok (.aload_n 0, 1) := by decide +kernel
theorem dX9_spreads_179 : decode cX9_spreads 179 = .ok (.iload_n 1, 1) := by decide +kernel
theorem dX9_spreads_180 : decode cX9_spreads 180 = .ok (.iconst 1, 1) := by decide +kernel
theorem dX9_spreads_181 : decode cX9_spreads 181 = .ok (.invokevirtual 91, 3) := by decide +kernel
theorem dX9_spreads_184 : decode cX9_spreads 184 = .ok (.aload_n 0, 1) := by decide +kernel
theorem dX9_spreads_185 : decode cX9_spreads 185 = .ok (.iload_n 1, 1) := by decide +kernel
theorem dX9_spreads_186 : decode cX9_spreads 186 = .ok (.iconst 2, 1) := by decide +kernel
theorem dX9_spreads_187 : decode cX9_spreads 187 = .ok (.invokevirtual 91, 3) := by decide +kernel
theorem dX9_spreads_190 : decode cX9_spreads 190 = .ok (.iadd, 1) := by decide +kernel
theorem dX9_spreads_191 : decode cX9_spreads 191 = .ok (.if_icmp .ge 21, 3) := by decide +kernel
theorem dX9_spreads_194 : decode cX9_spreads 194 = .ok (.iload 4, 2) := by decide +kernel
theorem dX9_spreads_196 : decode cX9_spreads 196 = .ok (.aload_n 0, 1) := by decide +kernel
theorem dX9_spreads_197 : decode cX9_spreads 197 = .ok (.getfield 51, 3) := by decide +kernel
theorem dX9_spreads_200 : decode cX9_spreads 200 = .ok (.iload 5, 2) := by decide +kernel
theorem dX9_spreads_202 : decode cX9_spreads 202 = .ok (.iaload, 1) := by decide +kernel
theorem dX9_spreads_203 : decode cX9_spreads 203 = .ok (.isub, 1) := by decide +kernel
theorem dX9_spreads_204 : decode cX9_spreads 204 = .ok (.istore 4, 2) := by decide +kernel
theorem dX9_spreads_206 : decode cX9_spreads 206 = .ok (.iinc 5 1, 3) := by decide +kernel
theorem dX9_spreads_209 : decode cX9_spreads 209 = .ok (.goto (-33), 3) := by decide +kernel
theorem dX9_spreads_212 : decode cX9_spreads 212 = .ok (.iload 4, 2) := by decide +kernel
theorem dX9_spreads_214 : decode cX9_spreads 214 = .ok (.ifCond .le 51, 3) := by decide +kernel
theorem dX9_spreads_217 : decode cX9_spreads 217 = .ok (.aload_n 0, 1) := by decide +kernel
theorem dX9_spreads_218 : decode cX9_spreads 218 = .ok (.invokevirtual 308, 3) := by decide +kernel
theorem dX9_spreads_221 : decode cX9_spreads 221 = .ok (.aload_n 0, 1) := by decide +kernel
theorem dX9_spreads_222 : decode cX9_spreads 222 = .ok (.iload 4, 2) := by decide +kernel
theorem dX9_spreads_224 : decode cX9_spreads 224 = .ok (.iload_n 2, 1) := by decide +kernel
theorem dX9_spreads_225 : decode cX9_spreads 225 = .ok (.invokevirtual 311, 3) := by decide +kernel
theorem dX9_spreads_228 : decode cX9_spreads 228 = .ok (.iconst 0, 1) := by decide +kernel
theorem dX9_spreads_229 : decode cX9_spreads 229 = .ok (.istore 5, 2) := by decide +kernel
theorem dX9_spreads_231 : decode cX9_spreads 231 = .ok (.iload 5, 2) := by decide +kernel
theorem dX9_spreads_233 : decode cX9_spreads 233 = .ok (.aload_n 0, 1) := by decide +kernel
theorem dX9_spreads_234 : decode cX9_spreads 234 = .ok (.getfield 9, 3) := by decide +kernel
theorem dX9_spreads_237 : decode cX9_spreads 237 = .ok (.iconst 0, 1) := by decide +kernel
theorem dX9_spreads_238 : decode cX9_spreads 238 = .ok (.iaload, 1) := by decide +kernel
theorem dX9_spreads_239 : decode cX9_spreads 239 = .ok (.if_icmp .ge 26, 3) := by decide +kernel
theorem dX9_spreads_242 : decode cX9_spreads 242 = .ok (.aload_n 0, 1) := by decide +kernel
theorem dX9_spreads_243 : decode cX9_spreads 243 = .ok (.getfield 51, 3) := by decide +kernel
theorem dX9_spreads_246 : decode cX9_spreads 246 = .ok (.iload 5, 2) := by decide +kernel
theorem dX9_spreads_248 : decode cX9_spreads 248 = .ok (.dup2, 1) := by decide +kernel
theorem dX9_spreads_249 : decode cX9_spreads 249 = .ok (.iaload, 1) := by decide +kernel
theorem dX9_spreads_250 : decode cX9_spreads 250 = .ok (.aload_n 0, 1) := by decide +kernel
theorem dX9_spreads_251 : decode cX9_spreads 251 = .ok (.getfield 60, 3) := by decide +kernel
theorem dX9_spreads_254 : decode cX9_spreads 254 = .ok (.iload 5, 2) := by decide +kernel
theorem dX9_spreads_256 : decode cX9_spreads 256 = .ok (.iaload, 1) := by decide +kernel
theorem dX9_spreads_257 : decode cX9_spreads 257 = .ok (.iadd, 1) := by decide +kernel
theorem dX9_spreads_258 : decode cX9_spreads 258 = .ok (.iastore, 1) := by decide +kernel
theorem dX9_spreads_259 : decode cX9_spreads 259 = .ok (.iinc 5 1, 3) := by decide +kernel
theorem dX9_spreads_262 : decode cX9_spreads 262 = .ok (.goto (-31), 3) := by decide +kernel
theorem dX9_spreads_265 : decode cX9_spreads 265 = .ok (.return_, 1) := by decide +kernel
theorem dX9_measuresColumns_0 : decode cX9_measuresColumns 0 = .ok (.iconst 0, 1) := by decide +kernel
theorem dX9_measuresColumns_1 : decode cX9_measuresColumns 1 = .ok (.istore_n 1, 1) := by decide +kernel
theorem dX9_measuresColumns_2 : decode cX9_measuresColumns 2 = .ok (.iload_n 1, 1) := by decide +kernel
theorem dX9_measuresColumns_3 : decode cX9_measuresColumns 3 = .ok (.aload_n 0, 1) := by decide +kernel
theorem dX9_measuresColumns_4 : decode cX9_measuresColumns 4 = .ok (.getfield 9, 3) := by decide +kernel
theorem dX9_measuresColumns_7 : decode cX9_measuresColumns 7 = .ok (.iconst 0, 1) := by decide +kernel
theorem dX9_measuresColumns_8 : decode cX9_measuresColumns 8 = .ok (.iaload, 1) := by decide +kernel
theorem dX9_measuresColumns_9 : decode cX9_measuresColumns 9 = .ok (.if_icmp .ge 186, 3) := by decide +kernel
theorem dX9_measuresColumns_12 : decode cX9_measuresColumns 12 = .ok (.aload_n 0, 1) := by decide +kernel
theorem dX9_measuresColumns_13 : decode cX9_measuresColumns 13 = .ok (.getfield 48, 3) := by decide +kernel
theorem dX9_measuresColumns_16 : decode cX9_measuresColumns 16 = .ok (.iload_n 1, 1) := by decide +kernel
theorem dX9_measuresColumns_17 : decode cX9_measuresColumns 17 = .ok (.iconst 1, 1) := by decide +kernel
theorem dX9_measuresColumns_18 : decode cX9_measuresColumns 18 = .ok (.iastore, 1) := by decide +kernel
theorem dX9_measuresColumns_19 : decode cX9_measuresColumns 19 = .ok (.aload_n 0, 1) := by decide +kernel
theorem dX9_measuresColumns_20 : decode cX9_measuresColumns 20 = .ok (.getfield 51, 3) := by decide +kernel
theorem dX9_measuresColumns_23 : decode cX9_measuresColumns 23 = .ok (.iload_n 1, 1) := by decide +kernel
theorem dX9_measuresColumns_24 : decode cX9_measuresColumns 24 = .ok (.iconst 0, 1) := by decide +kernel
theorem dX9_measuresColumns_25 : decode cX9_measuresColumns 25 = .ok (.iastore, 1) := by decide +kernel
theorem dX9_measuresColumns_26 : decode cX9_measuresColumns 26 = .ok (.iconst 0, 1) := by decide +kernel
theorem dX9_measuresColumns_27 : decode cX9_measuresColumns 27 = .ok (.istore_n 2, 1) := by decide +kernel
theorem dX9_measuresColumns_28 : decode cX9_measuresColumns 28 = .ok (.iload_n 2, 1) := by decide +kernel
theorem dX9_measuresColumns_29 : decode cX9_measuresColumns 29 = .ok (.aload_n 0, 1) := by decide +kernel
theorem dX9_measuresColumns_30 : decode cX9_measuresColumns 30 = .ok (.getfield 9, 3) := by decide +kernel
theorem dX9_measuresColumns_33 : decode cX9_measuresColumns 33 = .ok (.iconst 5, 1) := by decide +kernel
theorem dX9_measuresColumns_34 : decode cX9_measuresColumns 34 = .ok (.iaload, 1) := by decide +kernel
theorem dX9_measuresColumns_35 : decode cX9_measuresColumns 35 = .ok (.if_icmp .ge 101, 3) := by decide +kernel
theorem dX9_measuresColumns_38 : decode cX9_measuresColumns 38 = .ok (.aload_n 0, 1) := by decide +kernel
theorem dX9_measuresColumns_39 : decode cX9_measuresColumns 39 = .ok (.iload_n 2, 1) := by decide +kernel
theorem dX9_measuresColumns_40 : decode cX9_measuresColumns 40 = .ok (.iconst 2, 1) := by decide +kernel
theorem dX9_measuresColumns_41 : decode cX9_measuresColumns 41 = .ok (.invokevirtual 91, 3) := by decide +kernel
theorem dX9_measuresColumns_44 : decode cX9_measuresColumns 44 = .ok (.iconst 1, 1) := by decide +kernel
theorem dX9_measuresColumns_45 : decode cX9_measuresColumns 45 = .ok (.if_icmp .ne 17, 3) := by decide +kernel
theorem dX9_measuresColumns_48 : decode cX9_measuresColumns 48 = .ok (.aload_n 0, 1) := by decide +kernel
theorem dX9_measuresColumns_49 : decode cX9_measuresColumns 49 = .ok (.iload_n 2, 1) := by decide +kernel
theorem dX9_measuresColumns_50 : decode cX9_measuresColumns 50 = .ok (.iconst 1, 1) := by decide +kernel
theorem dX9_measuresColumns_51 : decode cX9_measuresColumns 51 = .ok (.invokevirtual 91, 3) := by decide +kernel
theorem dX9_measuresColumns_54 : decode cX9_measuresColumns 54 = .ok (.iload_n 1, 1) := by decide +kernel
theorem dX9_measuresColumns_55 : decode cX9_measuresColumns 55 = .ok (.if_icmp .ne 7, 3) := by decide +kernel
theorem dX9_measuresColumns_58 : decode cX9_measuresColumns 58 = .ok (.iconst 1, 1) := by decide +kernel
theorem dX9_measuresColumns_59 : decode cX9_measuresColumns 59 = .ok (.goto 4, 3) := by decide +kernel
theorem dX9_measuresColumns_62 : decode cX9_measuresColumns 62 = .ok (.iconst 0, 1) := by decide +kernel
theorem dX9_measuresColumns_63 : decode cX9_measuresColumns 63 = .ok (.istore_n 3, 1) := by decide +kernel
theorem dX9_measuresColumns_64 : decode cX9_measuresColumns 64 = .ok (.aload_n 0, 1) := by decide +kernel
theorem dX9_measuresColumns_65 : decode cX9_measuresColumns 65 = .ok (.getfield 48, 3) := by decide +kernel
theorem dX9_measuresColumns_68 : decode cX9_measuresColumns 68 = .ok (.iload_n 1, 1) := by decide +kernel
theorem dX9_measuresColumns_69 : decode cX9_measuresColumns 69 = .ok (.iload_n 3, 1) := by decide +kernel
theorem dX9_measuresColumns_70 : decode cX9_measuresColumns 70 = .ok (.ifCond .eq 20, 3) := by decide +kernel
theorem dX9_measuresColumns_73 : decode cX9_measuresColumns 73 = .ok (.aload_n 0, 1) := by decide +kernel
theorem dX9_measuresColumns_74 : decode cX9_measuresColumns 74 = .ok (.getfield 48, 3) := by decide +kernel
theorem dX9_measuresColumns_77 : decode cX9_measuresColumns 77 = .ok (.iload_n 1, 1) := by decide +kernel
theorem dX9_measuresColumns_78 : decode cX9_measuresColumns 78 = .ok (.iaload, 1) := by decide +kernel
theorem dX9_measuresColumns_79 : decode cX9_measuresColumns 79 = .ok (.aload_n 0, 1) := by decide +kernel
theorem dX9_measuresColumns_80 : decode cX9_measuresColumns 80 = .ok (.iload_n 2, 1) := by decide +kernel
theorem dX9_measuresColumns_81 : decode cX9_measuresColumns 81 = .ok (.invokevirtual 293, 3) := by decide +kernel
theorem dX9_measuresColumns_84 : decode cX9_measuresColumns 84 = .ok (.invokestatic 277, 3) := by decide +kernel
theorem dX9_measuresColumns_87 : decode cX9_measuresColumns 87 = .ok (.goto 9, 3) := by decide +kernel
theorem dX9_measuresColumns_90 : decode cX9_measuresColumns 90 = .ok (.aload_n 0, 1) := by decide +kernel
theorem dX9_measuresColumns_91 : decode cX9_measuresColumns 91 = .ok (.getfield 48, 3) := by decide +kernel
theorem dX9_measuresColumns_94 : decode cX9_measuresColumns 94 = .ok (.iload_n 1, 1) := by decide +kernel
theorem dX9_measuresColumns_95 : decode cX9_measuresColumns 95 = .ok (.iaload, 1) := by decide +kernel
theorem dX9_measuresColumns_96 : decode cX9_measuresColumns 96 = .ok (.iastore, 1) := by decide +kernel
theorem dX9_measuresColumns_97 : decode cX9_measuresColumns 97 = .ok (.aload_n 0, 1) := by decide +kernel
theorem dX9_measuresColumns_98 : decode cX9_measuresColumns 98 = .ok (.getfield 51, 3) := by decide +kernel
theorem dX9_measuresColumns_101 : decode cX9_measuresColumns 101 = .ok (.iload_n 1, 1) := by decide +kernel
theorem dX9_measuresColumns_102 : decode cX9_measuresColumns 102 = .ok (.iload_n 3, 1) := by decide +kernel
theorem dX9_measuresColumns_103 : decode cX9_measuresColumns 103 = .ok (.ifCond .eq 20, 3) := by decide +kernel
theorem dX9_measuresColumns_106 : decode cX9_measuresColumns 106 = .ok (.aload_n 0, 1) := by decide +kernel
theorem dX9_measuresColumns_107 : decode cX9_measuresColumns 107 = .ok (.getfield 51, 3) := by decide +kernel
theorem dX9_measuresColumns_110 : decode cX9_measuresColumns 110 = .ok (.iload_n 1, 1) := by decide +kernel
theorem dX9_measuresColumns_111 : decode cX9_measuresColumns 111 = .ok (.iaload, 1) := by decide +kernel
theorem dX9_measuresColumns_112 : decode cX9_measuresColumns 112 = .ok (.aload_n 0, 1) := by decide +kernel
theorem dX9_measuresColumns_113 : decode cX9_measuresColumns 113 = .ok (.iload_n 2, 1) := by decide +kernel
theorem dX9_measuresColumns_114 : decode cX9_measuresColumns 114 = .ok (.invokevirtual 296, 3) := by decide +kernel
theorem dX9_measuresColumns_117 : decode cX9_measuresColumns 117 = .ok (.invokestatic 277, 3) := by decide +kernel
theorem dX9_measuresColumns_120 : decode cX9_measuresColumns 120 = .ok (.goto 9, 3) := by decide +kernel
theorem dX9_measuresColumns_123 : decode cX9_measuresColumns 123 = .ok (.aload_n 0, 1) := by decide +kernel
theorem dX9_measuresColumns_124 : decode cX9_measuresColumns 124 = .ok (.getfield 51, 3) := by decide +kernel
theorem dX9_measuresColumns_127 : decode cX9_measuresColumns 127 = .ok (.iload_n 1, 1) := by decide +kernel
theorem dX9_measuresColumns_128 : decode cX9_measuresColumns 128 = .ok (.iaload, 1) := by decide +kernel
theorem dX9_measuresColumns_129 : decode cX9_measuresColumns 129 = .ok (.iastore, 1) := by decide +kernel
theorem dX9_measuresColumns_130 : decode cX9_measuresColumns 130 = .ok (.iinc 2 1, 3) := by decide +kernel
theorem dX9_measuresColumns_133 : decode cX9_measuresColumns 133 = .ok (.goto (-105), 3) := by decide +kernel
theorem dX9_measuresColumns_136 : decode cX9_measuresColumns 136 = .ok (.aload_n 0, 1) := by decide +kernel
theorem dX9_measuresColumns_137 : decode cX9_measuresColumns 137 = .ok (.getfield 51, 3) := by decide +kernel
theorem dX9_measuresColumns_140 : decode cX9_measuresColumns 140 = .ok (.iload_n 1, 1) := by decide +kernel
theorem dX9_measuresColumns_141 : decode cX9_measuresColumns 141 = .ok (.aload_n 0, 1) := by decide +kernel
theorem dX9_measuresColumns_142 : decode cX9_measuresColumns 142 = .ok (.iload_n 1, 1) := by decide +kernel
theorem dX9_measuresColumns_143 : decode cX9_measuresColumns 143 = .ok (.invokevirtual 302, 3) := by decide +kernel
theorem dX9_measuresColumns_146 : decode cX9_measuresColumns 146 = .ok (.ifCond .eq 27, 3) := by decide +kernel
theorem dX9_measuresColumns_149 : decode cX9_measuresColumns 149 = .ok (.aload_n 0, 1) := by decide +kernel
theorem dX9_measuresColumns_150 : decode cX9_measuresColumns 150 = .ok (.getfield 48, 3) := by decide +kernel
theorem dX9_measuresColumns_153 : decode cX9_measuresColumns 153 = .ok (.iload_n 1, 1) := by decide +kernel
theorem dX9_measuresColumns_154 : decode cX9_measuresColumns 154 = .ok (.iaload, 1) := by decide +kernel
theorem dX9_measuresColumns_155 : decode cX9_measuresColumns 155 = .ok (.aload_n 0, 1) := by decide +kernel
theorem dX9_measuresColumns_156 : decode cX9_measuresColumns 156 = .ok (.getfield 9, 3) := by decide +kernel
theorem dX9_measuresColumns_159 : decode cX9_measuresColumns 159 = .ok (.bipush 6, 2) := by decide +kernel
theorem dX9_measuresColumns_161 : decode cX9_measuresColumns 161 = .ok (.iload_n 1, 1) := by decide +kernel
theorem dX9_measuresColumns_162 : decode cX9_measuresColumns 162 = .ok (.iadd, 1) := by decide +kernel
theorem dX9_measuresColumns_163 : decode cX9_measuresColumns 163 = .ok (.iaload, 1) := by decide +kernel
theorem dX9_measuresColumns_164 : decode cX9_measuresColumns 164 = .ok (.bipush 100, 2) := by decide +kernel
theorem dX9_measuresColumns_166 : decode cX9_measuresColumns 166 = .ok (.isub, 1) := by decide +kernel
theorem dX9_measuresColumns_167 : decode cX9_measuresColumns 167 = .ok (.invokestatic 277, 3) := by decide +kernel
theorem dX9_measuresColumns_170 : decode cX9_measuresColumns 170 = .ok (.goto 18, 3) := by decide +kernel
theorem dX9_measuresColumns_173 : decode cX9_measuresColumns 173 = .ok (.aload_n 0, 1) := by decide +kernel
theorem dX9_measuresColumns_174 : decode cX9_measuresColumns 174 = .ok (.getfield 51, 3) := by decide +kernel
theorem dX9_measuresColumns_177 : decode cX9_measuresColumns 177 = .ok (.iload_n 1, 1) := by decide +kernel
theorem dX9_measuresColumns_178 : decode cX9_measuresColumns 178 = .ok (.iaload, 1) := by decide +kernel
theorem dX9_measuresColumns_179 : decode cX9_measuresColumns 179 = .ok (.aload_n 0, 1) := by decide +kernel
theorem dX9_measuresColumns_180 : decode cX9_measuresColumns 180 = .ok (.getfield 48, 3) := by decide +kernel
theorem dX9_measuresColumns_183 : decode cX9_measuresColumns 183 = .ok (.iload_n 1, 1) := by decide +kernel
theorem dX9_measuresColumns_184 : decode cX9_measuresColumns 184 = .ok (.iaload, 1) := by decide +kernel
theorem dX9_measuresColumns_185 : decode cX9_measuresColumns 185 = .ok (.invokestatic 277, 3) := by decide +kernel
theorem dX9_measuresColumns_188 : decode cX9_measuresColumns 188 = .ok (.iastore, 1) := by decide +kernel
theorem dX9_measuresColumns_189 : decode cX9_measuresColumns 189 = .ok (.iinc 1 1, 3) := by decide +kernel
theorem dX9_measuresColumns_192 : decode cX9_measuresColumns 192 = .ok (.goto (-190), 3) := by decide +kernel
theorem dX9_measuresColumns_195 : decode cX9_measuresColumns 195 = .ok (.iconst 2, 1) := by decide +kernel
theorem dX9_measuresColumns_196 : decode cX9_measuresColumns 196 = .ok (.istore_n 1, 1) := by decide +kernel
theorem dX9_measuresColumns_197 : decode cX9_measuresColumns 197 = .ok (.iload_n 1, 1) := by decide +kernel
theorem dX9_measuresColumns_198 : decode cX9_measuresColumns 198 = .ok (.aload_n 0, 1) := by decide +kernel
theorem dX9_measuresColumns_199 : decode cX9_measuresColumns 199 = .ok (.getfield 9, 3) := by decide +kernel
theorem dX9_measuresColumns_202 : decode cX9_measuresColumns 202 = .ok (.iconst 0, 1) := by decide +kernel
theorem dX9_measuresColumns_203 : decode cX9_measuresColumns 203 = .ok (.iaload, 1) := by decide +kernel
theorem dX9_measuresColumns_204 : decode cX9_measuresColumns 204 = .ok (.if_icmp .gt 42, 3) := by decide +kernel
theorem dX9_measuresColumns_207 : decode cX9_measuresColumns 207 = .ok (.iconst 0, 1) := by decide +kernel
theorem dX9_measuresColumns_208 : decode cX9_measuresColumns 208 = .ok (.istore_n 2, 1) := by decide +kernel
theorem dX9_measuresColumns_209 : decode cX9_measuresColumns 209 = .ok (.iload_n 2, 1) := by decide +kernel
theorem dX9_measuresColumns_210 : decode cX9_measuresColumns 210 = .ok (.aload_n 0, 1) := by decide +kernel
theorem dX9_measuresColumns_211 : decode cX9_measuresColumns 211 = .ok (.getfield 9, 3) := by decide +kernel
theorem dX9_measuresColumns_214 : decode cX9_measuresColumns 214 = .ok (.iconst 5, 1) := by decide +kernel
theorem dX9_measuresColumns_215 : decode cX9_measuresColumns 215 = .ok (.iaload, 1) := by decide +kernel
theorem dX9_measuresColumns_216 : decode cX9_measuresColumns 216 = .ok (.if_icmp .ge 24, 3) := by decide +kernel
theorem dX9_measuresColumns_219 : decode cX9_measuresColumns 219 = .ok (.aload_n 0, 1) := by decide +kernel
theorem dX9_measuresColumns_220 : decode cX9_measuresColumns 220 = .ok (.iload_n 2, 1) := by decide +kernel
theorem dX9_measuresColumns_221 : decode cX9_measuresColumns 221 = .ok (.iconst 2, 1) := by decide +kernel
theorem dX9_measuresColumns_222 : decode cX9_measuresColumns 222 = .ok (.invokevirtual 91, 3) := by decide +kernel
theorem dX9_measuresColumns_225 : decode cX9_measuresColumns 225 = .ok (.iload_n 1, 1) := by decide +kernel
theorem dX9_measuresColumns_226 : decode cX9_measuresColumns 226 = .ok (.if_icmp .ne 8, 3) := by decide +kernel
theorem dX9_measuresColumns_229 : decode cX9_measuresColumns 229 = .ok (.aload_n 0, 1) := by decide +kernel
theorem dX9_measuresColumns_230 : decode cX9_measuresColumns 230 = .ok (.iload_n 2, 1) := by decide +kernel
theorem dX9_measuresColumns_231 : decode cX9_measuresColumns 231 = .ok (.invokevirtual 314, 3) := by decide +kernel
theorem dX9_measuresColumns_234 : decode cX9_measuresColumns 234 = .ok (.iinc 2 1, 3) := by decide +kernel
theorem dX9_measuresColumns_237 : decode cX9_measuresColumns 237 = .ok (.goto (-28), 3) := by decide +kernel
theorem dX9_measuresColumns_240 : decode cX9_measuresColumns 240 = .ok (.iinc 1 1, 3) := by decide +kernel
theorem dX9_measuresColumns_243 : decode cX9_measuresColumns 243 = .ok (.goto (-46), 3) := by decide +kernel
theorem dX9_measuresColumns_246 : decode cX9_measuresColumns 246 = .ok (.bipush 100, 2) := by decide +kernel
theorem dX9_measuresColumns_248 : decode cX9_measuresColumns 248 = .ok (.istore_n 1, 1) := by decide +kernel
theorem dX9_measuresColumns_249 : decode cX9_measuresColumns 249 = .ok (.iconst 0, 1) := by decide +kernel
theorem dX9_measuresColumns_250 : decode cX9_measuresColumns 250 = .ok (.istore_n 2, 1) := by decide +kernel
theorem dX9_measuresColumns_251 : decode cX9_measuresColumns 251 = .ok (.iload_n 2, 1) := by decide +kernel
theorem dX9_measuresColumns_252 : decode cX9_measuresColumns 252 = .ok (.aload_n 0, 1) := by decide +kernel
theorem dX9_measuresColumns_253 : decode cX9_measuresColumns 253 = .ok (.getfield 9, 3) := by decide +kernel
theorem dX9_measuresColumns_256 : decode cX9_measuresColumns 256 = .ok (.iconst 0, 1) := by decide +kernel
theorem dX9_measuresColumns_257 : decode cX9_measuresColumns 257 = .ok (.iaload, 1) := by decide +kernel
theorem dX9_measuresColumns_258 : decode cX9_measuresColumns 258 = .ok (.if_icmp .ge 70, 3) := by decide +kernel
theorem dX9_measuresColumns_261 : decode cX9_measuresColumns 261 = .ok (.aload_n 0, 1) := by decide +kernel
theorem dX9_measuresColumns_262 : decode cX9_measuresColumns 262 = .ok (.getfield 54, 3) := by decide +kernel
theorem dX9_measuresColumns_265 : decode cX9_measuresColumns 265 = .ok (.iload_n 2, 1) := by decide +kernel
theorem dX9_measuresColumns_266 : decode cX9_measuresColumns 266 = .ok (.aload_n 0, 1) := by decide +kernel
theorem dX9_measuresColumns_267 : decode cX9_measuresColumns 267 = .ok (.iload_n 2, 1) := by decide +kernel
theorem dX9_measuresColumns_268 : decode cX9_measuresColumns 268 = .ok (.invokevirtual 317, 3) := by decide +kernel
theorem dX9_measuresColumns_271 : decode cX9_measuresColumns 271 = .ok (.ifCond .ne 7, 3) := by decide +kernel
theorem dX9_measuresColumns_274 : decode cX9_measuresColumns 274 = .ok (.iconst 0, 1) := by decide +kernel
theorem dX9_measuresColumns_275 : decode cX9_measuresColumns 275 = .ok (.goto 37, 3) := by decide +kernel
theorem dX9_measuresColumns_278 : decode cX9_measuresColumns 278 = .ok (.aload_n 0, 1) := by decide +kernel
theorem dX9_measuresColumns_279 : decode cX9_measuresColumns 279 = .ok (.getfield 9, 3) := by decide +kernel
theorem dX9_measuresColumns_282 : decode cX9_measuresColumns 282 = .ok (.bipush 6, 2) := by decide +kernel
theorem dX9_measuresColumns_284 : decode cX9_measuresColumns 284 = .ok (.iload_n 2, 1) := by decide +kernel
theorem dX9_measuresColumns_285 : decode cX9_measuresColumns 285 = .ok (.iadd, 1) := by decide +kernel
theorem dX9_measuresColumns_286 : decode cX9_measuresColumns 286 = .ok (.iaload, 1) := by decide +kernel
theorem dX9_measuresColumns_287 : decode cX9_measuresColumns 287 = .ok (.sipush 200, 3) := by decide +kernel
theorem dX9_measuresColumns_290 : decode cX9_measuresColumns 290 = .ok (.isub, 1) := by decide +kernel
theorem dX9_measuresColumns_291 : decode cX9_measuresColumns 291 = .ok (.iload_n 1, 1) := by decide +kernel
theorem dX9_measuresColumns_292 : decode cX9_measuresColumns 292 = .ok (.if_icmp .ge 19, 3) := by decide +kernel
theorem dX9_measuresColumns_295 : decode cX9_measuresColumns 295 = .ok (.aload_n 0, 1) := by decide +kernel
theorem dX9_measuresColumns_296 : decode cX9_measuresColumns 296 = .ok (.getfield 9, 3) := by decide +kernel
theorem dX9_measuresColumns_299 : decode cX9_measuresColumns 299 = .ok (.bipush 6, 2) := by decide +kernel
theorem dX9_measuresColumns_301 : decode cX9_measuresColumns 301 = .ok (.iload_n 2, 1) := by decide +kernel
theorem dX9_measuresColumns_302 : decode cX9_measuresColumns 302 = .ok (.iadd, 1) := by decide +kernel
theorem dX9_measuresColumns_303 : decode cX9_measuresColumns 303 = .ok (.iaload, 1) := by decide +kernel
theorem dX9_measuresColumns_304 : decode cX9_measuresColumns 304 = .ok (.sipush 200, 3) := by decide +kernel
theorem dX9_measuresColumns_307 : decode cX9_measuresColumns 307 = .ok (.isub, 1) := by decide +kernel
theorem dX9_measuresColumns_308 : decode cX9_measuresColumns 308 = .ok (.goto 4, 3) := by decide +kernel
theorem dX9_measuresColumns_311 : decode cX9_measuresColumns 311 = .ok (.iload_n 1, 1) := by decide +kernel
theorem dX9_measuresColumns_312 : decode cX9_measuresColumns 312 = .ok (.iastore, 1) := by decide +kernel
theorem dX9_measuresColumns_313 : decode cX9_measuresColumns 313 = .ok (.iload_n 1, 1) := by decide +kernel
theorem dX9_measuresColumns_314 : decode cX9_measuresColumns 314 = .ok (.aload_n 0, 1) := by decide +kernel
theorem dX9_measuresColumns_315 : decode cX9_measuresColumns 315 = .ok (.getfield 54, 3) := by decide +kernel
theorem dX9_measuresColumns_318 : decode cX9_measuresColumns 318 = .ok (.iload_n 2, 1) := by decide +kernel
theorem dX9_measuresColumns_319 : decode cX9_measuresColumns 319 = .ok (.iaload, 1) := by decide +kernel
theorem dX9_measuresColumns_320 : decode cX9_measuresColumns 320 = .ok (.isub, 1) := by decide +kernel
theorem dX9_measuresColumns_321 : decode cX9_measuresColumns 321 = .ok (.istore_n 1, 1) := by decide +kernel
theorem dX9_measuresColumns_322 : decode cX9_measuresColumns 322 = .ok (.iinc 2 1, 3) := by decide +kernel
theorem dX9_measuresColumns_325 : decode cX9_measuresColumns 325 = .ok (.goto (-74), 3) := by decide +kernel
theorem dX9_measuresColumns_328 : decode cX9_measuresColumns 328 = .ok (.return_, 1) := by decide +kernel
theorem dX9_columnWidth_0 : decode cX9_columnWidth 0 = .ok (.aload_n 0, 1) := by decide +kernel
theorem dX9_columnWidth_1 : decode cX9_columnWidth 1 = .ok (.iconst 0, 1) := by decide +kernel
theorem dX9_columnWidth_2 : decode cX9_columnWidth 2 = .ok (.putfield 84, 3) := by decide +kernel
theorem dX9_columnWidth_5 : decode cX9_columnWidth 5 = .ok (.aload_n 0, 1) := by decide +kernel
theorem dX9_columnWidth_6 : decode cX9_columnWidth 6 = .ok (.iload_n 1, 1) := by decide +kernel
theorem dX9_columnWidth_7 : decode cX9_columnWidth 7 = .ok (.invokevirtual 103, 3) := by decide +kernel
theorem dX9_columnWidth_10 : decode cX9_columnWidth 10 = .ok (.ifCond .ne 9, 3) := by decide +kernel
theorem dX9_columnWidth_13 : decode cX9_columnWidth 13 = .ok (.aload_n 0, 1) := by decide +kernel
theorem dX9_columnWidth_14 : decode cX9_columnWidth 14 = .ok (.iconst 1, 1) := by decide +kernel
theorem dX9_columnWidth_15 : decode cX9_columnWidth 15 = .ok (.invokevirtual 95, 3) := by decide +kernel
theorem dX9_columnWidth_18 : decode cX9_columnWidth 18 = .ok (.ireturn, 1) := by decide +kernel
theorem dX9_columnWidth_19 : decode cX9_columnWidth 19 = .ok (.iload_n 2, 1) := by decide +kernel
theorem dX9_columnWidth_20 : decode cX9_columnWidth 20 = .ok (.iconst 0, 1) := by decide +kernel
theorem dX9_columnWidth_21 : decode cX9_columnWidth 21 = .ok (.iconst 2, 1) := by decide +kernel
theorem dX9_columnWidth_22 : decode cX9_columnWidth 22 = .ok (.invokestatic 87, 3) := by decide +kernel
theorem dX9_columnWidth_25 : decode cX9_columnWidth 25 = .ok (.ifCond .ne 9, 3) := by decide +kernel
theorem dX9_columnWidth_28 : decode cX9_columnWidth 28 = .ok (.aload_n 0, 1) := by decide +kernel
theorem dX9_columnWidth_29 : decode cX9_columnWidth 29 = .ok (.iconst 2, 1) := by decide +kernel
theorem dX9_columnWidth_30 : decode cX9_columnWidth 30 = .ok (.invokevirtual 95, 3) := by decide +kernel
theorem dX9_columnWidth_33 : decode cX9_columnWidth 33 = .ok (.ireturn, 1) := by decide +kernel
theorem dX9_columnWidth_34 : decode cX9_columnWidth 34 = .ok (.aload_n 0, 1) := by decide +kernel
theorem dX9_columnWidth_35 : decode cX9_columnWidth 35 = .ok (.invokevirtual 320, 3) := by decide +kernel
theorem dX9_columnWidth_38 : decode cX9_columnWidth 38 = .ok (.iload_n 2, 1) := by decide +kernel
theorem dX9_columnWidth_39 : decode cX9_columnWidth 39 = .ok (.ifCond .ne 12, 3) := by decide +kernel
theorem dX9_columnWidth_42 : decode cX9_columnWidth 42 = .ok (.aload_n 0, 1) := by decide +kernel
theorem dX9_columnWidth_43 : decode cX9_columnWidth 43 = .ok (.getfield 48, 3) := by decide +kernel
theorem dX9_columnWidth_46 : decode cX9_columnWidth 46 = .ok (.iload_n 1, 1) := by decide +kernel
theorem dX9_columnWidth_47 : decode cX9_columnWidth 47 = .ok (.iaload, 1) := by decide +kernel
theorem dX9_columnWidth_48 : decode cX9_columnWidth 48 = .ok (.goto 23, 3) := by decide +kernel
theorem dX9_columnWidth_51 : decode cX9_columnWidth 51 = .ok (.iload_n 2, 1) := by decide +kernel
theorem dX9_columnWidth_52 : decode cX9_columnWidth 52 = .ok (.iconst 1, 1) := by decide +kernel
theorem dX9_columnWidth_53 : decode cX9_columnWidth 53 = .ok (.if_icmp .ne 12, 3) := by decide +kernel
theorem dX9_columnWidth_56 : decode cX9_columnWidth 56 = .ok (.aload_n 0, 1) := by decide +kernel
theorem dX9_columnWidth_57 : decode cX9_columnWidth 57 = .ok (.getfield 51, 3) := by decide +kernel
theorem dX9_columnWidth_60 : decode cX9_columnWidth 60 = .ok (.iload_n 1, 1) := by decide +kernel
theorem dX9_columnWidth_61 : decode cX9_columnWidth 61 = .ok (.iaload, 1) := by decide +kernel
theorem dX9_columnWidth_62 : decode cX9_columnWidth 62 = .ok (.goto 9, 3) := by decide +kernel
theorem dX9_columnWidth_65 : decode cX9_columnWidth 65 = .ok (.aload_n 0, 1) := by decide +kernel
theorem dX9_columnWidth_66 : decode cX9_columnWidth 66 = .ok (.getfield 54, 3) := by decide +kernel
theorem dX9_columnWidth_69 : decode cX9_columnWidth 69 = .ok (.iload_n 1, 1) := by decide +kernel
theorem dX9_columnWidth_70 : decode cX9_columnWidth 70 = .ok (.iaload, 1) := by decide +kernel
theorem dX9_columnWidth_71 : decode cX9_columnWidth 71 = .ok (.ireturn, 1) := by decide +kernel
theorem dX9_conflicts_0 : decode cX9_conflicts 0 = .ok (.aload_n 0, 1) := by decide +kernel
theorem dX9_conflicts_1 : decode cX9_conflicts 1 = .ok (.iconst 0, 1) := by decide +kernel
theorem dX9_conflicts_2 : decode cX9_conflicts 2 = .ok (.putfield 84, 3) := by decide +kernel
theorem dX9_conflicts_5 : decode cX9_conflicts 5 = .ok (.aload_n 0, 1) := by decide +kernel
theorem dX9_conflicts_6 : decode cX9_conflicts 6 = .ok (.invokevirtual 320, 3) := by decide +kernel
theorem dX9_conflicts_9 : decode cX9_conflicts 9 = .ok (.iconst 0, 1) := by decide +kernel
theorem dX9_conflicts_10 : decode cX9_conflicts 10 = .ok (.istore_n 1, 1) := by decide +kernel
theorem dX9_conflicts_11 : decode cX9_conflicts 11 = .ok (.iconst 0, 1) := by decide +kernel
theorem dX9_conflicts_12 : decode cX9_conflicts 12 = .ok (.istore_n 2, 1) := by decide +kernel
theorem dX9_conflicts_13 : decode cX9_conflicts 13 = .ok (.iload_n 2, 1) := by decide +kernel
theorem dX9_conflicts_14 : decode cX9_conflicts 14 = .ok (.aload_n 0, 1) := by decide +kernel
theorem dX9_conflicts_15 : decode cX9_conflicts 15 = .ok (.getfield 9, 3) := by decide +kernel
theorem dX9_conflicts_18 : decode cX9_conflicts 18 = .ok (.iconst 0, 1) := by decide +kernel
theorem dX9_conflicts_19 : decode cX9_conflicts 19 = .ok (.iaload, 1) := by decide +kernel
theorem dX9_conflicts_20 : decode cX9_conflicts 20 = .ok (.if_icmp .ge 49, 3) := by decide +kernel
theorem dX9_conflicts_23 : decode cX9_conflicts 23 = .ok (.iload_n 1, 1) := by decide +kernel
theorem dX9_conflicts_24 : decode cX9_conflicts 24 = .ok (.aload_n 0, 1) := by decide +kernel
theorem dX9_conflicts_25 : decode cX9_conflicts 25 = .ok (.iload_n 2, 1) := by decide +kernel
theorem dX9_conflicts_26 : decode cX9_conflicts 26 = .ok (.invokevirtual 317, 3) := by decide +kernel
theorem dX9_conflicts_29 : decode cX9_conflicts 29 = .ok (.ifCond .eq 31, 3) := by decide +kernel
theorem dX9_conflicts_32 : decode cX9_conflicts 32 = .ok (.aload_n 0, 1) := by decide +kernel
theorem dX9_conflicts_33 : decode cX9_conflicts 33 = .ok (.getfield 54, 3) := by decide +kernel
theorem dX9_conflicts_36 : decode cX9_conflicts 36 = .ok (.iload_n 2, 1) := by decide +kernel
theorem dX9_conflicts_37 : decode cX9_conflicts 37 = .ok (.iaload, 1) := by decide +kernel
theorem dX9_conflicts_38 : decode cX9_conflicts 38 = .ok (.aload_n 0, 1) := by decide +kernel
theorem dX9_conflicts_39 : decode cX9_conflicts 39 = .ok (.getfield 9, 3) := by decide +kernel
theorem dX9_conflicts_42 : decode cX9_conflicts 42 = .ok (.bipush 6, 2) := by decide +kernel
theorem dX9_conflicts_44 : decode cX9_conflicts 44 = .ok (.iload_n 2, 1) := by decide +kernel
theorem dX9_conflicts_45 : decode cX9_conflicts 45 = .ok (.iadd, 1) := by decide +kernel
theorem dX9_conflicts_46 : decode cX9_conflicts 46 = .ok (.iaload, 1) := by decide +kernel
theorem dX9_conflicts_47 : decode cX9_conflicts 47 = .ok (.sipush 200, 3) := by decide +kernel
theorem dX9_conflicts_50 : decode cX9_conflicts 50 = .ok (.isub, 1) := by decide +kernel
theorem dX9_conflicts_51 : decode cX9_conflicts 51 = .ok (.if_icmp .ge 9, 3) := by decide +kernel
theorem dX9_conflicts_54 : decode cX9_conflicts 54 = .ok (.iconst 1, 1) := by decide +kernel
theorem dX9_conflicts_55 : decode cX9_conflicts 55 = .ok (.iload_n 2, 1) := by decide +kernel
theorem dX9_conflicts_56 : decode cX9_conflicts 56 = .ok (.ishl, 1) := by decide +kernel
theorem dX9_conflicts_57 : decode cX9_conflicts 57 = .ok (.goto 4, 3) := by decide +kernel
theorem dX9_conflicts_60 : decode cX9_conflicts 60 = .ok (.iconst 0, 1) := by decide +kernel
theorem dX9_conflicts_61 : decode cX9_conflicts 61 = .ok (.ior, 1) := by decide +kernel
theorem dX9_conflicts_62 : decode cX9_conflicts 62 = .ok (.istore_n 1, 1) := by decide +kernel
theorem dX9_conflicts_63 : decode cX9_conflicts 63 = .ok (.iinc 2 1, 3) := by decide +kernel
theorem dX9_conflicts_66 : decode cX9_conflicts 66 = .ok (.goto (-53), 3) := by decide +kernel
theorem dX9_conflicts_69 : decode cX9_conflicts 69 = .ok (.iload_n 1, 1) := by decide +kernel
theorem dX9_conflicts_70 : decode cX9_conflicts 70 = .ok (.ireturn, 1) := by decide +kernel
theorem dX9_usable_0 : decode cX9_usable 0 = .ok (.aload_n 0, 1) := by decide +kernel
theorem dX9_usable_1 : decode cX9_usable 1 = .ok (.getfield 9, 3) := by decide +kernel
theorem dX9_usable_4 : decode cX9_usable 4 = .ok (.iconst 1, 1) := by decide +kernel
theorem dX9_usable_5 : decode cX9_usable 5 = .ok (.iaload, 1) := by decide +kernel
theorem dX9_usable_6 : decode cX9_usable 6 = .ok (.aload_n 0, 1) := by decide +kernel
theorem dX9_usable_7 : decode cX9_usable 7 = .ok (.getfield 9, 3) := by decide +kernel
theorem dX9_usable_10 : decode cX9_usable 10 = .ok (.iconst 2, 1) := by decide +kernel
theorem dX9_usable_11 : decode cX9_usable 11 = .ok (.iaload, 1) := by decide +kernel
theorem dX9_usable_12 : decode cX9_usable 12 = .ok (.aload_n 0, 1) := by decide +kernel
theorem dX9_usable_13 : decode cX9_usable 13 = .ok (.getfield 9, 3) := by decide +kernel
theorem dX9_usable_16 : decode cX9_usable 16 = .ok (.iconst 0, 1) := by decide +kernel
theorem dX9_usable_17 : decode cX9_usable 17 = .ok (.iaload, 1) := by decide +kernel
theorem dX9_usable_18 : decode cX9_usable 18 = .ok (.iconst 1, 1) := by decide +kernel
theorem dX9_usable_19 : decode cX9_usable 19 = .ok (.iadd, 1) := by decide +kernel
theorem dX9_usable_20 : decode cX9_usable 20 = .ok (.imul, 1) := by decide +kernel
theorem dX9_usable_21 : decode cX9_usable 21 = .ok (.isub, 1) := by decide +kernel
theorem dX9_usable_22 : decode cX9_usable 22 = .ok (.ireturn, 1) := by decide +kernel
theorem dX9_guessesAll_0 : decode cX9_guessesAll 0 = .ok (.aload_n 0, 1) := by decide +kernel
theorem dX9_guessesAll_1 : decode cX9_guessesAll 1 = .ok (.invokevirtual 320, 3) := by decide +kernel
theorem dX9_guessesAll_4 : decode cX9_guessesAll 4 = .ok (.iconst 0, 1) := by decide +kernel
theorem dX9_guessesAll_5 : decode cX9_guessesAll 5 = .ok (.istore_n 1, 1) := by decide +kernel
theorem dX9_guessesAll_6 : decode cX9_guessesAll 6 = .ok (.iload_n 1, 1) := by decide +kernel
theorem dX9_guessesAll_7 : decode cX9_guessesAll 7 = .ok (.aload_n 0, 1) := by decide +kernel
theorem dX9_guessesAll_8 : decode cX9_guessesAll 8 = .ok (.getfield 9, 3) := by decide +kernel
theorem dX9_guessesAll_11 : decode cX9_guessesAll 11 = .ok (.iconst 0, 1) := by decide +kernel
theorem dX9_guessesAll_12 : decode cX9_guessesAll 12 = .ok (.iaload, 1) := by decide +kernel
theorem dX9_guessesAll_13 : decode cX9_guessesAll 13 = .ok (.if_icmp .ge 153, 3) := by decide +kernel
theorem dX9_guessesAll_16 : decode cX9_guessesAll 16 = .ok (.aload_n 0, 1) := by decide +kernel
theorem dX9_guessesAll_17 : decode cX9_guessesAll 17 = .ok (.getfield 63, 3) := by decide +kernel
theorem dX9_guessesAll_20 : decode cX9_guessesAll 20 = .ok (.iload_n 1, 1) := by decide +kernel
theorem dX9_guessesAll_21 : decode cX9_guessesAll 21 = .ok (.aload_n 0, 1) := by decide +kernel
theorem dX9_guessesAll_22 : decode cX9_guessesAll 22 = .ok (.getfield 48, 3) := by decide +kernel
theorem dX9_guessesAll_25 : decode cX9_guessesAll 25 = .ok (.iload_n 1, 1) := by decide +kernel
theorem dX9_guessesAll_26 : decode cX9_guessesAll 26 = .ok (.iaload, 1) := by decide +kernel
theorem dX9_guessesAll_27 : decode cX9_guessesAll 27 = .ok (.iastore, 1) := by decide +kernel
theorem dX9_guessesAll_28 : decode cX9_guessesAll 28 = .ok (.aload_n 0, 1) := by decide +kernel
theorem dX9_guessesAll_29 : decode cX9_guessesAll 29 = .ok (.getfield 63, 3) := by decide +kernel
theorem dX9_guessesAll_32 : decode cX9_guessesAll 32 = .ok (.iconst 4, 1) := by decide +kernel
theorem dX9_guessesAll_33 : decode cX9_guessesAll 33 = .ok (.iload_n 1, 1) := by decide +kernel
theorem dX9_guessesAll_34 : decode cX9_guessesAll 34 = .ok (.iadd, 1) := by decide +kernel
theorem dX9_guessesAll_35 : decode cX9_guessesAll 35 = .ok (.aload_n 0, 1) := by decide +kernel
theorem dX9_guessesAll_36 : decode cX9_guessesAll 36 = .ok (.iload_n 1, 1) := by decide +kernel
theorem dX9_guessesAll_37 : decode cX9_guessesAll 37 = .ok (.invokevirtual 317, 3) := by decide +kernel
theorem dX9_guessesAll_40 : decode cX9_guessesAll 40 = .ok (.ifCond .eq 29, 3) := by decide +kernel
theorem dX9_guessesAll_43 : decode cX9_guessesAll 43 = .ok (.aload_n 0, 1) := by decide +kernel
theorem dX9_guessesAll_44 : decode cX9_guessesAll 44 = .ok (.getfield 48, 3) := by decide +kernel
theorem dX9_guessesAll_47 : decode cX9_guessesAll 47 = .ok (.iload_n 1, 1) := by decide +kernel
theorem dX9_guessesAll_48 : decode cX9_guessesAll 48 = .ok (.iaload, 1) := by decide +kernel
theorem dX9_guessesAll_49 : decode cX9_guessesAll 49 = .ok (.aload_n 0, 1) := by decide +kernel
theorem dX9_guessesAll_50 : decode cX9_guessesAll 50 = .ok (.invokevirtual 323, 3) := by decide +kernel
theorem dX9_guessesAll_53 : decode cX9_guessesAll 53 = .ok (.aload_n 0, 1) := by decide +kernel
theorem dX9_guessesAll_54 : decode cX9_guessesAll 54 = .ok (.getfield 54, 3) := by decide +kernel
theorem dX9_guessesAll_57 : decode cX9_guessesAll 57 = .ok (.iload_n 1, 1) := by decide +kernel
theorem dX9_guessesAll_58 : decode cX9_guessesAll 58 = .ok (.iaload, 1) := by decide +kernel
theorem dX9_guessesAll_59 : decode cX9_guessesAll 59 = .ok (.imul, 1) := by decide +kernel
theorem dX9_guessesAll_60 : decode cX9_guessesAll 60 = .ok (.bipush 100, 2) := by decide +kernel
theorem dX9_guessesAll_62 : decode cX9_guessesAll 62 = .ok (.idiv, 1) := by decide +kernel
theorem dX9_guessesAll_63 : decode cX9_guessesAll 63 = .ok (.invokestatic 277, 3) := by decide +kernel
theorem dX9_guessesAll_66 : decode cX9_guessesAll 66 = .ok (.goto 9, 3) := by decide +kernel
theorem dX9_guessesAll_69 : decode cX9_guessesAll 69 = .ok (.aload_n 0, 1) := by decide +kernel
theorem dX9_guessesAll_70 : decode cX9_guessesAll 70 = .ok (.getfield 48, 3) := by decide +kernel
theorem dX9_guessesAll_73 : decode cX9_guessesAll 73 = .ok (.iload_n 1, 1) := by decide +kernel
theorem dX9_guessesAll_74 : decode cX9_guessesAll 74 = .ok (.iaload, 1) := by decide +kernel
theorem dX9_guessesAll_75 : decode cX9_guessesAll 75 = .ok (.iastore, 1) := by decide +kernel
theorem dX9_guessesAll_76 : decode cX9_guessesAll 76 = .ok (.aload_n 0, 1) := by decide +kernel
theorem dX9_guessesAll_77 : decode cX9_guessesAll 77 = .ok (.getfield 63, 3) := by decide +kernel
theorem dX9_guessesAll_80 : decode cX9_guessesAll 80 = .ok (.bipush 8, 2) := by decide +kernel
theorem dX9_guessesAll_82 : decode cX9_guessesAll 82 = .ok (.iload_n 1, 1) := by decide +kernel
theorem dX9_guessesAll_83 : decode cX9_guessesAll 83 = .ok (.iadd, 1) := by decide +kernel
theorem dX9_guessesAll_84 : decode cX9_guessesAll 84 = .ok (.aload_n 0, 1) := by decide +kernel
theorem dX9_guessesAll_85 : decode cX9_guessesAll 85 = .ok (.iload_n 1, 1) := by decide +kernel
theorem dX9_guessesAll_86 : decode cX9_guessesAll 86 = .ok (.invokevirtual 302, 3) := by decide +kernel
theorem dX9_guessesAll_89 : decode cX9_guessesAll 89 = .ok (.ifCond .eq 27, 3) := by decide +kernel
theorem dX9_guessesAll_92 : decode cX9_guessesAll 92 = .ok (.aload_n 0, 1) := by decide +kernel
theorem dX9_guessesAll_93 : decode cX9_guessesAll 93 = .ok (.getfield 48, 3) := by decide +kernel
theorem dX9_guessesAll_96 : decode cX9_guessesAll 96 = .ok (.iload_n 1, 1) := by decide +kernel
theorem dX9_guessesAll_97 : decode cX9_guessesAll 97 = .ok (.iaload, 1) := by decide +kernel
theorem dX9_guessesAll_98 : decode cX9_guessesAll 98 = .ok (.aload_n 0, 1) := by decide +kernel
theorem dX9_guessesAll_99 : decode cX9_guessesAll 99 = .ok (.getfield 9, 3) := by decide +kernel
theorem dX9_guessesAll_102 : decode cX9_guessesAll 102 = .ok (.bipush 6, 2) := by decide +kernel
theorem dX9_guessesAll_104 : decode cX9_guessesAll 104 = .ok (.iload_n 1, 1) := by decide +kernel
theorem dX9_guessesAll_105 : decode cX9_guessesAll 105 = .ok (.iadd, 1) := by decide +kernel
theorem dX9_guessesAll_106 : decode cX9_guessesAll 106 = .ok (.iaload, 1) := by decide +kernel
theorem dX9_guessesAll_107 : decode cX9_guessesAll 107 = .ok (.bipush 100, 2) := by decide +kernel
theorem dX9_guessesAll_109 : decode cX9_guessesAll 109 = .ok (.isub, 1) := by decide +kernel
theorem dX9_guessesAll_110 : decode cX9_guessesAll 110 = .ok (.invokestatic 277, 3) := by decide +kernel
theorem dX9_guessesAll_113 : decode cX9_guessesAll 113 = .ok (.goto 11, 3) := by decide +kernel
theorem dX9_guessesAll_116 : decode cX9_guessesAll 116 = .ok (.aload_n 0, 1) := by decide +kernel
theorem dX9_guessesAll_117 : decode cX9_guessesAll 117 = .ok (.getfield 63, 3) := by decide +kernel
theorem dX9_guessesAll_120 : decode cX9_guessesAll 120 = .ok (.iconst 4, 1) := by decide +kernel
theorem dX9_guessesAll_121 : decode cX9_guessesAll 121 = .ok (.iload_n 1, 1) := by decide +kernel
theorem dX9_guessesAll_122 : decode cX9_guessesAll 122 = .ok (.iadd, 1) := by decide +kernel
theorem dX9_guessesAll_123 : decode cX9_guessesAll 123 = .ok (.iaload, 1) := by decide +kernel
theorem dX9_guessesAll_124 : decode cX9_guessesAll 124 = .ok (.iastore, 1) := by decide +kernel
theorem dX9_guessesAll_125 : decode cX9_guessesAll 125 = .ok (.aload_n 0, 1) := by decide +kernel
theorem dX9_guessesAll_126 : decode cX9_guessesAll 126 = .ok (.getfield 63, 3) := by decide +kernel
theorem dX9_guessesAll_129 : decode cX9_guessesAll 129 = .ok (.bipush 12, 2) := by decide +kernel
theorem dX9_guessesAll_131 : decode cX9_guessesAll 131 = .ok (.iload_n 1, 1) := by decide +kernel
theorem dX9_guessesAll_132 : decode cX9_guessesAll 132 = .ok (.iadd, 1) := by decide +kernel
theorem dX9_guessesAll_133 : decode cX9_guessesAll 133 = .ok (.aload_n 0, 1) := by decide +kernel
theorem dX9_guessesAll_134 : decode cX9_guessesAll 134 = .ok (.iload_n 1, 1) := by decide +kernel
theorem dX9_guessesAll_135 : decode cX9_guessesAll 135 = .ok (.invokevirtual 326, 3) := by decide +kernel
theorem dX9_guessesAll_138 : decode cX9_guessesAll 138 = .ok (.ifCond .eq 12, 3) := by decide +kernel
theorem dX9_guessesAll_141 : decode cX9_guessesAll 141 = .ok (.aload_n 0, 1) := by decide +kernel
theorem dX9_guessesAll_142 : decode cX9_guessesAll 142 = .ok (.getfield 51, 3) := by decide +kernel
theorem dX9_guessesAll_145 : decode cX9_guessesAll 145 = .ok (.iload_n 1, 1) := by decide +kernel
theorem dX9_guessesAll_146 : decode cX9_guessesAll 146 = .ok (.iaload, 1) := by decide +kernel
theorem dX9_guessesAll_147 : decode cX9_guessesAll 147 = .ok (.goto 12, 3) := by decide +kernel
theorem dX9_guessesAll_150 : decode cX9_guessesAll 150 = .ok (.aload_n 0, 1) := by decide +kernel
theorem dX9_guessesAll_151 : decode cX9_guessesAll 151 = .ok (.getfield 63, 3) := by decide +kernel
theorem dX9_guessesAll_154 : decode cX9_guessesAll 154 = .ok (.bipush 8, 2) := by decide +kernel
theorem dX9_guessesAll_156 : decode cX9_guessesAll 156 = .ok (.iload_n 1, 1) := by decide +kernel
theorem dX9_guessesAll_157 : decode cX9_guessesAll 157 = .ok (.iadd, 1) := by decide +kernel
theorem dX9_guessesAll_158 : decode cX9_guessesAll 158 = .ok (.iaload, 1) := by decide +kernel
theorem dX9_guessesAll_159 : decode cX9_guessesAll 159 = .ok (.iastore, 1) := by decide +kernel
theorem dX9_guessesAll_160 : decode cX9_guessesAll 160 = .ok (.iinc 1 1, 3) := by decide +kernel
theorem dX9_guessesAll_163 : decode cX9_guessesAll 163 = .ok (.goto (-157), 3) := by decide +kernel
theorem dX9_guessesAll_166 : decode cX9_guessesAll 166 = .ok (.return_, 1) := by decide +kernel
theorem dX9_guessed_0 : decode cX9_guessed 0 = .ok (.iconst 0, 1) := by decide +kernel
theorem dX9_guessed_1 : decode cX9_guessed 1 = .ok (.istore_n 2, 1) := by decide +kernel
theorem dX9_guessed_2 : decode cX9_guessed 2 = .ok (.iconst 0, 1) := by decide +kernel
theorem dX9_guessed_3 : decode cX9_guessed 3 = .ok (.istore_n 3, 1) := by decide +kernel
theorem dX9_guessed_4 : decode cX9_guessed 4 = .ok (.iload_n 3, 1) := by decide +kernel
theorem dX9_guessed_5 : decode cX9_guessed 5 = .ok (.aload_n 0, 1) := by decide +kernel
theorem dX9_guessed_6 : decode cX9_guessed 6 = .ok (.getfield 9, 3) := by decide +kernel
theorem dX9_guessed_9 : decode cX9_guessed 9 = .ok (.iconst 0, 1) := by decide +kernel
theorem dX9_guessed_10 : decode cX9_guessed 10 = .ok (.iaload, 1) := by decide +kernel
theorem dX9_guessed_11 : decode cX9_guessed 11 = .ok (.if_icmp .ge 22, 3) := by decide +kernel
theorem dX9_guessed_14 : decode cX9_guessed 14 = .ok (.iload_n 2, 1) := by decide +kernel
theorem dX9_guessed_15 : decode cX9_guessed 15 = .ok (.aload_n 0, 1) := by decide +kernel
theorem dX9_guessed_16 : decode cX9_guessed 16 = .ok (.getfield 63, 3) := by decide +kernel
theorem dX9_guessed_19 : decode cX9_guessed 19 = .ok (.iconst 4, 1) := by decide +kernel
theorem dX9_guessed_20 : decode cX9_guessed 20 = .ok (.iload_n 1, 1) := by decide +kernel
theorem dX9_guessed_21 : decode cX9_guessed 21 = .ok (.imul, 1) := by decide +kernel
theorem dX9_guessed_22 : decode cX9_guessed 22 = .ok (.iload_n 3, 1) := by decide +kernel
theorem dX9_guessed_23 : decode cX9_guessed 23 = .ok (.iadd, 1) := by decide +kernel
theorem dX9_guessed_24 : decode cX9_guessed 24 = .ok (.iaload, 1) := by decide +kernel
theorem dX9_guessed_25 : decode cX9_guessed 25 = .ok (.iadd, 1) := by decide +kernel
theorem dX9_guessed_26 : decode cX9_guessed 26 = .ok (.istore_n 2, 1) := by decide +kernel
theorem dX9_guessed_27 : decode cX9_guessed 27 = .ok (.iinc 3 1, 3) := by decide +kernel
theorem dX9_guessed_30 : decode cX9_guessed 30 = .ok (.goto (-26), 3) := by decide +kernel
theorem dX9_guessed_33 : decode cX9_guessed 33 = .ok (.iload_n 2, 1) := by decide +kernel
theorem dX9_guessed_34 : decode cX9_guessed 34 = .ok (.ireturn, 1) := by decide +kernel
theorem dX9_guess_0 : decode cX9_guess 0 = .ok (.aload_n 0, 1) := by decide +kernel
theorem dX9_guess_1 : decode cX9_guess 1 = .ok (.iconst 0, 1) := by decide +kernel
theorem dX9_guess_2 : decode cX9_guess 2 = .ok (.putfield 84, 3) := by decide +kernel
theorem dX9_guess_5 : decode cX9_guess 5 = .ok (.iload_n 1, 1) := by decide +kernel
theorem dX9_guess_6 : decode cX9_guess 6 = .ok (.iconst 0, 1) := by decide +kernel
theorem dX9_guess_7 : decode cX9_guess 7 = .ok (.iconst 3, 1) := by decide +kernel
theorem dX9_guess_8 : decode cX9_guess 8 = .ok (.invokestatic 87, 3) := by decide +kernel
theorem dX9_guess_11 : decode cX9_guess 11 = .ok (.ifCond .ne 9, 3) := by decide +kernel
theorem dX9_guess_14 : decode cX9_guess 14 = .ok (.aload_n 0, 1) := by decide +kernel
theorem dX9_guess_15 : decode cX9_guess 15 = .ok (.iconst 1, 1) := by decide +kernel
theorem dX9_guess_16 : decode cX9_guess 16 = .ok (.invokevirtual 95, 3) := by decide +kernel
theorem dX9_guess_19 : decode cX9_guess 19 = .ok (.ireturn, 1) := by decide +kernel
theorem dX9_guess_20 : decode cX9_guess 20 = .ok (.iload_n 2, 1) := by decide +kernel
theorem dX9_guess_21 : decode cX9_guess 21 = .ok (.iconst (-1), 1) := by decide +kernel
theorem dX9_guess_22 : decode cX9_guess 22 = .ok (.if_icmp .eq 17, 3) := by decide +kernel
theorem dX9_guess_25 : decode cX9_guess 25 = .ok (.aload_n 0, 1) := by decide +kernel
theorem dX9_guess_26 : decode cX9_guess 26 = .ok (.iload_n 2, 1) := by decide +kernel
theorem dX9_guess_27 : decode cX9_guess 27 = .ok (.invokevirtual 103, 3) := by decide +kernel
theorem dX9_guess_30 : decode cX9_guess 30 = .ok (.ifCond .ne 9, 3) := by decide +kernel
theorem dX9_guess_33 : decode cX9_guess 33 = .ok (.aload_n 0, 1) := by decide +kernel
theorem dX9_guess_34 : decode cX9_guess 34 = .ok (.iconst 2, 1) := by decide +kernel
theorem dX9_guess_35 : decode cX9_guess 35 = .ok (.invokevirtual 95, 3) := by decide +kernel
theorem dX9_guess_38 : decode cX9_guess 38 = .ok (.ireturn, 1) := by decide +kernel
theorem dX9_guess_39 : decode cX9_guess 39 = .ok (.aload_n 0, 1) := by decide +kernel
theorem dX9_guess_40 : decode cX9_guess 40 = .ok (.invokevirtual 329, 3) := by decide +kernel
theorem dX9_guess_43 : decode cX9_guess 43 = .ok (.iload_n 2, 1) := by decide +kernel
theorem dX9_guess_44 : decode cX9_guess 44 = .ok (.iconst (-1), 1) := by decide +kernel
theorem dX9_guess_45 : decode cX9_guess 45 = .ok (.if_icmp .ne 11, 3) := by decide +kernel
theorem dX9_guess_48 : decode cX9_guess 48 = .ok (.aload_n 0, 1) := by decide +kernel
theorem dX9_guess_49 : decode cX9_guess 49 = .ok (.iload_n 1, 1) := by decide +kernel
theorem dX9_guess_50 : decode cX9_guess 50 = .ok (.invokevirtual 332, 3) := by decide +kernel
theorem dX9_guess_53 : decode cX9_guess 53 = .ok (.goto 13, 3) := by decide +kernel
theorem dX9_guess_56 : decode cX9_guess 56 = .ok (.aload_n 0, 1) := by decide +kernel
theorem dX9_guess_57 : decode cX9_guess 57 = .ok (.getfield 63, 3) := by decide +kernel
theorem dX9_guess_60 : decode cX9_guess 60 = .ok (.iconst 4, 1) := by decide +kernel
theorem dX9_guess_61 : decode cX9_guess 61 = .ok (.iload_n 1, 1) := by decide +kernel
theorem dX9_guess_62 : decode cX9_guess 62 = .ok (.imul, 1) := by decide +kernel
theorem dX9_guess_63 : decode cX9_guess 63 = .ok (.iload_n 2, 1) := by decide +kernel
theorem dX9_guess_64 : decode cX9_guess 64 = .ok (.iadd, 1) := by decide +kernel
theorem dX9_guess_65 : decode cX9_guess 65 = .ok (.iaload, 1) := by decide +kernel
theorem dX9_guess_66 : decode cX9_guess 66 = .ok (.ireturn, 1) := by decide +kernel
theorem dX9_laysOut_0 : decode cX9_laysOut 0 = .ok (.aload_n 0, 1) := by decide +kernel
theorem dX9_laysOut_1 : decode cX9_laysOut 1 = .ok (.invokevirtual 329, 3) := by decide +kernel
theorem dX9_laysOut_4 : decode cX9_laysOut 4 = .ok (.aload_n 0, 1) := by decide +kernel
theorem dX9_laysOut_5 : decode cX9_laysOut 5 = .ok (.invokevirtual 323, 3) := by decide +kernel
theorem dX9_laysOut_8 : decode cX9_laysOut 8 = .ok (.istore_n 1, 1) := by decide +kernel
theorem dX9_laysOut_9 : decode cX9_laysOut 9 = .ok (.iload_n 1, 1) := by decide +kernel
theorem dX9_laysOut_10 : decode cX9_laysOut 10 = .ok (.aload_n 0, 1) := by decide +kernel
theorem dX9_laysOut_11 : decode cX9_laysOut 11 = .ok (.iconst 0, 1) := by decide +kernel
theorem dX9_laysOut_12 : decode cX9_laysOut 12 = .ok (.invokevirtual 332, 3) := by decide +kernel
theorem dX9_laysOut_15 : decode cX9_laysOut 15 = .ok (.if_icmp .ge 5, 3) := by decide +kernel
theorem dX9_laysOut_18 : decode cX9_laysOut 18 = .ok (.iconst 0, 1) := by decide +kernel
theorem dX9_laysOut_19 : decode cX9_laysOut 19 = .ok (.ireturn, 1) := by decide +kernel
theorem dX9_laysOut_20 : decode cX9_laysOut 20 = .ok (.iconst 0, 1) := by decide +kernel
theorem dX9_laysOut_21 : decode cX9_laysOut 21 = .ok (.istore_n 2, 1) := by decide +kernel
theorem dX9_laysOut_22 : decode cX9_laysOut 22 = .ok (.iload_n 2, 1) := by decide +kernel
theorem dX9_laysOut_23 : decode cX9_laysOut 23 = .ok (.iconst 4, 1) := by decide +kernel
theorem dX9_laysOut_24 : decode cX9_laysOut 24 = .ok (.if_icmp .ge 18, 3) := by decide +kernel
theorem dX9_laysOut_27 : decode cX9_laysOut 27 = .ok (.aload_n 0, 1) := by decide +kernel
theorem dX9_laysOut_28 : decode cX9_laysOut 28 = .ok (.iload_n 2, 1) := by decide +kernel
theorem dX9_laysOut_29 : decode cX9_laysOut 29 = .ok (.invokevirtual 332, 3) := by decide +kernel
theorem dX9_laysOut_32 : decode cX9_laysOut 32 = .ok (.iload_n 1, 1) := by decide +kernel
theorem dX9_laysOut_33 : decode cX9_laysOut 33 = .ok (.if_icmp .ge 9, 3) := by decide +kernel
theorem dX9_laysOut_36 : decode cX9_laysOut 36 = .ok (.iinc 2 1, 3) := by decide +kernel
theorem dX9_laysOut_39 : decode cX9_laysOut 39 = .ok (.goto (-17), 3) := by decide +kernel
theorem dX9_laysOut_42 : decode cX9_laysOut 42 = .ok (.iload_n 2, 1) := by decide +kernel
theorem dX9_laysOut_43 : decode cX9_laysOut 43 = .ok (.iconst 4, 1) := by decide +kernel
theorem dX9_laysOut_44 : decode cX9_laysOut 44 = .ok (.if_icmp .ge 16, 3) := by decide +kernel
theorem dX9_laysOut_47 : decode cX9_laysOut 47 = .ok (.aload_n 0, 1) := by decide +kernel
theorem dX9_laysOut_48 : decode cX9_laysOut 48 = .ok (.iload_n 2, 1) := by decide +kernel
theorem dX9_laysOut_49 : decode cX9_laysOut 49 = .ok (.invokevirtual 332, 3) := by decide +kernel
theorem dX9_laysOut_52 : decode cX9_laysOut 52 = .ok (.iload_n 1, 1) := by decide +kernel
theorem dX9_laysOut_53 : decode cX9_laysOut 53 = .ok (.if_icmp .ne 7, 3) := by decide +kernel
theorem dX9_laysOut_56 : decode cX9_laysOut 56 = .ok (.iload_n 2, 1) := by decide +kernel
theorem dX9_laysOut_57 : decode cX9_laysOut 57 = .ok (.goto 6, 3) := by decide +kernel
theorem dX9_laysOut_60 : decode cX9_laysOut 60 = .ok (.iload_n 2, 1) := by decide +kernel
theorem dX9_laysOut_61 : decode cX9_laysOut 61 = .ok (.iconst 1, 1) := by decide +kernel
theorem dX9_laysOut_62 : decode cX9_laysOut 62 = .ok (.isub, 1) := by decide +kernel
theorem dX9_laysOut_63 : decode cX9_laysOut 63 = .ok (.istore_n 3, 1) := by decide +kernel
theorem dX9_laysOut_64 : decode cX9_laysOut 64 = .ok (.bipush 15, 2) := by decide +kernel
theorem dX9_laysOut_66 : decode cX9_laysOut 66 = .ok (.istore 4, 2) := by decide +kernel
theorem dX9_laysOut_68 : decode cX9_laysOut 68 = .ok (.iconst 0, 1) := by decide +kernel
theorem dX9_laysOut_69 : decode cX9_laysOut 69 = .ok (.istore 5, 2) := by decide +kernel
theorem dX9_laysOut_71 : decode cX9_laysOut 71 = .ok (.iload 5, 2) := by decide +kernel
theorem dX9_laysOut_73 : decode cX9_laysOut 73 = .ok (.iconst 4, 1) := by decide +kernel
theorem dX9_laysOut_74 : decode cX9_laysOut 74 = .ok (.if_icmp .ge 59, 3) := by decide +kernel
theorem dX9_laysOut_77 : decode cX9_laysOut 77 = .ok (.aload_n 0, 1) := by decide +kernel
theorem dX9_laysOut_78 : decode cX9_laysOut 78 = .ok (.getfield 57, 3) := by decide +kernel
theorem dX9_laysOut_81 : decode cX9_laysOut 81 = .ok (.iload 5, 2) := by decide +kernel
theorem dX9_laysOut_83 : decode cX9_laysOut 83 = .ok (.iload_n 2, 1) := by decide +kernel
theorem dX9_laysOut_84 : decode cX9_laysOut 84 = .ok (.iconst 4, 1) := by decide +kernel
theorem dX9_laysOut_85 : decode cX9_laysOut 85 = .ok (.if_icmp .ge 40, 3) := by decide +kernel
theorem dX9_laysOut_88 : decode cX9_laysOut 88 = .ok (.iload 5, 2) := by decide +kernel
theorem dX9_laysOut_90 : decode cX9_laysOut 90 = .ok (.aload_n 0, 1) := by decide +kernel
theorem dX9_laysOut_91 : decode cX9_laysOut 91 = .ok (.getfield 9, 3) := by decide +kernel
theorem dX9_laysOut_94 : decode cX9_laysOut 94 = .ok (.iconst 0, 1) := by decide +kernel
theorem dX9_laysOut_95 : decode cX9_laysOut 95 = .ok (.iaload, 1) := by decide +kernel
theorem dX9_laysOut_96 : decode cX9_laysOut 96 = .ok (.if_icmp .ge 29, 3) := by decide +kernel
theorem dX9_laysOut_99 : decode cX9_laysOut 99 = .ok (.aload_n 0, 1) := by decide +kernel
theorem dX9_laysOut_100 : decode cX9_laysOut 100 = .ok (.getfield 63, 3) := by decide +kernel
theorem dX9_laysOut_103 : decode cX9_laysOut 103 = .ok (.iconst 4, 1) := by decide +kernel
theorem dX9_laysOut_104 : decode cX9_laysOut 104 = .ok (.iload_n 2, 1) := by decide +kernel
theorem dX9_laysOut_105 : decode cX9_laysOut 105 = .ok (.imul, 1) := by decide +kernel
theorem dX9_laysOut_106 : decode cX9_laysOut 106 = .ok (.iload 5, 2) := by decide +kernel
theorem dX9_laysOut_108 : decode cX9_laysOut 108 = .ok (.iadd, 1) := by decide +kernel
theorem dX9_laysOut_109 : decode cX9_laysOut 109 = .ok (.iaload, 1) := by decide +kernel
theorem dX9_laysOut_110 : decode cX9_laysOut 110 = .ok (.aload_n 0, 1) := by decide +kernel
theorem dX9_laysOut_111 : decode cX9_laysOut 111 = .ok (.getfield 63, 3) := by decide +kernel
theorem dX9_laysOut_114 : decode cX9_laysOut 114 = .ok (.iconst 4, 1) := by decide +kernel
theorem dX9_laysOut_115 : decode cX9_laysOut 115 = .ok (.iload_n 3, 1) := by decide +kernel
theorem dX9_laysOut_116 : decode cX9_laysOut 116 = .ok (.imul, 1) := by decide +kernel
theorem dX9_laysOut_117 : decode cX9_laysOut 117 = .ok (.iload 5, 2) := by decide +kernel
theorem dX9_laysOut_119 : decode cX9_laysOut 119 = .ok (.iadd, 1) := by decide +kernel
theorem dX9_laysOut_120 : decode cX9_laysOut 120 = .ok (.iaload, 1) := by decide +kernel
theorem dX9_laysOut_121 : decode cX9_laysOut 121 = .ok (.isub, 1) := by decide +kernel
theorem dX9_laysOut_122 : decode cX9_laysOut 122 = .ok (.goto 4, 3) := by decide +kernel
theorem dX9_laysOut_125 : decode cX9_laysOut 125 = .ok (.iconst 0, 1) := by decide +kernel
theorem dX9_laysOut_126 : decode cX9_laysOut 126 = .ok (.iastore, 1) := by decide +kernel
theorem dX9_laysOut_127 : decode cX9_laysOut 127 = .ok (.iinc 5 1, 3) := by decide +kernel
theorem dX9_laysOut_130 : decode cX9_laysOut 130 = .ok (.goto (-59), 3) := by decide +kernel
theorem dX9_laysOut_133 : decode cX9_laysOut 133 = .ok (.iload_n 2, 1) := by decide +kernel
theorem dX9_laysOut_134 : decode cX9_laysOut 134 = .ok (.iconst 4, 1) := by decide +kernel
theorem dX9_laysOut_135 : decode cX9_laysOut 135 = .ok (.if_icmp .ne 9, 3) := by decide +kernel
theorem dX9_laysOut_138 : decode cX9_laysOut 138 = .ok (.aload_n 0, 1) := by decide +kernel
theorem dX9_laysOut_139 : decode cX9_laysOut 139 = .ok (.invokevirtual 335, 3) := by decide +kernel
theorem dX9_laysOut_142 : decode cX9_laysOut 142 = .ok (.istore 4, 2) := by decide +kernel
theorem dX9_laysOut_144 : decode cX9_laysOut 144 = .ok (.aload_n 0, 1) := by decide +kernel
theorem dX9_laysOut_145 : decode cX9_laysOut 145 = .ok (.iload_n 1, 1) := by decide +kernel
theorem dX9_laysOut_146 : decode cX9_laysOut 146 = .ok (.aload_n 0, 1) := by decide +kernel
theorem dX9_laysOut_147 : decode cX9_laysOut 147 = .ok (.iload_n 3, 1) := by decide +kernel
theorem dX9_laysOut_148 : decode cX9_laysOut 148 = .ok (.invokevirtual 332, 3) := by decide +kernel
theorem dX9_laysOut_151 : decode cX9_laysOut 151 = .ok (.isub, 1) := by decide +kernel
theorem dX9_laysOut_152 : decode cX9_laysOut 152 = .ok (.iload 4, 2) := by decide +kernel
theorem dX9_laysOut_154 : decode cX9_laysOut 154 = .ok (.invokevirtual 311, 3) := by decide +kernel
theorem dX9_laysOut_157 : decode cX9_laysOut 157 = .ok (.iconst 0, 1) := by decide +kernel
theorem dX9_laysOut_158 : decode cX9_laysOut 158 = .ok (.istore 5, 2) := by decide +kernel
theorem dX9_laysOut_160 : decode cX9_laysOut 160 = .ok (.iload 5, 2) := by decide +kernel
theorem dX9_laysOut_162 : decode cX9_laysOut 162 = .ok (.aload_n 0, 1) := by decide +kernel
theorem dX9_laysOut_163 : decode cX9_laysOut 163 = .ok (.getfield 9, 3) := by decide +kernel
theorem dX9_laysOut_166 : decode cX9_laysOut 166 = .ok (.iconst 0, 1) := by decide +kernel
theorem dX9_laysOut_167 : decode cX9_laysOut 167 = .ok (.iaload, 1) := by decide +kernel
theorem dX9_laysOut_168 : decode cX9_laysOut 168 = .ok (.if_icmp .ge 35, 3) := by decide +kernel
theorem dX9_laysOut_171 : decode cX9_laysOut 171 = .ok (.aload_n 0, 1) := by decide +kernel
theorem dX9_laysOut_172 : decode cX9_laysOut 172 = .ok (.getfield 66, 3) := by decide +kernel
theorem dX9_laysOut_175 : decode cX9_laysOut 175 = .ok (.iload 5, 2) := by decide +kernel
theorem dX9_laysOut_177 : decode cX9_laysOut 177 = .ok (.aload_n 0, 1) := by decide +kernel
theorem dX9_laysOut_178 : decode cX9_laysOut 178 = .ok (.getfield 63, 3) := by decide +kernel
theorem dX9_laysOut_181 : decode cX9_laysOut 181 = .ok (.iconst 4, 1) := by decide +kernel
theorem dX9_laysOut_182 : decode cX9_laysOut 182 = .ok (.iload_n 3, 1) := by decide +kernel
theorem dX9_laysOut_183 : decode cX9_laysOut 183 = .ok (.imul, 1) := by decide +kernel
theorem dX9_laysOut_184 : decode cX9_laysOut 184 = .ok (.iload 5, 2) := by decide +kernel
theorem dX9_laysOut_186 : decode cX9_laysOut 186 = .ok (.iadd, 1) := by decide +kernel
theorem dX9_laysOut_187 : decode cX9_laysOut 187 = .ok (.iaload, 1) := by decide +kernel
theorem dX9_laysOut_188 : decode cX9_laysOut 188 = .ok (.aload_n 0, 1) := by decide +kernel
theorem dX9_laysOut_189 : decode cX9_laysOut 189 = .ok (.getfield 60, 3) := by decide +kernel
theorem dX9_laysOut_192 : decode cX9_laysOut 192 = .ok (.iload 5, 2) := by decide +kernel
theorem dX9_laysOut_194 : decode cX9_laysOut 194 = .ok (.iaload, 1) := by decide +kernel
theorem dX9_laysOut_195 : decode cX9_laysOut 195 = .ok (.iadd, 1) := by decide +kernel
theorem dX9_laysOut_196 : decode cX9_laysOut 196 = .ok (.iastore, 1) := by decide +kernel
theorem dX9_laysOut_197 : decode cX9_laysOut 197 = .ok (.iinc 5 1, 3) := by decide +kernel
theorem dX9_laysOut_200 : decode cX9_laysOut 200 = .ok (.goto (-40), 3) := by decide +kernel
theorem dX9_laysOut_203 : decode cX9_laysOut 203 = .ok (.iconst 1, 1) := by decide +kernel
theorem dX9_laysOut_204 : decode cX9_laysOut 204 = .ok (.ireturn, 1) := by decide +kernel
theorem dX9_weighsRest_0 : decode cX9_weighsRest 0 = .ok (.iconst 0, 1) := by decide +kernel
theorem dX9_weighsRest_1 : decode cX9_weighsRest 1 = .ok (.istore_n 1, 1) := by decide +kernel
theorem dX9_weighsRest_2 : decode cX9_weighsRest 2 = .ok (.iconst 0, 1) := by decide +kernel
theorem dX9_weighsRest_3 : decode cX9_weighsRest 3 = .ok (.istore_n 2, 1) := by decide +kernel
theorem dX9_weighsRest_4 : decode cX9_weighsRest 4 = .ok (.iconst 0, 1) := by decide +kernel
theorem dX9_weighsRest_5 : decode cX9_weighsRest 5 = .ok (.istore_n 3, 1) := by decide +kernel
theorem dX9_weighsRest_6 : decode cX9_weighsRest 6 = .ok (.iload_n 3, 1) := by decide +kernel
theorem dX9_weighsRest_7 : decode cX9_weighsRest 7 = .ok (.aload_n 0, 1) := by decide +kernel
theorem dX9_weighsRest_8 : decode cX9_weighsRest 8 = .ok (.getfield 9, 3) := by decide +kernel
theorem dX9_weighsRest_11 : decode cX9_weighsRest 11 = .ok (.iconst 0, 1) := by decide +kernel
theorem dX9_weighsRest_12 : decode cX9_weighsRest 12 = .ok (.iaload, 1) := by decide +kernel
theorem dX9_weighsRest_13 : decode cX9_weighsRest 13 = .ok (.if_icmp .ge 45, 3) := by decide +kernel
theorem dX9_weighsRest_16 : decode cX9_weighsRest 16 = .ok (.iload_n 1, 1) := by decide +kernel
theorem dX9_weighsRest_17 : decode cX9_weighsRest 17 = .ok (.aload_n 0, 1) := by decide +kernel
theorem dX9_weighsRest_18 : decode cX9_weighsRest 18 = .ok (.iload_n 3, 1) := by decide +kernel
theorem dX9_weighsRest_19 : decode cX9_weighsRest 19 = .ok (.invokevirtual 326, 3) := by decide +kernel
theorem dX9_weighsRest_22 : decode cX9_weighsRest 22 = .ok (.ifCond .eq 9, 3) := by decide +kernel
theorem dX9_weighsRest_25 : decode cX9_weighsRest 25 = .ok (.iconst 1, 1) := by decide +kernel
theorem dX9_weighsRest_26 : decode cX9_weighsRest 26 = .ok (.iload_n 3, 1) := by decide +kernel
theorem dX9_weighsRest_27 : decode cX9_weighsRest 27 = .ok (.ishl, 1) := by decide +kernel
theorem dX9_weighsRest_28 : decode cX9_weighsRest 28 = .ok (.goto 4, 3) := by decide +kernel
theorem dX9_weighsRest_31 : decode cX9_weighsRest 31 = .ok (.iconst 0, 1) := by decide +kernel
theorem dX9_weighsRest_32 : decode cX9_weighsRest 32 = .ok (.ior, 1) := by decide +kernel
theorem dX9_weighsRest_33 : decode cX9_weighsRest 33 = .ok (.istore_n 1, 1) := by decide +kernel
theorem dX9_weighsRest_34 : decode cX9_weighsRest 34 = .ok (.iload_n 2, 1) := by decide +kernel
theorem dX9_weighsRest_35 : decode cX9_weighsRest 35 = .ok (.aload_n 0, 1) := by decide +kernel
theorem dX9_weighsRest_36 : decode cX9_weighsRest 36 = .ok (.iload_n 3, 1) := by decide +kernel
theorem dX9_weighsRest_37 : decode cX9_weighsRest 37 = .ok (.invokevirtual 302, 3) := by decide +kernel
theorem dX9_weighsRest_40 : decode cX9_weighsRest 40 = .ok (.ifCond .eq 9, 3) := by decide +kernel
theorem dX9_weighsRest_43 : decode cX9_weighsRest 43 = .ok (.iconst 1, 1) := by decide +kernel
theorem dX9_weighsRest_44 : decode cX9_weighsRest 44 = .ok (.iload_n 3, 1) := by decide +kernel
theorem dX9_weighsRest_45 : decode cX9_weighsRest 45 = .ok (.ishl, 1) := by decide +kernel
theorem dX9_weighsRest_46 : decode cX9_weighsRest 46 = .ok (.goto 4, 3) := by decide +kernel
theorem dX9_weighsRest_49 : decode cX9_weighsRest 49 = .ok (.iconst 0, 1) := by decide +kernel
theorem dX9_weighsRest_50 : decode cX9_weighsRest 50 = .ok (.ior, 1) := by decide +kernel
theorem dX9_weighsRest_51 : decode cX9_weighsRest 51 = .ok (.istore_n 2, 1) := by decide +kernel
theorem dX9_weighsRest_52 : decode cX9_weighsRest 52 = .ok (.iinc 3 1, 3) := by decide +kernel
theorem dX9_weighsRest_55 : decode cX9_weighsRest 55 = .ok (.goto (-49), 3) := by decide +kernel
theorem dX9_weighsRest_58 : decode cX9_weighsRest 58 = .ok (.iconst 0, 1) := by decide +kernel
theorem dX9_weighsRest_59 : decode cX9_weighsRest 59 = .ok (.istore_n 3, 1) := by decide +kernel
theorem dX9_weighsRest_60 : decode cX9_weighsRest 60 = .ok (.iload_n 3, 1) := by decide +kernel
theorem dX9_weighsRest_61 : decode cX9_weighsRest 61 = .ok (.aload_n 0, 1) := by decide +kernel
theorem dX9_weighsRest_62 : decode cX9_weighsRest 62 = .ok (.getfield 9, 3) := by decide +kernel
theorem dX9_weighsRest_65 : decode cX9_weighsRest 65 = .ok (.iconst 0, 1) := by decide +kernel
theorem dX9_weighsRest_66 : decode cX9_weighsRest 66 = .ok (.iaload, 1) := by decide +kernel
theorem dX9_weighsRest_67 : decode cX9_weighsRest 67 = .ok (.if_icmp .ge 52, 3) := by decide +kernel
theorem dX9_weighsRest_70 : decode cX9_weighsRest 70 = .ok (.aload_n 0, 1) := by decide +kernel
theorem dX9_weighsRest_71 : decode cX9_weighsRest 71 = .ok (.getfield 57, 3) := by decide +kernel
theorem dX9_weighsRest_74 : decode cX9_weighsRest 74 = .ok (.iload_n 3, 1) := by decide +kernel
theorem dX9_weighsRest_75 : decode cX9_weighsRest 75 = .ok (.iload_n 1, 1) := by decide +kernel
theorem dX9_weighsRest_76 : decode cX9_weighsRest 76 = .ok (.ifCond .le 12, 3) := by decide +kernel
theorem dX9_weighsRest_79 : decode cX9_weighsRest 79 = .ok (.aload_n 0, 1) := by decide +kernel
theorem dX9_weighsRest_80 : decode cX9_weighsRest 80 = .ok (.getfield 51, 3) := by decide +kernel
theorem dX9_weighsRest_83 : decode cX9_weighsRest 83 = .ok (.iload_n 3, 1) := by decide +kernel
theorem dX9_weighsRest_84 : decode cX9_weighsRest 84 = .ok (.iaload, 1) := by decide +kernel
theorem dX9_weighsRest_85 : decode cX9_weighsRest 85 = .ok (.goto 27, 3) := by decide +kernel
theorem dX9_weighsRest_88 : decode cX9_weighsRest 88 = .ok (.iload_n 2, 1) := by decide +kernel
theorem dX9_weighsRest_89 : decode cX9_weighsRest 89 = .ok (.ifCond .le 15, 3) := by decide +kernel
theorem dX9_weighsRest_92 : decode cX9_weighsRest 92 = .ok (.aload_n 0, 1) := by decide +kernel
theorem dX9_weighsRest_93 : decode cX9_weighsRest 93 = .ok (.getfield 63, 3) := by decide +kernel
theorem dX9_weighsRest_96 : decode cX9_weighsRest 96 = .ok (.bipush 12, 2) := by decide +kernel
theorem dX9_weighsRest_98 : decode cX9_weighsRest 98 = .ok (.iload_n 3, 1) := by decide +kernel
theorem dX9_weighsRest_99 : decode cX9_weighsRest 99 = .ok (.iadd, 1) := by decide +kernel
theorem dX9_weighsRest_100 : decode cX9_weighsRest 100 = .ok (.iaload, 1) := by decide +kernel
theorem dX9_weighsRest_101 : decode cX9_weighsRest 101 = .ok (.goto 11, 3) := by decide +kernel
theorem dX9_weighsRest_104 : decode cX9_weighsRest 104 = .ok (.aload_n 0, 1) := by decide +kernel
theorem dX9_weighsRest_105 : decode cX9_weighsRest 105 = .ok (.getfield 54, 3) := by decide +kernel
theorem dX9_weighsRest_108 : decode cX9_weighsRest 108 = .ok (.iload_n 3, 1) := by decide +kernel
theorem dX9_weighsRest_109 : decode cX9_weighsRest 109 = .ok (.iaload, 1) := by decide +kernel
theorem dX9_weighsRest_110 : decode cX9_weighsRest 110 = .ok (.iconst 1, 1) := by decide +kernel
theorem dX9_weighsRest_111 : decode cX9_weighsRest 111 = .ok (.iadd, 1) := by decide +kernel
theorem dX9_weighsRest_112 : decode cX9_weighsRest 112 = .ok (.iastore, 1) := by decide +kernel
theorem dX9_weighsRest_113 : decode cX9_weighsRest 113 = .ok (.iinc 3 1, 3) := by decide +kernel
theorem dX9_weighsRest_116 : decode cX9_weighsRest 116 = .ok (.goto (-56), 3) := by decide +kernel
theorem dX9_weighsRest_119 : decode cX9_weighsRest 119 = .ok (.iload_n 1, 1) := by decide +kernel
theorem dX9_weighsRest_120 : decode cX9_weighsRest 120 = .ok (.ifCond .le 7, 3) := by decide +kernel
theorem dX9_weighsRest_123 : decode cX9_weighsRest 123 = .ok (.iload_n 1, 1) := by decide +kernel
theorem dX9_weighsRest_124 : decode cX9_weighsRest 124 = .ok (.goto 13, 3) := by decide +kernel
theorem dX9_weighsRest_127 : decode cX9_weighsRest 127 = .ok (.iload_n 2, 1) := by decide +kernel
theorem dX9_weighsRest_128 : decode cX9_weighsRest 128 = .ok (.ifCond .le 7, 3) := by decide +kernel
theorem dX9_weighsRest_131 : decode cX9_weighsRest 131 = .ok (.iload_n 2, 1) := by decide +kernel
theorem dX9_weighsRest_132 : decode cX9_weighsRest 132 = .ok (.goto 5, 3) := by decide +kernel
theorem dX9_weighsRest_135 : decode cX9_weighsRest 135 = .ok (.bipush 15, 2) := by decide +kernel
theorem dX9_weighsRest_137 : decode cX9_weighsRest 137 = .ok (.ireturn, 1) := by decide +kernel
theorem dX9_autoWidth_0 : decode cX9_autoWidth 0 = .ok (.aload_n 0, 1) := by decide +kernel
theorem dX9_autoWidth_1 : decode cX9_autoWidth 1 = .ok (.iconst 0, 1) := by decide +kernel
theorem dX9_autoWidth_2 : decode cX9_autoWidth 2 = .ok (.putfield 84, 3) := by decide +kernel
theorem dX9_autoWidth_5 : decode cX9_autoWidth 5 = .ok (.aload_n 0, 1) := by decide +kernel
theorem dX9_autoWidth_6 : decode cX9_autoWidth 6 = .ok (.iload_n 1, 1) := by decide +kernel
theorem dX9_autoWidth_7 : decode cX9_autoWidth 7 = .ok (.invokevirtual 103, 3) := by decide +kernel
theorem dX9_autoWidth_10 : decode cX9_autoWidth 10 = .ok (.ifCond .ne 9, 3) := by decide +kernel
theorem dX9_autoWidth_13 : decode cX9_autoWidth 13 = .ok (.aload_n 0, 1) := by decide +kernel
theorem dX9_autoWidth_14 : decode cX9_autoWidth 14 = .ok (.iconst 1, 1) := by decide +kernel
theorem dX9_autoWidth_15 : decode cX9_autoWidth 15 = .ok (.invokevirtual 95, 3) := by decide +kernel
theorem dX9_autoWidth_18 : decode cX9_autoWidth 18 = .ok (.ireturn, 1) := by decide +kernel
theorem dX9_autoWidth_19 : decode cX9_autoWidth 19 = .ok (.aload_n 0, 1) := by decide +kernel
theorem dX9_autoWidth_20 : decode cX9_autoWidth 20 = .ok (.invokevirtual 338, 3) := by decide +kernel
theorem dX9_autoWidth_23 : decode cX9_autoWidth 23 = .ok (.ifCond .eq 12, 3) := by decide +kernel
theorem dX9_autoWidth_26 : decode cX9_autoWidth 26 = .ok (.aload_n 0, 1) := by decide +kernel
theorem dX9_autoWidth_27 : decode cX9_autoWidth 27 = .ok (.getfield 66, 3) := by decide +kernel
theorem dX9_autoWidth_30 : decode cX9_autoWidth 30 = .ok (.iload_n 1, 1) := by decide +kernel
theorem dX9_autoWidth_31 : decode cX9_autoWidth 31 = .ok (.iaload, 1) := by decide +kernel
theorem dX9_autoWidth_32 : decode cX9_autoWidth 32 = .ok (.goto 8, 3) := by decide +kernel
theorem dX9_autoWidth_35 : decode cX9_autoWidth 35 = .ok (.aload_n 0, 1) := by decide +kernel
theorem dX9_autoWidth_36 : decode cX9_autoWidth 36 = .ok (.iconst 2, 1) := by decide +kernel
theorem dX9_autoWidth_37 : decode cX9_autoWidth 37 = .ok (.invokevirtual 95, 3) := by decide +kernel
theorem dX9_autoWidth_40 : decode cX9_autoWidth 40 = .ok (.ireturn, 1) := by decide +kernel
theorem dX9_reckons_0 : decode cX9_reckons 0 = .ok (.iconst 0, 1) := by decide +kernel
theorem dX9_reckons_1 : decode cX9_reckons 1 = .ok (.istore_n 1, 1) := by decide +kernel
theorem dX9_reckons_2 : decode cX9_reckons 2 = .ok (.iload_n 1, 1) := by decide +kernel
theorem dX9_reckons_3 : decode cX9_reckons 3 = .ok (.aload_n 0, 1) := by decide +kernel
theorem dX9_reckons_4 : decode cX9_reckons 4 = .ok (.getfield 9, 3) := by decide +kernel
theorem dX9_reckons_7 : decode cX9_reckons 7 = .ok (.iconst 5, 1) := by decide +kernel
theorem dX9_reckons_8 : decode cX9_reckons 8 = .ok (.iaload, 1) := by decide +kernel
theorem dX9_reckons_9 : decode cX9_reckons 9 = .ok (.if_icmp .ge 44, 3) := by decide +kernel
theorem dX9_reckons_12 : decode cX9_reckons 12 = .ok (.aload_n 0, 1) := by decide +kernel
theorem dX9_reckons_13 : decode cX9_reckons 13 = .ok (.iload_n 1, 1) := by decide +kernel
theorem dX9_reckons_14 : decode cX9_reckons 14 = .ok (.invokevirtual 293, 3) := by decide +kernel
theorem dX9_reckons_17 : decode cX9_reckons 17 = .ok (.istore_n 2, 1) := by decide +kernel
theorem dX9_reckons_18 : decode cX9_reckons 18 = .ok (.iload_n 2, 1) := by decide +kernel
theorem dX9_reckons_19 : decode cX9_reckons 19 = .ok (.bipush 99, 2) := by decide +kernel
theorem dX9_reckons_21 : decode cX9_reckons 21 = .ok (.if_icmp .gt 26, 3) := by decide +kernel
theorem dX9_reckons_24 : decode cX9_reckons 24 = .ok (.aload_n 0, 1) := by decide +kernel
theorem dX9_reckons_25 : decode cX9_reckons 25 = .ok (.getfield 69, 3) := by decide +kernel
theorem dX9_reckons_28 : decode cX9_reckons 28 = .ok (.bipush 100, 2) := by decide +kernel
theorem dX9_reckons_30 : decode cX9_reckons 30 = .ok (.iload_n 1, 1) := by decide +kernel
theorem dX9_reckons_31 : decode cX9_reckons 31 = .ok (.imul, 1) := by decide +kernel
theorem dX9_reckons_32 : decode cX9_reckons 32 = .ok (.iload_n 2, 1) := by decide +kernel
theorem dX9_reckons_33 : decode cX9_reckons 33 = .ok (.iadd, 1) := by decide +kernel
theorem dX9_reckons_34 : decode cX9_reckons 34 = .ok (.aload_n 0, 1) := by decide +kernel
theorem dX9_reckons_35 : decode cX9_reckons 35 = .ok (.iload_n 1, 1) := by decide +kernel
theorem dX9_reckons_36 : decode cX9_reckons 36 = .ok (.iload_n 2, 1) := by decide +kernel
theorem dX9_reckons_37 : decode cX9_reckons 37 = .ok (.invokevirtual 299, 3) := by decide +kernel
theorem dX9_reckons_40 : decode cX9_reckons 40 = .ok (.iastore, 1) := by decide +kernel
theorem dX9_reckons_41 : decode cX9_reckons 41 = .ok (.iinc 2 1, 3) := by decide +kernel
theorem dX9_reckons_44 : decode cX9_reckons 44 = .ok (.goto (-26), 3) := by decide +kernel
theorem dX9_reckons_47 : decode cX9_reckons 47 = .ok (.iinc 1 1, 3) := by decide +kernel
theorem dX9_reckons_50 : decode cX9_reckons 50 = .ok (.goto (-48), 3) := by decide +kernel
theorem dX9_reckons_53 : decode cX9_reckons 53 = .ok (.return_, 1) := by decide +kernel
theorem dX9_widthOf_0 : decode cX9_widthOf 0 = .ok (.aload_n 0, 1) := by decide +kernel
theorem dX9_widthOf_1 : decode cX9_widthOf 1 = .ok (.getfield 9, 3) := by decide +kernel
theorem dX9_widthOf_4 : decode cX9_widthOf 4 = .ok (.iconst 2, 1) := by decide +kernel
theorem dX9_widthOf_5 : decode cX9_widthOf 5 = .ok (.iaload, 1) := by decide +kernel
theorem dX9_widthOf_6 : decode cX9_widthOf 6 = .ok (.aload_n 0, 1) := by decide +kernel
theorem dX9_widthOf_7 : decode cX9_widthOf 7 = .ok (.iload_n 1, 1) := by decide +kernel
theorem dX9_widthOf_8 : decode cX9_widthOf 8 = .ok (.iconst 2, 1) := by decide +kernel
theorem dX9_widthOf_9 : decode cX9_widthOf 9 = .ok (.invokevirtual 91, 3) := by decide +kernel
theorem dX9_widthOf_12 : decode cX9_widthOf 12 = .ok (.iconst 1, 1) := by decide +kernel
theorem dX9_widthOf_13 : decode cX9_widthOf 13 = .ok (.isub, 1) := by decide +kernel
theorem dX9_widthOf_14 : decode cX9_widthOf 14 = .ok (.imul, 1) := by decide +kernel
theorem dX9_widthOf_15 : decode cX9_widthOf 15 = .ok (.istore_n 3, 1) := by decide +kernel
theorem dX9_widthOf_16 : decode cX9_widthOf 16 = .ok (.aload_n 0, 1) := by decide +kernel
theorem dX9_widthOf_17 : decode cX9_widthOf 17 = .ok (.iload_n 1, 1) := by decide +kernel
theorem dX9_widthOf_18 : decode cX9_widthOf 18 = .ok (.iconst 1, 1) := by decide +kernel
theorem dX9_widthOf_19 : decode cX9_widthOf 19 = .ok (.invokevirtual 91, 3) := by decide +kernel
theorem dX9_widthOf_22 : decode cX9_widthOf 22 = .ok (.istore 4, 2) := by decide +kernel
theorem dX9_widthOf_24 : decode cX9_widthOf 24 = .ok (.iload 4, 2) := by decide +kernel
theorem dX9_widthOf_26 : decode cX9_widthOf 26 = .ok (.aload_n 0, 1) := by decide +kernel
theorem dX9_widthOf_27 : decode cX9_widthOf 27 = .ok (.iload_n 1, 1) := by decide +kernel
theorem dX9_widthOf_28 : decode cX9_widthOf 28 = .ok (.iconst 1, 1) := by decide +kernel
theorem dX9_widthOf_29 : decode cX9_widthOf 29 = .ok (.invokevirtual 91, 3) := by decide +kernel
theorem dX9_widthOf_32 : decode cX9_widthOf 32 = .ok (.aload_n 0, 1) := by decide +kernel
theorem dX9_widthOf_33 : decode cX9_widthOf 33 = .ok (.iload_n 1, 1) := by decide +kernel
theorem dX9_widthOf_34 : decode cX9_widthOf 34 = .ok (.iconst 2, 1) := by decide +kernel
theorem dX9_widthOf_35 : decode cX9_widthOf 35 = .ok (.invokevirtual 91, 3) := by decide +kernel
theorem dX9_widthOf_38 : decode cX9_widthOf 38 = .ok (.iadd, 1) := by decide +kernel
theorem dX9_widthOf_39 : decode cX9_widthOf 39 = .ok (.if_icmp .ge 16, 3) := by decide +kernel
theorem dX9_widthOf_42 : decode cX9_widthOf 42 = .ok (.iload_n 3, 1) := by decide +kernel
theorem dX9_widthOf_43 : decode cX9_widthOf 43 = .ok (.aload_n 2, 1) := by decide +kernel
theorem dX9_widthOf_44 : decode cX9_widthOf 44 = .ok (.iload 4, 2) := by decide +kernel
theorem dX9_widthOf_46 : decode cX9_widthOf 46 = .ok (.iaload, 1) := by decide +kernel
theorem dX9_widthOf_47 : decode cX9_widthOf 47 = .ok (.iadd, 1) := by decide +kernel
theorem dX9_widthOf_48 : decode cX9_widthOf 48 = .ok (.istore_n 3, 1) := by decide +kernel
theorem dX9_widthOf_49 : decode cX9_widthOf 49 = .ok (.iinc 4 1, 3) := by decide +kernel
theorem dX9_widthOf_52 : decode cX9_widthOf 52 = .ok (.goto (-28), 3) := by decide +kernel
theorem dX9_widthOf_55 : decode cX9_widthOf 55 = .ok (.iload_n 3, 1) := by decide +kernel
theorem dX9_widthOf_56 : decode cX9_widthOf 56 = .ok (.ireturn, 1) := by decide +kernel
theorem dX9_rowHigh_0 : decode cX9_rowHigh 0 = .ok (.iconst 0, 1) := by decide +kernel
theorem dX9_rowHigh_1 : decode cX9_rowHigh 1 = .ok (.istore_n 3, 1) := by decide +kernel
theorem dX9_rowHigh_2 : decode cX9_rowHigh 2 = .ok (.iconst 0, 1) := by decide +kernel
theorem dX9_rowHigh_3 : decode cX9_rowHigh 3 = .ok (.istore 4, 2) := by decide +kernel
theorem dX9_rowHigh_5 : decode cX9_rowHigh 5 = .ok (.iload 4, 2) := by decide +kernel
theorem dX9_rowHigh_7 : decode cX9_rowHigh 7 = .ok (.aload_n 0, 1) := by decide +kernel
theorem dX9_rowHigh_8 : decode cX9_rowHigh 8 = .ok (.getfield 9, 3) := by decide +kernel
theorem dX9_rowHigh_11 : decode cX9_rowHigh 11 = .ok (.iconst 5, 1) := by decide +kernel
theorem dX9_rowHigh_12 : decode cX9_rowHigh 12 = .ok (.iaload, 1) := by decide +kernel
theorem dX9_rowHigh_13 : decode cX9_rowHigh 13 = .ok (.if_icmp .ge 42, 3) := by decide +kernel
theorem dX9_rowHigh_16 : decode cX9_rowHigh 16 = .ok (.aload_n 0, 1) := by decide +kernel
theorem dX9_rowHigh_17 : decode cX9_rowHigh 17 = .ok (.iload 4, 2) := by decide +kernel
theorem dX9_rowHigh_19 : decode cX9_rowHigh 19 = .ok (.iconst 0, 1) := by decide +kernel
theorem dX9_rowHigh_20 : decode cX9_rowHigh 20 = .ok (.invokevirtual 91, 3) := by decide +kernel
theorem dX9_rowHigh_23 : decode cX9_rowHigh 23 = .ok (.iload_n 1, 1) := by decide +kernel
theorem dX9_rowHigh_24 : decode cX9_rowHigh 24 = .ok (.if_icmp .ne 23, 3) := by decide +kernel
theorem dX9_rowHigh_27 : decode cX9_rowHigh 27 = .ok (.iload_n 3, 1) := by decide +kernel
theorem dX9_rowHigh_28 : decode cX9_rowHigh 28 = .ok (.aload_n 0, 1) := by decide +kernel
theorem dX9_rowHigh_29 : decode cX9_rowHigh 29 = .ok (.iload 4, 2) := by decide +kernel
theorem dX9_rowHigh_31 : decode cX9_rowHigh 31 = .ok (.aload_n 0, 1) := by decide +kernel
theorem dX9_rowHigh_32 : decode cX9_rowHigh 32 = .ok (.iload 4, 2) := by decide +kernel
theorem dX9_rowHigh_34 : decode cX9_rowHigh 34 = .ok (.aload_n 2, 1) := by decide +kernel
theorem dX9_rowHigh_35 : decode cX9_rowHigh 35 = .ok (.invokevirtual 341, 3) := by decide +kernel
theorem dX9_rowHigh_38 : decode cX9_rowHigh 38 = .ok (.invokevirtual 299, 3) := by decide +kernel
theorem dX9_rowHigh_41 : decode cX9_rowHigh 41 = .ok (.invokestatic 277, 3) := by decide +kernel
theorem dX9_rowHigh_44 : decode cX9_rowHigh 44 = .ok (.goto 4, 3) := by decide +kernel
theorem dX9_rowHigh_47 : decode cX9_rowHigh 47 = .ok (.iload_n 3, 1) := by decide +kernel
theorem dX9_rowHigh_48 : decode cX9_rowHigh 48 = .ok (.istore_n 3, 1) := by decide +kernel
theorem dX9_rowHigh_49 : decode cX9_rowHigh 49 = .ok (.iinc 4 1, 3) := by decide +kernel
theorem dX9_rowHigh_52 : decode cX9_rowHigh 52 = .ok (.goto (-47), 3) := by decide +kernel
theorem dX9_rowHigh_55 : decode cX9_rowHigh 55 = .ok (.iload_n 3, 1) := by decide +kernel
theorem dX9_rowHigh_56 : decode cX9_rowHigh 56 = .ok (.ireturn, 1) := by decide +kernel
theorem dX9_tableHigh_0 : decode cX9_tableHigh 0 = .ok (.aload_n 0, 1) := by decide +kernel
theorem dX9_tableHigh_1 : decode cX9_tableHigh 1 = .ok (.getfield 9, 3) := by decide +kernel
theorem dX9_tableHigh_4 : decode cX9_tableHigh 4 = .ok (.iconst 2, 1) := by decide +kernel
theorem dX9_tableHigh_5 : decode cX9_tableHigh 5 = .ok (.iaload, 1) := by decide +kernel
theorem dX9_tableHigh_6 : decode cX9_tableHigh 6 = .ok (.aload_n 0, 1) := by decide +kernel
theorem dX9_tableHigh_7 : decode cX9_tableHigh 7 = .ok (.getfield 9, 3) := by decide +kernel
theorem dX9_tableHigh_10 : decode cX9_tableHigh 10 = .ok (.iconst 4, 1) := by decide +kernel
theorem dX9_tableHigh_11 : decode cX9_tableHigh 11 = .ok (.iaload, 1) := by decide +kernel
theorem dX9_tableHigh_12 : decode cX9_tableHigh 12 = .ok (.iconst 1, 1) := by decide +kernel
theorem dX9_tableHigh_13 : decode cX9_tableHigh 13 = .ok (.iadd, 1) := by decide +kernel
theorem dX9_tableHigh_14 : decode cX9_tableHigh 14 = .ok (.imul, 1) := by decide +kernel
theorem dX9_tableHigh_15 : decode cX9_tableHigh 15 = .ok (.istore_n 2, 1) := by decide +kernel
theorem dX9_tableHigh_16 : decode cX9_tableHigh 16 = .ok (.iconst 0, 1) := by decide +kernel
theorem dX9_tableHigh_17 : decode cX9_tableHigh 17 = .ok (.istore_n 3, 1) := by decide +kernel
theorem dX9_tableHigh_18 : decode cX9_tableHigh 18 = .ok (.iload_n 3, 1) := by decide +kernel
theorem dX9_tableHigh_19 : decode cX9_tableHigh 19 = .ok (.aload_n 0, 1) := by decide +kernel
theorem dX9_tableHigh_20 : decode cX9_tableHigh 20 = .ok (.getfield 9, 3) := by decide +kernel
theorem dX9_tableHigh_23 : decode cX9_tableHigh 23 = .ok (.iconst 4, 1) := by decide +kernel
theorem dX9_tableHigh_24 : decode cX9_tableHigh 24 = .ok (.iaload, 1) := by decide +kernel
theorem dX9_tableHigh_25 : decode cX9_tableHigh 25 = .ok (.if_icmp .ge 18, 3) := by decide +kernel
theorem dX9_tableHigh_28 : decode cX9_tableHigh 28 = .ok (.iload_n 2, 1) := by decide +kernel
theorem dX9_tableHigh_29 : decode cX9_tableHigh 29 = .ok (.aload_n 0, 1) := by decide +kernel
theorem dX9_tableHigh_30 : decode cX9_tableHigh 30 = .ok (.iload_n 3, 1) := by decide +kernel
theorem dX9_tableHigh_31 : decode cX9_tableHigh 31 = .ok (.aload_n 1, 1) := by decide +kernel
theorem dX9_tableHigh_32 : decode cX9_tableHigh 32 = .ok (.invokevirtual 345, 3) := by decide +kernel
theorem dX9_tableHigh_35 : decode cX9_tableHigh 35 = .ok (.iadd, 1) := by decide +kernel
theorem dX9_tableHigh_36 : decode cX9_tableHigh 36 = .ok (.istore_n 2, 1) := by decide +kernel
theorem dX9_tableHigh_37 : decode cX9_tableHigh 37 = .ok (.iinc 3 1, 3) := by decide +kernel
theorem dX9_tableHigh_40 : decode cX9_tableHigh 40 = .ok (.goto (-22), 3) := by decide +kernel
theorem dX9_tableHigh_43 : decode cX9_tableHigh 43 = .ok (.iload_n 2, 1) := by decide +kernel
theorem dX9_tableHigh_44 : decode cX9_tableHigh 44 = .ok (.ireturn, 1) := by decide +kernel
theorem dX9_tableReckoned_0 : decode cX9_tableReckoned 0 = .ok (.iconst 0, 1) := by decide +kernel
theorem dX9_tableReckoned_1 : decode cX9_tableReckoned 1 = .ok (.istore_n 2, 1) := by decide +kernel
theorem dX9_tableReckoned_2 : decode cX9_tableReckoned 2 = .ok (.iload_n 2, 1) := by decide +kernel
theorem dX9_tableReckoned_3 : decode cX9_tableReckoned 3 = .ok (.bipush 6, 2) := by decide +kernel
theorem dX9_tableReckoned_5 : decode cX9_tableReckoned 5 = .ok (.if_icmp .ge 16, 3) := by decide +kernel
theorem dX9_tableReckoned_8 : decode cX9_tableReckoned 8 = .ok (.aload_n 0, 1) := by decide +kernel
theorem dX9_tableReckoned_9 : decode cX9_tableReckoned 9 = .ok (.getfield 72, 3) := by decide +kernel
theorem dX9_tableReckoned_12 : decode cX9_tableReckoned 12 = .ok (.iload_n 2, 1) := by decide +kernel
theorem dX9_tableReckoned_13 : decode cX9_tableReckoned 13 = .ok (.iconst 0, 1) := by decide +kernel
theorem dX9_tableReckoned_14 : decode cX9_tableReckoned 14 = .ok (.iastore, 1) := by decide +kernel
theorem dX9_tableReckoned_15 : decode cX9_tableReckoned 15 = .ok (.iinc 2 1, 3) := by decide +kernel
theorem dX9_tableReckoned_18 : decode cX9_tableReckoned 18 = .ok (.goto (-16), 3) := by decide +kernel
theorem dX9_tableReckoned_21 : decode cX9_tableReckoned 21 = .ok (.iconst 0, 1) := by decide +kernel
theorem dX9_tableReckoned_22 : decode cX9_tableReckoned 22 = .ok (.istore_n 2, 1) := by decide +kernel
theorem dX9_tableReckoned_23 : decode cX9_tableReckoned 23 = .ok (.iload_n 2, 1) := by decide +kernel
theorem dX9_tableReckoned_24 : decode cX9_tableReckoned 24 = .ok (.aload_n 0, 1) := by decide +kernel
theorem dX9_tableReckoned_25 : decode cX9_tableReckoned 25 = .ok (.getfield 9, 3) := by decide +kernel
theorem dX9_tableReckoned_28 : decode cX9_tableReckoned 28 = .ok (.iconst 5, 1) := by decide +kernel
theorem dX9_tableReckoned_29 : decode cX9_tableReckoned 29 = .ok (.iaload, 1) := by decide +kernel
theorem dX9_tableReckoned_30 : decode cX9_tableReckoned 30 = .ok (.if_icmp .ge 50, 3) := by decide +kernel
theorem dX9_tableReckoned_33 : decode cX9_tableReckoned 33 = .ok (.aload_n 0, 1) := by decide +kernel
theorem dX9_tableReckoned_34 : decode cX9_tableReckoned 34 = .ok (.getfield 72, 3) := by decide +kernel
theorem dX9_tableReckoned_37 : decode cX9_tableReckoned 37 = .ok (.aload_n 0, 1) := by decide +kernel
theorem dX9_tableReckoned_38 : decode cX9_tableReckoned 38 = .ok (.iload_n 2, 1) := by decide +kernel
theorem dX9_tableReckoned_39 : decode cX9_tableReckoned 39 = .ok (.iconst 0, 1) := by decide +kernel
theorem dX9_tableReckoned_40 : decode cX9_tableReckoned 40 = .ok (.invokevirtual 91, 3) := by decide +kernel
theorem dX9_tableReckoned_43 : decode cX9_tableReckoned 43 = .ok (.aload_n 0, 1) := by decide +kernel
theorem dX9_tableReckoned_44 : decode cX9_tableReckoned 44 = .ok (.getfield 72, 3) := by decide +kernel
theorem dX9_tableReckoned_47 : decode cX9_tableReckoned 47 = .ok (.aload_n 0, 1) := by decide +kernel
theorem dX9_tableReckoned_48 : decode cX9_tableReckoned 48 = .ok (.iload_n 2, 1) := by decide +kernel
theorem dX9_tableReckoned_49 : decode cX9_tableReckoned 49 = .ok (.iconst 0, 1) := by decide +kernel
theorem dX9_tableReckoned_50 : decode cX9_tableReckoned 50 = .ok (.invokevirtual 91, 3) := by decide +kernel
theorem dX9_tableReckoned_53 : decode cX9_tableReckoned 53 = .ok (.iaload, 1) := by decide +kernel
theorem dX9_tableReckoned_54 : decode cX9_tableReckoned 54 = .ok (.aload_n 0, 1) := by decide +kernel
theorem dX9_tableReckoned_55 : decode cX9_tableReckoned 55 = .ok (.getfield 69, 3) := by decide +kernel
theorem dX9_tableReckoned_58 : decode cX9_tableReckoned 58 = .ok (.bipush 100, 2) := by decide +kernel
theorem dX9_tableReckoned_60 : decode cX9_tableReckoned 60 = .ok (.iload_n 2, 1) := by decide +kernel
theorem dX9_tableReckoned_61 : decode cX9_tableReckoned 61 = .ok (.imul, 1) := by decide +kernel
theorem dX9_tableReckoned_62 : decode cX9_tableReckoned 62 = .ok (.aload_n 0, 1) := by decide +kernel
theorem dX9_tableReckoned_63 : decode cX9_tableReckoned 63 = .ok (.iload_n 2, 1) := by decide +kernel
theorem dX9_tableReckoned_64 : decode cX9_tableReckoned 64 = .ok (.aload_n 1, 1) := by decide +kernel
theorem dX9_tableReckoned_65 : decode cX9_tableReckoned 65 = .ok (.invokevirtual 341, 3) := by decide +kernel
theorem dX9_tableReckoned_68 : decode cX9_tableReckoned 68 = .ok (.iadd, 1) := by decide +kernel
theorem dX9_tableReckoned_69 : decode cX9_tableReckoned 69 = .ok (.iaload, 1) := by decide +kernel
theorem dX9_tableReckoned_70 : decode cX9_tableReckoned 70 = .ok (.invokestatic 277, 3) := by decide +kernel
theorem dX9_tableReckoned_73 : decode cX9_tableReckoned 73 = .ok (.iastore, 1) := by decide +kernel
theorem dX9_tableReckoned_74 : decode cX9_tableReckoned 74 = .ok (.iinc 2 1, 3) := by decide +kernel
theorem dX9_tableReckoned_77 : decode cX9_tableReckoned 77 = .ok (.goto (-54), 3) := by decide +kernel
theorem dX9_tableReckoned_80 : decode cX9_tableReckoned 80 = .ok (.aload_n 0, 1) := by decide +kernel
theorem dX9_tableReckoned_81 : decode cX9_tableReckoned 81 = .ok (.getfield 9, 3) := by decide +kernel
theorem dX9_tableReckoned_84 : decode cX9_tableReckoned 84 = .ok (.iconst 2, 1) := by decide +kernel
theorem dX9_tableReckoned_85 : decode cX9_tableReckoned 85 = .ok (.iaload, 1) := by decide +kernel
theorem dX9_tableReckoned_86 : decode cX9_tableReckoned 86 = .ok (.aload_n 0, 1) := by decide +kernel
theorem dX9_tableReckoned_87 : decode cX9_tableReckoned 87 = .ok (.getfield 9, 3) := by decide +kernel
theorem dX9_tableReckoned_90 : decode cX9_tableReckoned 90 = .ok (.iconst 4, 1) := by decide +kernel
theorem dX9_tableReckoned_91 : decode cX9_tableReckoned 91 = .ok (.iaload, 1) := by decide +kernel
theorem dX9_tableReckoned_92 : decode cX9_tableReckoned 92 = .ok (.iconst 1, 1) := by decide +kernel
theorem dX9_tableReckoned_93 : decode cX9_tableReckoned 93 = .ok (.iadd, 1) := by decide +kernel
theorem dX9_tableReckoned_94 : decode cX9_tableReckoned 94 = .ok (.imul, 1) := by decide +kernel
theorem dX9_tableReckoned_95 : decode cX9_tableReckoned 95 = .ok (.istore_n 2, 1) := by decide +kernel
theorem dX9_tableReckoned_96 : decode cX9_tableReckoned 96 = .ok (.iconst 0, 1) := by decide +kernel
theorem dX9_tableReckoned_97 : decode cX9_tableReckoned 97 = .ok (.istore_n 3, 1) := by decide +kernel
theorem dX9_tableReckoned_98 : decode cX9_tableReckoned 98 = .ok (.iload_n 3, 1) := by decide +kernel
theorem dX9_tableReckoned_99 : decode cX9_tableReckoned 99 = .ok (.bipush 6, 2) := by decide +kernel
theorem dX9_tableReckoned_101 : decode cX9_tableReckoned 101 = .ok (.if_icmp .ge 18, 3) := by decide +kernel
theorem dX9_tableReckoned_104 : decode cX9_tableReckoned 104 = .ok (.iload_n 2, 1) := by decide +kernel
theorem dX9_tableReckoned_105 : decode cX9_tableReckoned 105 = .ok (.aload_n 0, 1) := by decide +kernel
theorem dX9_tableReckoned_106 : decode cX9_tableReckoned 106 = .ok (.getfield 72, 3) := by decide +kernel
theorem dX9_tableReckoned_109 : decode cX9_tableReckoned 109 = .ok (.iload_n 3, 1) := by decide +kernel
theorem dX9_tableReckoned_110 : decode cX9_tableReckoned 110 = .ok (.iaload, 1) := by decide +kernel
theorem dX9_tableReckoned_111 : decode cX9_tableReckoned 111 = .ok (.iadd, 1) := by decide +kernel
theorem dX9_tableReckoned_112 : decode cX9_tableReckoned 112 = .ok (.istore_n 2, 1) := by decide +kernel
theorem dX9_tableReckoned_113 : decode cX9_tableReckoned 113 = .ok (.iinc 3 1, 3) := by decide +kernel
theorem dX9_tableReckoned_116 : decode cX9_tableReckoned 116 = .ok (.goto (-18), 3) := by decide +kernel
theorem dX9_tableReckoned_119 : decode cX9_tableReckoned 119 = .ok (.iload_n 2, 1) := by decide +kernel
theorem dX9_tableReckoned_120 : decode cX9_tableReckoned 120 = .ok (.ireturn, 1) := by decide +kernel
theorem dX9_autoHeight_0 : decode cX9_autoHeight 0 = .ok (.aload_n 0, 1) := by decide +kernel
theorem dX9_autoHeight_1 : decode cX9_autoHeight 1 = .ok (.iconst 0, 1) := by decide +kernel
theorem dX9_autoHeight_2 : decode cX9_autoHeight 2 = .ok (.putfield 84, 3) := by decide +kernel
theorem dX9_autoHeight_5 : decode cX9_autoHeight 5 = .ok (.aload_n 0, 1) := by decide +kernel
theorem dX9_autoHeight_6 : decode cX9_autoHeight 6 = .ok (.invokevirtual 338, 3) := by decide +kernel
theorem dX9_autoHeight_9 : decode cX9_autoHeight 9 = .ok (.ifCond .eq 14, 3) := by decide +kernel
theorem dX9_autoHeight_12 : decode cX9_autoHeight 12 = .ok (.aload_n 0, 1) := by decide +kernel
theorem dX9_autoHeight_13 : decode cX9_autoHeight 13 = .ok (.aload_n 0, 1) := by decide +kernel
theorem dX9_autoHeight_14 : decode cX9_autoHeight 14 = .ok (.getfield 66, 3) := by decide +kernel
theorem dX9_autoHeight_17 : decode cX9_autoHeight 17 = .ok (.invokevirtual 348, 3) := by decide +kernel
theorem dX9_autoHeight_20 : decode cX9_autoHeight 20 = .ok (.goto 8, 3) := by decide +kernel
theorem dX9_autoHeight_23 : decode cX9_autoHeight 23 = .ok (.aload_n 0, 1) := by decide +kernel
theorem dX9_autoHeight_24 : decode cX9_autoHeight 24 = .ok (.iconst 1, 1) := by decide +kernel
theorem dX9_autoHeight_25 : decode cX9_autoHeight 25 = .ok (.invokevirtual 95, 3) := by decide +kernel
theorem dX9_autoHeight_28 : decode cX9_autoHeight 28 = .ok (.ireturn, 1) := by decide +kernel
theorem dX9_looks_0 : decode cX9_looks 0 = .ok (.iload_n 1, 1) := by decide +kernel
theorem dX9_looks_1 : decode cX9_looks 1 = .ok (.aload_n 0, 1) := by decide +kernel
theorem dX9_looks_2 : decode cX9_looks 2 = .ok (.getfield 9, 3) := by decide +kernel
theorem dX9_looks_5 : decode cX9_looks 5 = .ok (.iconst 0, 1) := by decide +kernel
theorem dX9_looks_6 : decode cX9_looks 6 = .ok (.iaload, 1) := by decide +kernel
theorem dX9_looks_7 : decode cX9_looks 7 = .ok (.if_icmp .ne 68, 3) := by decide +kernel
theorem dX9_looks_10 : decode cX9_looks 10 = .ok (.iload_n 2, 1) := by decide +kernel
theorem dX9_looks_11 : decode cX9_looks 11 = .ok (.ifCond .eq 4, 3) := by decide +kernel
theorem dX9_looks_14 : decode cX9_looks 14 = .ok (.return_, 1) := by decide +kernel
theorem dX9_looks_15 : decode cX9_looks 15 = .ok (.aload_n 0, 1) := by decide +kernel
theorem dX9_looks_16 : decode cX9_looks 16 = .ok (.aload_n 0, 1) := by decide +kernel
theorem dX9_looks_17 : decode cX9_looks 17 = .ok (.getfield 75, 3) := by decide +kernel
theorem dX9_looks_20 : decode cX9_looks 20 = .ok (.invokevirtual 352, 3) := by decide +kernel
theorem dX9_looks_23 : decode cX9_looks 23 = .ok (.istore_n 3, 1) := by decide +kernel
theorem dX9_looks_24 : decode cX9_looks 24 = .ok (.aload_n 0, 1) := by decide +kernel
theorem dX9_looks_25 : decode cX9_looks 25 = .ok (.getfield 355, 3) := by decide +kernel
theorem dX9_looks_28 : decode cX9_looks 28 = .ok (.iconst (-1), 1) := by decide +kernel
theorem dX9_looks_29 : decode cX9_looks 29 = .ok (.if_icmp .eq 11, 3) := by decide +kernel
theorem dX9_looks_32 : decode cX9_looks 32 = .ok (.iload_n 3, 1) := by decide +kernel
theorem dX9_looks_33 : decode cX9_looks 33 = .ok (.aload_n 0, 1) := by decide +kernel
theorem dX9_looks_34 : decode cX9_looks 34 = .ok (.getfield 355, 3) := by decide +kernel
theorem dX9_looks_37 : decode cX9_looks 37 = .ok (.if_icmp .ge 37, 3) := by decide +kernel
theorem dX9_looks_40 : decode cX9_looks 40 = .ok (.aload_n 0, 1) := by decide +kernel
theorem dX9_looks_41 : decode cX9_looks 41 = .ok (.iload_n 3, 1) := by decide +kernel
theorem dX9_looks_42 : decode cX9_looks 42 = .ok (.putfield 355, 3) := by decide +kernel
theorem dX9_looks_45 : decode cX9_looks 45 = .ok (.iconst 0, 1) := by decide +kernel
theorem dX9_looks_46 : decode cX9_looks 46 = .ok (.istore 4, 2) := by decide +kernel
theorem dX9_looks_48 : decode cX9_looks 48 = .ok (.iload 4, 2) := by decide +kernel
theorem dX9_looks_50 : decode cX9_looks 50 = .ok (.iconst 4, 1) := by decide +kernel
theorem dX9_looks_51 : decode cX9_looks 51 = .ok (.if_icmp .ge 23, 3) := by decide +kernel
theorem dX9_looks_54 : decode cX9_looks 54 = .ok (.aload_n 0, 1) := by decide +kernel
theorem dX9_looks_55 : decode cX9_looks 55 = .ok (.getfield 78, 3) := by decide +kernel
theorem dX9_looks_58 : decode cX9_looks 58 = .ok (.iload 4, 2) := by decide +kernel
theorem dX9_looks_60 : decode cX9_looks 60 = .ok (.aload_n 0, 1) := by decide +kernel
theorem dX9_looks_61 : decode cX9_looks 61 = .ok (.getfield 75, 3) := by decide +kernel
theorem dX9_looks_64 : decode cX9_looks 64 = .ok (.iload 4, 2) := by decide +kernel
theorem dX9_looks_66 : decode cX9_looks 66 = .ok (.iaload, 1) := by decide +kernel
theorem dX9_looks_67 : decode cX9_looks 67 = .ok (.iastore, 1) := by decide +kernel
theorem dX9_looks_68 : decode cX9_looks 68 = .ok (.iinc 4 1, 3) := by decide +kernel
theorem dX9_looks_71 : decode cX9_looks 71 = .ok (.goto (-23), 3) := by decide +kernel
theorem dX9_looks_74 : decode cX9_looks 74 = .ok (.return_, 1) := by decide +kernel
theorem dX9_looks_75 : decode cX9_looks 75 = .ok (.aload_n 0, 1) := by decide +kernel
theorem dX9_looks_76 : decode cX9_looks 76 = .ok (.iload_n 1, 1) := by decide +kernel
theorem dX9_looks_77 : decode cX9_looks 77 = .ok (.invokevirtual 302, 3) := by decide +kernel
theorem dX9_looks_80 : decode cX9_looks 80 = .ok (.ifCond .eq 15, 3) := by decide +kernel
theorem dX9_looks_83 : decode cX9_looks 83 = .ok (.aload_n 0, 1) := by decide +kernel
theorem dX9_looks_84 : decode cX9_looks 84 = .ok (.getfield 63, 3) := by decide +kernel
theorem dX9_looks_87 : decode cX9_looks 87 = .ok (.bipush 8, 2) := by decide +kernel
theorem dX9_looks_89 : decode cX9_looks 89 = .ok (.iload_n 1, 1) := by decide +kernel
theorem dX9_looks_90 : decode cX9_looks 90 = .ok (.iadd, 1) := by decide +kernel
theorem dX9_looks_91 : decode cX9_looks 91 = .ok (.iaload, 1) := by decide +kernel
theorem dX9_looks_92 : decode cX9_looks 92 = .ok (.goto 9, 3) := by decide +kernel
theorem dX9_looks_95 : decode cX9_looks 95 = .ok (.aload_n 0, 1) := by decide +kernel
theorem dX9_looks_96 : decode cX9_looks 96 = .ok (.getfield 48, 3) := by decide +kernel
theorem dX9_looks_99 : decode cX9_looks 99 = .ok (.iload_n 1, 1) := by decide +kernel
theorem dX9_looks_100 : decode cX9_looks 100 = .ok (.iaload, 1) := by decide +kernel
theorem dX9_looks_101 : decode cX9_looks 101 = .ok (.istore_n 3, 1) := by decide +kernel
theorem dX9_looks_102 : decode cX9_looks 102 = .ok (.aload_n 0, 1) := by decide +kernel
theorem dX9_looks_103 : decode cX9_looks 103 = .ok (.iload_n 1, 1) := by decide +kernel
theorem dX9_looks_104 : decode cX9_looks 104 = .ok (.invokevirtual 302, 3) := by decide +kernel
theorem dX9_looks_107 : decode cX9_looks 107 = .ok (.ifCond .eq 7, 3) := by decide +kernel
theorem dX9_looks_110 : decode cX9_looks 110 = .ok (.iload_n 3, 1) := by decide +kernel
theorem dX9_looks_111 : decode cX9_looks 111 = .ok (.goto 4, 3) := by decide +kernel
theorem dX9_looks_114 : decode cX9_looks 114 = .ok (.iload_n 2, 1) := by decide +kernel
theorem dX9_looks_115 : decode cX9_looks 115 = .ok (.istore 4, 2) := by decide +kernel
theorem dX9_looks_117 : decode cX9_looks 117 = .ok (.iload_n 3, 1) := by decide +kernel
theorem dX9_looks_118 : decode cX9_looks 118 = .ok (.istore 5, 2) := by decide +kernel
theorem dX9_looks_120 : decode cX9_looks 120 = .ok (.iload 5, 2) := by decide +kernel
theorem dX9_looks_122 : decode cX9_looks 122 = .ok (.iload 4, 2) := by decide +kernel
theorem dX9_looks_124 : decode cX9_looks 124 = .ok (.if_icmp .gt 34, 3) := by decide +kernel
theorem dX9_looks_127 : decode cX9_looks 127 = .ok (.iload 5, 2) := by decide +kernel
theorem dX9_looks_129 : decode cX9_looks 129 = .ok (.iload_n 2, 1) := by decide +kernel
theorem dX9_looks_130 : decode cX9_looks 130 = .ok (.if_icmp .gt 28, 3) := by decide +kernel
theorem dX9_looks_133 : decode cX9_looks 133 = .ok (.aload_n 0, 1) := by decide +kernel
theorem dX9_looks_134 : decode cX9_looks 134 = .ok (.getfield 75, 3) := by decide +kernel
theorem dX9_looks_137 : decode cX9_looks 137 = .ok (.iload_n 1, 1) := by decide +kernel
theorem dX9_looks_138 : decode cX9_looks 138 = .ok (.iload 5, 2) := by decide +kernel
theorem dX9_looks_140 : decode cX9_looks 140 = .ok (.iastore, 1) := by decide +kernel
theorem dX9_looks_141 : decode cX9_looks 141 = .ok (.aload_n 0, 1) := by decide +kernel
theorem dX9_looks_142 : decode cX9_looks 142 = .ok (.iload_n 1, 1) := by decide +kernel
theorem dX9_looks_143 : decode cX9_looks 143 = .ok (.iconst 1, 1) := by decide +kernel
theorem dX9_looks_144 : decode cX9_looks 144 = .ok (.iadd, 1) := by decide +kernel
theorem dX9_looks_145 : decode cX9_looks 145 = .ok (.iload_n 2, 1) := by decide +kernel
theorem dX9_looks_146 : decode cX9_looks 146 = .ok (.iload 5, 2) := by decide +kernel
theorem dX9_looks_148 : decode cX9_looks 148 = .ok (.isub, 1) := by decide +kernel
theorem dX9_looks_149 : decode cX9_looks 149 = .ok (.invokevirtual 358, 3) := by decide +kernel
theorem dX9_looks_152 : decode cX9_looks 152 = .ok (.iinc 5 1, 3) := by decide +kernel
theorem dX9_looks_155 : decode cX9_looks 155 = .ok (.goto (-35), 3) := by decide +kernel
theorem dX9_looks_158 : decode cX9_looks 158 = .ok (.return_, 1) := by decide +kernel
theorem dX9_finds_0 : decode cX9_finds 0 = .ok (.aload_n 0, 1) := by decide +kernel
theorem dX9_finds_1 : decode cX9_finds 1 = .ok (.invokevirtual 329, 3) := by decide +kernel
theorem dX9_finds_4 : decode cX9_finds 4 = .ok (.aload_n 0, 1) := by decide +kernel
theorem dX9_finds_5 : decode cX9_finds 5 = .ok (.iconst (-1), 1) := by decide +kernel
theorem dX9_finds_6 : decode cX9_finds 6 = .ok (.putfield 355, 3) := by decide +kernel
theorem dX9_finds_9 : decode cX9_finds 9 = .ok (.aload_n 0, 1) := by decide +kernel
theorem dX9_finds_10 : decode cX9_finds 10 = .ok (.iconst 0, 1) := by decide +kernel
theorem dX9_finds_11 : decode cX9_finds 11 = .ok (.aload_n 0, 1) := by decide +kernel
theorem dX9_finds_12 : decode cX9_finds 12 = .ok (.invokevirtual 323, 3) := by decide +kernel
theorem dX9_finds_15 : decode cX9_finds 15 = .ok (.invokevirtual 358, 3) := by decide +kernel
theorem dX9_finds_18 : decode cX9_finds 18 = .ok (.aload_n 0, 1) := by decide +kernel
theorem dX9_finds_19 : decode cX9_finds 19 = .ok (.getfield 355, 3) := by decide +kernel
theorem dX9_finds_22 : decode cX9_finds 22 = .ok (.iconst (-1), 1) := by decide +kernel
theorem dX9_finds_23 : decode cX9_finds 23 = .ok (.if_icmp .eq 7, 3) := by decide +kernel
theorem dX9_finds_26 : decode cX9_finds 26 = .ok (.iconst 1, 1) := by decide +kernel
theorem dX9_finds_27 : decode cX9_finds 27 = .ok (.goto 4, 3) := by decide +kernel
theorem dX9_finds_30 : decode cX9_finds 30 = .ok (.iconst 0, 1) := by decide +kernel
theorem dX9_finds_31 : decode cX9_finds 31 = .ok (.ireturn, 1) := by decide +kernel
theorem dX9_isBest_0 : decode cX9_isBest 0 = .ok (.aload_n 0, 1) := by decide +kernel
theorem dX9_isBest_1 : decode cX9_isBest 1 = .ok (.invokevirtual 361, 3) := by decide +kernel
theorem dX9_isBest_4 : decode cX9_isBest 4 = .ok (.aload_n 0, 1) := by decide +kernel
theorem dX9_isBest_5 : decode cX9_isBest 5 = .ok (.invokevirtual 364, 3) := by decide +kernel
theorem dX9_isBest_8 : decode cX9_isBest 8 = .ok (.ireturn, 1) := by decide +kernel
theorem dX9_bestWidth_0 : decode cX9_bestWidth 0 = .ok (.aload_n 0, 1) := by decide +kernel
theorem dX9_bestWidth_1 : decode cX9_bestWidth 1 = .ok (.iconst 0, 1) := by decide +kernel
theorem dX9_bestWidth_2 : decode cX9_bestWidth 2 = .ok (.putfield 84, 3) := by decide +kernel
theorem dX9_bestWidth_5 : decode cX9_bestWidth 5 = .ok (.aload_n 0, 1) := by decide +kernel
theorem dX9_bestWidth_6 : decode cX9_bestWidth 6 = .ok (.iload_n 1, 1) := by decide +kernel
theorem dX9_bestWidth_7 : decode cX9_bestWidth 7 = .ok (.invokevirtual 103, 3) := by decide +kernel
theorem dX9_bestWidth_10 : decode cX9_bestWidth 10 = .ok (.ifCond .ne 9, 3) := by decide +kernel
theorem dX9_bestWidth_13 : decode cX9_bestWidth 13 = .ok (.aload_n 0, 1) := by decide +kernel
theorem dX9_bestWidth_14 : decode cX9_bestWidth 14 = .ok (.iconst 1, 1) := by decide +kernel
theorem dX9_bestWidth_15 : decode cX9_bestWidth 15 = .ok (.invokevirtual 95, 3) := by decide +kernel
theorem dX9_bestWidth_18 : decode cX9_bestWidth 18 = .ok (.ireturn, 1) := by decide +kernel
theorem dX9_bestWidth_19 : decode cX9_bestWidth 19 = .ok (.aload_n 0, 1) := by decide +kernel
theorem dX9_bestWidth_20 : decode cX9_bestWidth 20 = .ok (.invokevirtual 367, 3) := by decide +kernel
theorem dX9_bestWidth_23 : decode cX9_bestWidth 23 = .ok (.ifCond .eq 12, 3) := by decide +kernel
theorem dX9_bestWidth_26 : decode cX9_bestWidth 26 = .ok (.aload_n 0, 1) := by decide +kernel
theorem dX9_bestWidth_27 : decode cX9_bestWidth 27 = .ok (.getfield 78, 3) := by decide +kernel
theorem dX9_bestWidth_30 : decode cX9_bestWidth 30 = .ok (.iload_n 1, 1) := by decide +kernel
theorem dX9_bestWidth_31 : decode cX9_bestWidth 31 = .ok (.iaload, 1) := by decide +kernel
theorem dX9_bestWidth_32 : decode cX9_bestWidth 32 = .ok (.goto 8, 3) := by decide +kernel
theorem dX9_bestWidth_35 : decode cX9_bestWidth 35 = .ok (.aload_n 0, 1) := by decide +kernel
theorem dX9_bestWidth_36 : decode cX9_bestWidth 36 = .ok (.iconst 2, 1) := by decide +kernel
theorem dX9_bestWidth_37 : decode cX9_bestWidth 37 = .ok (.invokevirtual 95, 3) := by decide +kernel
theorem dX9_bestWidth_40 : decode cX9_bestWidth 40 = .ok (.ireturn, 1) := by decide +kernel
theorem dX9_bestHeight_0 : decode cX9_bestHeight 0 = .ok (.aload_n 0, 1) := by decide +kernel
theorem dX9_bestHeight_1 : decode cX9_bestHeight 1 = .ok (.iconst 0, 1) := by decide +kernel
theorem dX9_bestHeight_2 : decode cX9_bestHeight 2 = .ok (.putfield 84, 3) := by decide +kernel
theorem dX9_bestHeight_5 : decode cX9_bestHeight 5 = .ok (.aload_n 0, 1) := by decide +kernel
theorem dX9_bestHeight_6 : decode cX9_bestHeight 6 = .ok (.invokevirtual 367, 3) := by decide +kernel
theorem dX9_bestHeight_9 : decode cX9_bestHeight 9 = .ok (.ifCond .eq 10, 3) := by decide +kernel
theorem dX9_bestHeight_12 : decode cX9_bestHeight 12 = .ok (.aload_n 0, 1) := by decide +kernel
theorem dX9_bestHeight_13 : decode cX9_bestHeight 13 = .ok (.getfield 355, 3) := by decide +kernel
theorem dX9_bestHeight_16 : decode cX9_bestHeight 16 = .ok (.goto 8, 3) := by decide +kernel
theorem dX9_bestHeight_19 : decode cX9_bestHeight 19 = .ok (.aload_n 0, 1) := by decide +kernel
theorem dX9_bestHeight_20 : decode cX9_bestHeight 20 = .ok (.iconst 1, 1) := by decide +kernel
theorem dX9_bestHeight_21 : decode cX9_bestHeight 21 = .ok (.invokevirtual 95, 3) := by decide +kernel
theorem dX9_bestHeight_24 : decode cX9_bestHeight 24 = .ok (.ireturn, 1) := by decide +kernel
theorem dX9_rowHeight_0 : decode cX9_rowHeight 0 = .ok (.aload_n 0, 1) := by decide +kernel
theorem dX9_rowHeight_1 : decode cX9_rowHeight 1 = .ok (.iconst 0, 1) := by decide +kernel
theorem dX9_rowHeight_2 : decode cX9_rowHeight 2 = .ok (.putfield 84, 3) := by decide +kernel
theorem dX9_rowHeight_5 : decode cX9_rowHeight 5 = .ok (.aload_n 0, 1) := by decide +kernel
theorem dX9_rowHeight_6 : decode cX9_rowHeight 6 = .ok (.iload_n 1, 1) := by decide +kernel
theorem dX9_rowHeight_7 : decode cX9_rowHeight 7 = .ok (.invokevirtual 110, 3) := by decide +kernel
theorem dX9_rowHeight_10 : decode cX9_rowHeight 10 = .ok (.ifCond .ne 9, 3) := by decide +kernel
theorem dX9_rowHeight_13 : decode cX9_rowHeight 13 = .ok (.aload_n 0, 1) := by decide +kernel
theorem dX9_rowHeight_14 : decode cX9_rowHeight 14 = .ok (.iconst 1, 1) := by decide +kernel
theorem dX9_rowHeight_15 : decode cX9_rowHeight 15 = .ok (.invokevirtual 95, 3) := by decide +kernel
theorem dX9_rowHeight_18 : decode cX9_rowHeight 18 = .ok (.ireturn, 1) := by decide +kernel
theorem dX9_rowHeight_19 : decode cX9_rowHeight 19 = .ok (.iload_n 2, 1) := by decide +kernel
theorem dX9_rowHeight_20 : decode cX9_rowHeight 20 = .ok (.ifCond .eq 13, 3) := by decide +kernel
theorem dX9_rowHeight_23 : decode cX9_rowHeight 23 = .ok (.aload_n 0, 1) := by decide +kernel
theorem dX9_rowHeight_24 : decode cX9_rowHeight 24 = .ok (.invokevirtual 367, 3) := by decide +kernel
theorem dX9_rowHeight_27 : decode cX9_rowHeight 27 = .ok (.ifCond .ne 19, 3) := by decide +kernel
theorem dX9_rowHeight_30 : decode cX9_rowHeight 30 = .ok (.goto 10, 3) := by decide +kernel
theorem dX9_rowHeight_33 : decode cX9_rowHeight 33 = .ok (.aload_n 0, 1) := by decide +kernel
theorem dX9_rowHeight_34 : decode cX9_rowHeight 34 = .ok (.invokevirtual 338, 3) := by decide +kernel
theorem dX9_rowHeight_37 : decode cX9_rowHeight 37 = .ok (.ifCond .ne 9, 3) := by decide +kernel
theorem dX9_rowHeight_40 : decode cX9_rowHeight 40 = .ok (.aload_n 0, 1) := by decide +kernel
theorem dX9_rowHeight_41 : decode cX9_rowHeight 41 = .ok (.iconst 2, 1) := by decide +kernel
theorem dX9_rowHeight_42 : decode cX9_rowHeight 42 = .ok (.invokevirtual 95, 3) := by decide +kernel
theorem dX9_rowHeight_45 : decode cX9_rowHeight 45 = .ok (.ireturn, 1) := by decide +kernel
theorem dX9_rowHeight_46 : decode cX9_rowHeight 46 = .ok (.aload_n 0, 1) := by decide +kernel
theorem dX9_rowHeight_47 : decode cX9_rowHeight 47 = .ok (.iload_n 1, 1) := by decide +kernel
theorem dX9_rowHeight_48 : decode cX9_rowHeight 48 = .ok (.iload_n 2, 1) := by decide +kernel
theorem dX9_rowHeight_49 : decode cX9_rowHeight 49 = .ok (.ifCond .eq 10, 3) := by decide +kernel
theorem dX9_rowHeight_52 : decode cX9_rowHeight 52 = .ok (.aload_n 0, 1) := by decide +kernel
theorem dX9_rowHeight_53 : decode cX9_rowHeight 53 = .ok (.getfield 78, 3) := by decide +kernel
theorem dX9_rowHeight_56 : decode cX9_rowHeight 56 = .ok (.goto 7, 3) := by decide +kernel
theorem dX9_rowHeight_59 : decode cX9_rowHeight 59 = .ok (.aload_n 0, 1) := by decide +kernel
theorem dX9_rowHeight_60 : decode cX9_rowHeight 60 = .ok (.getfield 66, 3) := by decide +kernel
theorem dX9_rowHeight_63 : decode cX9_rowHeight 63 = .ok (.invokevirtual 345, 3) := by decide +kernel
theorem dX9_rowHeight_66 : decode cX9_rowHeight 66 = .ok (.ireturn, 1) := by decide +kernel
theorem dX9_tallest_0 : decode cX9_tallest 0 = .ok (.aload_n 0, 1) := by decide +kernel
theorem dX9_tallest_1 : decode cX9_tallest 1 = .ok (.iconst 0, 1) := by decide +kernel
theorem dX9_tallest_2 : decode cX9_tallest 2 = .ok (.putfield 84, 3) := by decide +kernel
theorem dX9_tallest_5 : decode cX9_tallest 5 = .ok (.aload_n 0, 1) := by decide +kernel
theorem dX9_tallest_6 : decode cX9_tallest 6 = .ok (.iload_n 1, 1) := by decide +kernel
theorem dX9_tallest_7 : decode cX9_tallest 7 = .ok (.invokevirtual 110, 3) := by decide +kernel
theorem dX9_tallest_10 : decode cX9_tallest 10 = .ok (.ifCond .ne 9, 3) := by decide +kernel
theorem dX9_tallest_13 : decode cX9_tallest 13 = .ok (.aload_n 0, 1) := by decide +kernel
theorem dX9_tallest_14 : decode cX9_tallest 14 = .ok (.iconst 1, 1) := by decide +kernel
theorem dX9_tallest_15 : decode cX9_tallest 15 = .ok (.invokevirtual 95, 3) := by decide +kernel
theorem dX9_tallest_18 : decode cX9_tallest 18 = .ok (.ireturn, 1) := by decide +kernel
theorem dX9_tallest_19 : decode cX9_tallest 19 = .ok (.aload_n 0, 1) := by decide +kernel
theorem dX9_tallest_20 : decode cX9_tallest 20 = .ok (.invokevirtual 367, 3) := by decide +kernel
theorem dX9_tallest_23 : decode cX9_tallest 23 = .ok (.ifCond .ne 9, 3) := by decide +kernel
theorem dX9_tallest_26 : decode cX9_tallest 26 = .ok (.aload_n 0, 1) := by decide +kernel
theorem dX9_tallest_27 : decode cX9_tallest 27 = .ok (.iconst 2, 1) := by decide +kernel
theorem dX9_tallest_28 : decode cX9_tallest 28 = .ok (.invokevirtual 95, 3) := by decide +kernel
theorem dX9_tallest_31 : decode cX9_tallest 31 = .ok (.ireturn, 1) := by decide +kernel
theorem dX9_tallest_32 : decode cX9_tallest 32 = .ok (.iconst (-1), 1) := by decide +kernel
theorem dX9_tallest_33 : decode cX9_tallest 33 = .ok (.istore_n 2, 1) := by decide +kernel
theorem dX9_tallest_34 : decode cX9_tallest 34 = .ok (.aload_n 0, 1) := by decide +kernel
theorem dX9_tallest_35 : decode cX9_tallest 35 = .ok (.getfield 9, 3) := by decide +kernel
theorem dX9_tallest_38 : decode cX9_tallest 38 = .ok (.iconst 5, 1) := by decide +kernel
theorem dX9_tallest_39 : decode cX9_tallest 39 = .ok (.iaload, 1) := by decide +kernel
theorem dX9_tallest_40 : decode cX9_tallest 40 = .ok (.iconst 1, 1) := by decide +kernel
theorem dX9_tallest_41 : decode cX9_tallest 41 = .ok (.isub, 1) := by decide +kernel
theorem dX9_tallest_42 : decode cX9_tallest 42 = .ok (.istore_n 3, 1) := by decide +kernel
theorem dX9_tallest_43 : decode cX9_tallest 43 = .ok (.iload_n 3, 1) := by decide +kernel
theorem dX9_tallest_44 : decode cX9_tallest 44 = .ok (.ifCond .lt 63, 3) := by decide +kernel
theorem dX9_tallest_47 : decode cX9_tallest 47 = .ok (.aload_n 0, 1) := by decide +kernel
theorem dX9_tallest_48 : decode cX9_tallest 48 = .ok (.iload_n 3, 1) := by decide +kernel
theorem dX9_tallest_49 : decode cX9_tallest 49 = .ok (.iconst 0, 1) := by decide +kernel
theorem dX9_tallest_50 : decode cX9_tallest 50 = .ok (.invokevirtual 91, 3) := by decide +kernel
theorem dX9_tallest_53 : decode cX9_tallest 53 = .ok (.iload_n 1, 1) := by decide +kernel
theorem dX9_tallest_54 : decode cX9_tallest 54 = .ok (.if_icmp .ne 33, 3) := by decide +kernel
theorem dX9_tallest_57 : decode cX9_tallest 57 = .ok (.aload_n 0, 1) := by decide +kernel
theorem dX9_tallest_58 : decode cX9_tallest 58 = .ok (.iload_n 3, 1) := by decide +kernel
theorem dX9_tallest_59 : decode cX9_tallest 59 = .ok (.aload_n 0, 1) := by decide +kernel
theorem dX9_tallest_60 : decode cX9_tallest 60 = .ok (.iload_n 3, 1) := by decide +kernel
theorem dX9_tallest_61 : decode cX9_tallest 61 = .ok (.aload_n 0, 1) := by decide +kernel
theorem dX9_tallest_62 : decode cX9_tallest 62 = .ok (.getfield 78, 3) := by decide +kernel
theorem dX9_tallest_65 : decode cX9_tallest 65 = .ok (.invokevirtual 341, 3) := by decide +kernel
theorem dX9_tallest_68 : decode cX9_tallest 68 = .ok (.invokevirtual 299, 3) := by decide +kernel
theorem dX9_tallest_71 : decode cX9_tallest 71 = .ok (.aload_n 0, 1) := by decide +kernel
theorem dX9_tallest_72 : decode cX9_tallest 72 = .ok (.iload_n 1, 1) := by decide +kernel
theorem dX9_tallest_73 : decode cX9_tallest 73 = .ok (.aload_n 0, 1) := by decide +kernel
theorem dX9_tallest_74 : decode cX9_tallest 74 = .ok (.getfield 78, 3) := by decide +kernel
theorem dX9_tallest_77 : decode cX9_tallest 77 = .ok (.invokevirtual 345, 3) := by decide +kernel
theorem dX9_tallest_80 : decode cX9_tallest 80 = .ok (.if_icmp .ne 7, 3) := by decide +kernel
theorem dX9_tallest_83 : decode cX9_tallest 83 = .ok (.iconst 1, 1) := by decide +kernel
theorem dX9_tallest_84 : decode cX9_tallest 84 = .ok (.goto 4, 3) := by decide +kernel
theorem dX9_tallest_87 : decode cX9_tallest 87 = .ok (.iconst 0, 1) := by decide +kernel
theorem dX9_tallest_88 : decode cX9_tallest 88 = .ok (.istore 4, 2) := by decide +kernel
theorem dX9_tallest_90 : decode cX9_tallest 90 = .ok (.iload 4, 2) := by decide +kernel
theorem dX9_tallest_92 : decode cX9_tallest 92 = .ok (.ifCond .eq 7, 3) := by decide +kernel
theorem dX9_tallest_95 : decode cX9_tallest 95 = .ok (.iload_n 3, 1) := by decide +kernel
theorem dX9_tallest_96 : decode cX9_tallest 96 = .ok (.goto 4, 3) := by decide +kernel
theorem dX9_tallest_99 : decode cX9_tallest 99 = .ok (.iload_n 2, 1) := by decide +kernel
theorem dX9_tallest_100 : decode cX9_tallest 100 = .ok (.istore_n 2, 1) := by decide +kernel
theorem dX9_tallest_101 : decode cX9_tallest 101 = .ok (.iinc 3 (-1), 3) := by decide +kernel
theorem dX9_tallest_104 : decode cX9_tallest 104 = .ok (.goto (-61), 3) := by decide +kernel
theorem dX9_tallest_107 : decode cX9_tallest 107 = .ok (.iload_n 2, 1) := by decide +kernel
theorem dX9_tallest_108 : decode cX9_tallest 108 = .ok (.iconst (-1), 1) := by decide +kernel
theorem dX9_tallest_109 : decode cX9_tallest 109 = .ok (.if_icmp .ne 11, 3) := by decide +kernel
theorem dX9_tallest_112 : decode cX9_tallest 112 = .ok (.aload_n 0, 1) := by decide +kernel
theorem dX9_tallest_113 : decode cX9_tallest 113 = .ok (.iconst 3, 1) := by decide +kernel
theorem dX9_tallest_114 : decode cX9_tallest 114 = .ok (.invokevirtual 95, 3) := by decide +kernel
theorem dX9_tallest_117 : decode cX9_tallest 117 = .ok (.goto 4, 3) := by decide +kernel
theorem dX9_tallest_120 : decode cX9_tallest 120 = .ok (.iload_n 2, 1) := by decide +kernel
theorem dX9_tallest_121 : decode cX9_tallest 121 = .ok (.ireturn, 1) := by decide +kernel
theorem dX9_heightFor_0 : decode cX9_heightFor 0 = .ok (.aload_n 0, 1) := by decide +kernel
theorem dX9_heightFor_1 : decode cX9_heightFor 1 = .ok (.iconst 0, 1) := by decide +kernel
theorem dX9_heightFor_2 : decode cX9_heightFor 2 = .ok (.putfield 84, 3) := by decide +kernel
theorem dX9_heightFor_5 : decode cX9_heightFor 5 = .ok (.aload_n 0, 1) := by decide +kernel
theorem dX9_heightFor_6 : decode cX9_heightFor 6 = .ok (.getfield 81, 3) := by decide +kernel
theorem dX9_heightFor_9 : decode cX9_heightFor 9 = .ok (.iconst 0, 1) := by decide +kernel
theorem dX9_heightFor_10 : decode cX9_heightFor 10 = .ok (.iload_n 1, 1) := by decide +kernel
theorem dX9_heightFor_11 : decode cX9_heightFor 11 = .ok (.iastore, 1) := by decide +kernel
theorem dX9_heightFor_12 : decode cX9_heightFor 12 = .ok (.aload_n 0, 1) := by decide +kernel
theorem dX9_heightFor_13 : decode cX9_heightFor 13 = .ok (.getfield 81, 3) := by decide +kernel
theorem dX9_heightFor_16 : decode cX9_heightFor 16 = .ok (.iconst 1, 1) := by decide +kernel
theorem dX9_heightFor_17 : decode cX9_heightFor 17 = .ok (.iload_n 2, 1) := by decide +kernel
theorem dX9_heightFor_18 : decode cX9_heightFor 18 = .ok (.iastore, 1) := by decide +kernel
theorem dX9_heightFor_19 : decode cX9_heightFor 19 = .ok (.aload_n 0, 1) := by decide +kernel
theorem dX9_heightFor_20 : decode cX9_heightFor 20 = .ok (.getfield 81, 3) := by decide +kernel
theorem dX9_heightFor_23 : decode cX9_heightFor 23 = .ok (.iconst 2, 1) := by decide +kernel
theorem dX9_heightFor_24 : decode cX9_heightFor 24 = .ok (.iload_n 3, 1) := by decide +kernel
theorem dX9_heightFor_25 : decode cX9_heightFor 25 = .ok (.iastore, 1) := by decide +kernel
theorem dX9_heightFor_26 : decode cX9_heightFor 26 = .ok (.aload_n 0, 1) := by decide +kernel
theorem dX9_heightFor_27 : decode cX9_heightFor 27 = .ok (.getfield 81, 3) := by decide +kernel
theorem dX9_heightFor_30 : decode cX9_heightFor 30 = .ok (.iconst 3, 1) := by decide +kernel
theorem dX9_heightFor_31 : decode cX9_heightFor 31 = .ok (.iload 4, 2) := by decide +kernel
theorem dX9_heightFor_33 : decode cX9_heightFor 33 = .ok (.iastore, 1) := by decide +kernel
theorem dX9_heightFor_34 : decode cX9_heightFor 34 = .ok (.aload_n 0, 1) := by decide +kernel
theorem dX9_heightFor_35 : decode cX9_heightFor 35 = .ok (.invokevirtual 320, 3) := by decide +kernel
theorem dX9_heightFor_38 : decode cX9_heightFor 38 = .ok (.iconst 0, 1) := by decide +kernel
theorem dX9_heightFor_39 : decode cX9_heightFor 39 = .ok (.istore 5, 2) := by decide +kernel
theorem dX9_heightFor_41 : decode cX9_heightFor 41 = .ok (.iload 5, 2) := by decide +kernel
theorem dX9_heightFor_43 : decode cX9_heightFor 43 = .ok (.aload_n 0, 1) := by decide +kernel
theorem dX9_heightFor_44 : decode cX9_heightFor 44 = .ok (.getfield 9, 3) := by decide +kernel
theorem dX9_heightFor_47 : decode cX9_heightFor 47 = .ok (.iconst 0, 1) := by decide +kernel
theorem dX9_heightFor_48 : decode cX9_heightFor 48 = .ok (.iaload, 1) := by decide +kernel
theorem dX9_heightFor_49 : decode cX9_heightFor 49 = .ok (.if_icmp .ge 37, 3) := by decide +kernel
theorem dX9_heightFor_52 : decode cX9_heightFor 52 = .ok (.aload_n 0, 1) := by decide +kernel
theorem dX9_heightFor_53 : decode cX9_heightFor 53 = .ok (.getfield 81, 3) := by decide +kernel
theorem dX9_heightFor_56 : decode cX9_heightFor 56 = .ok (.iload 5, 2) := by decide +kernel
theorem dX9_heightFor_58 : decode cX9_heightFor 58 = .ok (.iaload, 1) := by decide +kernel
theorem dX9_heightFor_59 : decode cX9_heightFor 59 = .ok (.aload_n 0, 1) := by decide +kernel
theorem dX9_heightFor_60 : decode cX9_heightFor 60 = .ok (.getfield 48, 3) := by decide +kernel
theorem dX9_heightFor_63 : decode cX9_heightFor 63 = .ok (.iload 5, 2) := by decide +kernel
theorem dX9_heightFor_65 : decode cX9_heightFor 65 = .ok (.iaload, 1) := by decide +kernel
theorem dX9_heightFor_66 : decode cX9_heightFor 66 = .ok (.bipush 36, 2) := by decide +kernel
theorem dX9_heightFor_68 : decode cX9_heightFor 68 = .ok (.invokestatic 87, 3) := by decide +kernel
theorem dX9_heightFor_71 : decode cX9_heightFor 71 = .ok (.ifCond .ne 9, 3) := by decide +kernel
theorem dX9_heightFor_74 : decode cX9_heightFor 74 = .ok (.aload_n 0, 1) := by decide +kernel
theorem dX9_heightFor_75 : decode cX9_heightFor 75 = .ok (.iconst 1, 1) := by decide +kernel
theorem dX9_heightFor_76 : decode cX9_heightFor 76 = .ok (.invokevirtual 95, 3) := by decide +kernel
theorem dX9_heightFor_79 : decode cX9_heightFor 79 = .ok (.ireturn, 1) := by decide +kernel
theorem dX9_heightFor_80 : decode cX9_heightFor 80 = .ok (.iinc 5 1, 3) := by decide +kernel
theorem dX9_heightFor_83 : decode cX9_heightFor 83 = .ok (.goto (-42), 3) := by decide +kernel
theorem dX9_heightFor_86 : decode cX9_heightFor 86 = .ok (.aload_n 0, 1) := by decide +kernel
theorem dX9_heightFor_87 : decode cX9_heightFor 87 = .ok (.aload_n 0, 1) := by decide +kernel
theorem dX9_heightFor_88 : decode cX9_heightFor 88 = .ok (.getfield 81, 3) := by decide +kernel
theorem dX9_heightFor_91 : decode cX9_heightFor 91 = .ok (.invokevirtual 348, 3) := by decide +kernel
theorem dX9_heightFor_94 : decode cX9_heightFor 94 = .ok (.ireturn, 1) := by decide +kernel
theorem dX9_highAt_0 : decode cX9_highAt 0 = .ok (.aload_n 0, 1) := by decide +kernel
theorem dX9_highAt_1 : decode cX9_highAt 1 = .ok (.getfield 9, 3) := by decide +kernel
theorem dX9_highAt_4 : decode cX9_highAt 4 = .ok (.iconst 1, 1) := by decide +kernel
theorem dX9_highAt_5 : decode cX9_highAt 5 = .ok (.iaload, 1) := by decide +kernel
theorem dX9_highAt_6 : decode cX9_highAt 6 = .ok (.istore_n 2, 1) := by decide +kernel
theorem dX9_highAt_7 : decode cX9_highAt 7 = .ok (.aload_n 0, 1) := by decide +kernel
theorem dX9_highAt_8 : decode cX9_highAt 8 = .ok (.getfield 9, 3) := by decide +kernel
theorem dX9_highAt_11 : decode cX9_highAt 11 = .ok (.iconst 1, 1) := by decide +kernel
theorem dX9_highAt_12 : decode cX9_highAt 12 = .ok (.iload_n 1, 1) := by decide +kernel
theorem dX9_highAt_13 : decode cX9_highAt 13 = .ok (.iastore, 1) := by decide +kernel
theorem dX9_highAt_14 : decode cX9_highAt 14 = .ok (.aload_n 0, 1) := by decide +kernel
theorem dX9_highAt_15 : decode cX9_highAt 15 = .ok (.invokevirtual 364, 3) := by decide +kernel
theorem dX9_highAt_18 : decode cX9_highAt 18 = .ok (.istore_n 3, 1) := by decide +kernel
theorem dX9_highAt_19 : decode cX9_highAt 19 = .ok (.aload_n 0, 1) := by decide +kernel
theorem dX9_highAt_20 : decode cX9_highAt 20 = .ok (.getfield 9, 3) := by decide +kernel
theorem dX9_highAt_23 : decode cX9_highAt 23 = .ok (.iconst 1, 1) := by decide +kernel
theorem dX9_highAt_24 : decode cX9_highAt 24 = .ok (.iload_n 2, 1) := by decide +kernel
theorem dX9_highAt_25 : decode cX9_highAt 25 = .ok (.iastore, 1) := by decide +kernel
theorem dX9_highAt_26 : decode cX9_highAt 26 = .ok (.iload_n 3, 1) := by decide +kernel
theorem dX9_highAt_27 : decode cX9_highAt 27 = .ok (.ifCond .eq 10, 3) := by decide +kernel
theorem dX9_highAt_30 : decode cX9_highAt 30 = .ok (.aload_n 0, 1) := by decide +kernel
theorem dX9_highAt_31 : decode cX9_highAt 31 = .ok (.getfield 355, 3) := by decide +kernel
theorem dX9_highAt_34 : decode cX9_highAt 34 = .ok (.goto 4, 3) := by decide +kernel
theorem dX9_highAt_37 : decode cX9_highAt 37 = .ok (.iconst (-1), 1) := by decide +kernel
theorem dX9_highAt_38 : decode cX9_highAt 38 = .ok (.ireturn, 1) := by decide +kernel
theorem dX9_heightAt_0 : decode cX9_heightAt 0 = .ok (.aload_n 0, 1) := by decide +kernel
theorem dX9_heightAt_1 : decode cX9_heightAt 1 = .ok (.iconst 0, 1) := by decide +kernel
theorem dX9_heightAt_2 : decode cX9_heightAt 2 = .ok (.putfield 84, 3) := by decide +kernel
theorem dX9_heightAt_5 : decode cX9_heightAt 5 = .ok (.iload_n 1, 1) := by decide +kernel
theorem dX9_heightAt_6 : decode cX9_heightAt 6 = .ok (.bipush 8, 2) := by decide +kernel
theorem dX9_heightAt_8 : decode cX9_heightAt 8 = .ok (.bipush 36, 2) := by decide +kernel
theorem dX9_heightAt_10 : decode cX9_heightAt 10 = .ok (.invokestatic 87, 3) := by decide +kernel
theorem dX9_heightAt_13 : decode cX9_heightAt 13 = .ok (.ifCond .ne 9, 3) := by decide +kernel
theorem dX9_heightAt_16 : decode cX9_heightAt 16 = .ok (.aload_n 0, 1) := by decide +kernel
theorem dX9_heightAt_17 : decode cX9_heightAt 17 = .ok (.iconst 1, 1) := by decide +kernel
theorem dX9_heightAt_18 : decode cX9_heightAt 18 = .ok (.invokevirtual 95, 3) := by decide +kernel
theorem dX9_heightAt_21 : decode cX9_heightAt 21 = .ok (.ireturn, 1) := by decide +kernel
theorem dX9_heightAt_22 : decode cX9_heightAt 22 = .ok (.aload_n 0, 1) := by decide +kernel
theorem dX9_heightAt_23 : decode cX9_heightAt 23 = .ok (.invokevirtual 361, 3) := by decide +kernel
theorem dX9_heightAt_26 : decode cX9_heightAt 26 = .ok (.aload_n 0, 1) := by decide +kernel
theorem dX9_heightAt_27 : decode cX9_heightAt 27 = .ok (.iload_n 1, 1) := by decide +kernel
theorem dX9_heightAt_28 : decode cX9_heightAt 28 = .ok (.invokevirtual 370, 3) := by decide +kernel
theorem dX9_heightAt_31 : decode cX9_heightAt 31 = .ok (.istore_n 2, 1) := by decide +kernel
theorem dX9_heightAt_32 : decode cX9_heightAt 32 = .ok (.iload_n 2, 1) := by decide +kernel
theorem dX9_heightAt_33 : decode cX9_heightAt 33 = .ok (.iconst (-1), 1) := by decide +kernel
theorem dX9_heightAt_34 : decode cX9_heightAt 34 = .ok (.if_icmp .ne 11, 3) := by decide +kernel
theorem dX9_heightAt_37 : decode cX9_heightAt 37 = .ok (.aload_n 0, 1) := by decide +kernel
theorem dX9_heightAt_38 : decode cX9_heightAt 38 = .ok (.iconst 2, 1) := by decide +kernel
theorem dX9_heightAt_39 : decode cX9_heightAt 39 = .ok (.invokevirtual 95, 3) := by decide +kernel
theorem dX9_heightAt_42 : decode cX9_heightAt 42 = .ok (.goto 4, 3) := by decide +kernel
theorem dX9_heightAt_45 : decode cX9_heightAt 45 = .ok (.iload_n 2, 1) := by decide +kernel
theorem dX9_heightAt_46 : decode cX9_heightAt 46 = .ok (.ireturn, 1) := by decide +kernel
theorem dX9_narrowest_0 : decode cX9_narrowest 0 = .ok (.aload_n 0, 1) := by decide +kernel
theorem dX9_narrowest_1 : decode cX9_narrowest 1 = .ok (.iconst 0, 1) := by decide +kernel
theorem dX9_narrowest_2 : decode cX9_narrowest 2 = .ok (.putfield 84, 3) := by decide +kernel
theorem dX9_narrowest_5 : decode cX9_narrowest 5 = .ok (.aload_n 0, 1) := by decide +kernel
theorem dX9_narrowest_6 : decode cX9_narrowest 6 = .ok (.invokevirtual 361, 3) := by decide +kernel
theorem dX9_narrowest_9 : decode cX9_narrowest 9 = .ok (.bipush 8, 2) := by decide +kernel
theorem dX9_narrowest_11 : decode cX9_narrowest 11 = .ok (.istore_n 2, 1) := by decide +kernel
theorem dX9_narrowest_12 : decode cX9_narrowest 12 = .ok (.iload_n 2, 1) := by decide +kernel
theorem dX9_narrowest_13 : decode cX9_narrowest 13 = .ok (.bipush 36, 2) := by decide +kernel
theorem dX9_narrowest_15 : decode cX9_narrowest 15 = .ok (.if_icmp .gt 27, 3) := by decide +kernel
theorem dX9_narrowest_18 : decode cX9_narrowest 18 = .ok (.aload_n 0, 1) := by decide +kernel
theorem dX9_narrowest_19 : decode cX9_narrowest 19 = .ok (.iload_n 2, 1) := by decide +kernel
theorem dX9_narrowest_20 : decode cX9_narrowest 20 = .ok (.invokevirtual 370, 3) := by decide +kernel
theorem dX9_narrowest_23 : decode cX9_narrowest 23 = .ok (.istore_n 3, 1) := by decide +kernel
theorem dX9_narrowest_24 : decode cX9_narrowest 24 = .ok (.iload_n 3, 1) := by decide +kernel
theorem dX9_narrowest_25 : decode cX9_narrowest 25 = .ok (.iconst (-1), 1) := by decide +kernel
theorem dX9_narrowest_26 : decode cX9_narrowest 26 = .ok (.if_icmp .eq 10, 3) := by decide +kernel
theorem dX9_narrowest_29 : decode cX9_narrowest 29 = .ok (.iload_n 3, 1) := by decide +kernel
theorem dX9_narrowest_30 : decode cX9_narrowest 30 = .ok (.iload_n 1, 1) := by decide +kernel
theorem dX9_narrowest_31 : decode cX9_narrowest 31 = .ok (.if_icmp .gt 5, 3) := by decide +kernel
theorem dX9_narrowest_34 : decode cX9_narrowest 34 = .ok (.iload_n 2, 1) := by decide +kernel
theorem dX9_narrowest_35 : decode cX9_narrowest 35 = .ok (.ireturn, 1) := by decide +kernel
theorem dX9_narrowest_36 : decode cX9_narrowest 36 = .ok (.iinc 2 1, 3) := by decide +kernel
theorem dX9_narrowest_39 : decode cX9_narrowest 39 = .ok (.goto (-27), 3) := by decide +kernel
theorem dX9_narrowest_42 : decode cX9_narrowest 42 = .ok (.aload_n 0, 1) := by decide +kernel
theorem dX9_narrowest_43 : decode cX9_narrowest 43 = .ok (.iconst 1, 1) := by decide +kernel
theorem dX9_narrowest_44 : decode cX9_narrowest 44 = .ok (.invokevirtual 95, 3) := by decide +kernel
theorem dX9_narrowest_47 : decode cX9_narrowest 47 = .ok (.ireturn, 1) := by decide +kernel
theorem dX9_improving_0 : decode cX9_improving 0 = .ok (.aload_n 0, 1) := by decide +kernel
theorem dX9_improving_1 : decode cX9_improving 1 = .ok (.invokevirtual 361, 3) := by decide +kernel
theorem dX9_improving_4 : decode cX9_improving 4 = .ok (.iconst 0, 1) := by decide +kernel
theorem dX9_improving_5 : decode cX9_improving 5 = .ok (.istore_n 2, 1) := by decide +kernel
theorem dX9_improving_6 : decode cX9_improving 6 = .ok (.iconst (-1), 1) := by decide +kernel
theorem dX9_improving_7 : decode cX9_improving 7 = .ok (.istore_n 3, 1) := by decide +kernel
theorem dX9_improving_8 : decode cX9_improving 8 = .ok (.bipush 8, 2) := by decide +kernel
theorem dX9_improving_10 : decode cX9_improving 10 = .ok (.istore 4, 2) := by decide +kernel
theorem dX9_improving_12 : decode cX9_improving 12 = .ok (.iload 4, 2) := by decide +kernel
theorem dX9_improving_14 : decode cX9_improving 14 = .ok (.bipush 36, 2) := by decide +kernel
theorem dX9_improving_16 : decode cX9_improving 16 = .ok (.if_icmp .gt 48, 3) := by decide +kernel
theorem dX9_improving_19 : decode cX9_improving 19 = .ok (.aload_n 0, 1) := by decide +kernel
theorem dX9_improving_20 : decode cX9_improving 20 = .ok (.iload 4, 2) := by decide +kernel
theorem dX9_improving_22 : decode cX9_improving 22 = .ok (.invokevirtual 370, 3) := by decide +kernel
theorem dX9_improving_25 : decode cX9_improving 25 = .ok (.istore 5, 2) := by decide +kernel
theorem dX9_improving_27 : decode cX9_improving 27 = .ok (.iload 5, 2) := by decide +kernel
theorem dX9_improving_29 : decode cX9_improving 29 = .ok (.iconst (-1), 1) := by decide +kernel
theorem dX9_improving_30 : decode cX9_improving 30 = .ok (.if_icmp .eq 28, 3) := by decide +kernel
theorem dX9_improving_33 : decode cX9_improving 33 = .ok (.iload_n 3, 1) := by decide +kernel
theorem dX9_improving_34 : decode cX9_improving 34 = .ok (.iconst (-1), 1) := by decide +kernel
theorem dX9_improving_35 : decode cX9_improving 35 = .ok (.if_icmp .eq 9, 3) := by decide +kernel
theorem dX9_improving_38 : decode cX9_improving 38 = .ok (.iload 5, 2) := by decide +kernel
theorem dX9_improving_40 : decode cX9_improving 40 = .ok (.iload_n 3, 1) := by decide +kernel
theorem dX9_improving_41 : decode cX9_improving 41 = .ok (.if_icmp .ge 17, 3) := by decide +kernel
theorem dX9_improving_44 : decode cX9_improving 44 = .ok (.iload_n 2, 1) := by decide +kernel
theorem dX9_improving_45 : decode cX9_improving 45 = .ok (.iload_n 1, 1) := by decide +kernel
theorem dX9_improving_46 : decode cX9_improving 46 = .ok (.if_icmp .ne 6, 3) := by decide +kernel
theorem dX9_improving_49 : decode cX9_improving 49 = .ok (.iload 4, 2) := by decide +kernel
theorem dX9_improving_51 : decode cX9_improving 51 = .ok (.ireturn, 1) := by decide +kernel
theorem dX9_improving_52 : decode cX9_improving 52 = .ok (.iinc 2 1, 3) := by decide +kernel
theorem dX9_improving_55 : decode cX9_improving 55 = .ok (.iload 5, 2) := by decide +kernel
theorem dX9_improving_57 : decode cX9_improving 57 = .ok (.istore_n 3, 1) := by decide +kernel
theorem dX9_improving_58 : decode cX9_improving 58 = .ok (.iinc 4 1, 3) := by decide +kernel
theorem dX9_improving_61 : decode cX9_improving 61 = .ok (.goto (-49), 3) := by decide +kernel
theorem dX9_improving_64 : decode cX9_improving 64 = .ok (.iload_n 1, 1) := by decide +kernel
theorem dX9_improving_65 : decode cX9_improving 65 = .ok (.iconst (-1), 1) := by decide +kernel
theorem dX9_improving_66 : decode cX9_improving 66 = .ok (.if_icmp .ne 7, 3) := by decide +kernel
theorem dX9_improving_69 : decode cX9_improving 69 = .ok (.iload_n 2, 1) := by decide +kernel
theorem dX9_improving_70 : decode cX9_improving 70 = .ok (.goto 4, 3) := by decide +kernel
theorem dX9_improving_73 : decode cX9_improving 73 = .ok (.iconst (-1), 1) := by decide +kernel
theorem dX9_improving_74 : decode cX9_improving 74 = .ok (.ireturn, 1) := by decide +kernel
theorem dX9_improvements_0 : decode cX9_improvements 0 = .ok (.aload_n 0, 1) := by decide +kernel
theorem dX9_improvements_1 : decode cX9_improvements 1 = .ok (.iconst 0, 1) := by decide +kernel
theorem dX9_improvements_2 : decode cX9_improvements 2 = .ok (.putfield 84, 3) := by decide +kernel
theorem dX9_improvements_5 : decode cX9_improvements 5 = .ok (.aload_n 0, 1) := by decide +kernel
theorem dX9_improvements_6 : decode cX9_improvements 6 = .ok (.iconst (-1), 1) := by decide +kernel
theorem dX9_improvements_7 : decode cX9_improvements 7 = .ok (.invokevirtual 373, 3) := by decide +kernel
theorem dX9_improvements_10 : decode cX9_improvements 10 = .ok (.ireturn, 1) := by decide +kernel
theorem dX9_improvement_0 : decode cX9_improvement 0 = .ok (.aload_n 0, 1) := by decide +kernel
theorem dX9_improvement_1 : decode cX9_improvement 1 = .ok (.iconst 0, 1) := by decide +kernel
theorem dX9_improvement_2 : decode cX9_improvement 2 = .ok (.putfield 84, 3) := by decide +kernel
theorem dX9_improvement_5 : decode cX9_improvement 5 = .ok (.iload_n 1, 1) := by decide +kernel
theorem dX9_improvement_6 : decode cX9_improvement 6 = .ok (.ifCond .ge 7, 3) := by decide +kernel
theorem dX9_improvement_9 : decode cX9_improvement 9 = .ok (.iconst (-1), 1) := by decide +kernel
theorem dX9_improvement_10 : decode cX9_improvement 10 = .ok (.goto 8, 3) := by decide +kernel
theorem dX9_improvement_13 : decode cX9_improvement 13 = .ok (.aload_n 0, 1) := by decide +kernel
theorem dX9_improvement_14 : decode cX9_improvement 14 = .ok (.iload_n 1, 1) := by decide +kernel
theorem dX9_improvement_15 : decode cX9_improvement 15 = .ok (.invokevirtual 373, 3) := by decide +kernel
theorem dX9_improvement_18 : decode cX9_improvement 18 = .ok (.istore_n 2, 1) := by decide +kernel
theorem dX9_improvement_19 : decode cX9_improvement 19 = .ok (.iload_n 2, 1) := by decide +kernel
theorem dX9_improvement_20 : decode cX9_improvement 20 = .ok (.iconst (-1), 1) := by decide +kernel
theorem dX9_improvement_21 : decode cX9_improvement 21 = .ok (.if_icmp .ne 11, 3) := by decide +kernel
theorem dX9_improvement_24 : decode cX9_improvement 24 = .ok (.aload_n 0, 1) := by decide +kernel
theorem dX9_improvement_25 : decode cX9_improvement 25 = .ok (.iconst 1, 1) := by decide +kernel
theorem dX9_improvement_26 : decode cX9_improvement 26 = .ok (.invokevirtual 95, 3) := by decide +kernel
theorem dX9_improvement_29 : decode cX9_improvement 29 = .ok (.goto 4, 3) := by decide +kernel
theorem dX9_improvement_32 : decode cX9_improvement 32 = .ok (.iload_n 2, 1) := by decide +kernel
theorem dX9_improvement_33 : decode cX9_improvement 33 = .ok (.ireturn, 1) := by decide +kernel
theorem dX9_critical_0 : decode cX9_critical 0 = .ok (.aload_n 0, 1) := by decide +kernel
theorem dX9_critical_1 : decode cX9_critical 1 = .ok (.iconst 0, 1) := by decide +kernel
theorem dX9_critical_2 : decode cX9_critical 2 = .ok (.putfield 84, 3) := by decide +kernel
theorem dX9_critical_5 : decode cX9_critical 5 = .ok (.aload_n 0, 1) := by decide +kernel
theorem dX9_critical_6 : decode cX9_critical 6 = .ok (.invokevirtual 367, 3) := by decide +kernel
theorem dX9_critical_9 : decode cX9_critical 9 = .ok (.ifCond .ne 9, 3) := by decide +kernel
theorem dX9_critical_12 : decode cX9_critical 12 = .ok (.aload_n 0, 1) := by decide +kernel
theorem dX9_critical_13 : decode cX9_critical 13 = .ok (.iconst 1, 1) := by decide +kernel
theorem dX9_critical_14 : decode cX9_critical 14 = .ok (.invokevirtual 95, 3) := by decide +kernel
theorem dX9_critical_17 : decode cX9_critical 17 = .ok (.ireturn, 1) := by decide +kernel
theorem dX9_critical_18 : decode cX9_critical 18 = .ok (.aload_n 0, 1) := by decide +kernel
theorem dX9_critical_19 : decode cX9_critical 19 = .ok (.getfield 355, 3) := by decide +kernel
theorem dX9_critical_22 : decode cX9_critical 22 = .ok (.istore_n 1, 1) := by decide +kernel
theorem dX9_critical_23 : decode cX9_critical 23 = .ok (.iconst (-1), 1) := by decide +kernel
theorem dX9_critical_24 : decode cX9_critical 24 = .ok (.istore_n 2, 1) := by decide +kernel
theorem dX9_critical_25 : decode cX9_critical 25 = .ok (.aload_n 0, 1) := by decide +kernel
theorem dX9_critical_26 : decode cX9_critical 26 = .ok (.invokevirtual 256, 3) := by decide +kernel
theorem dX9_critical_29 : decode cX9_critical 29 = .ok (.iconst 0, 1) := by decide +kernel
theorem dX9_critical_30 : decode cX9_critical 30 = .ok (.istore_n 3, 1) := by decide +kernel
theorem dX9_critical_31 : decode cX9_critical 31 = .ok (.iload_n 3, 1) := by decide +kernel
theorem dX9_critical_32 : decode cX9_critical 32 = .ok (.aload_n 0, 1) := by decide +kernel
theorem dX9_critical_33 : decode cX9_critical 33 = .ok (.getfield 16, 3) := by decide +kernel
theorem dX9_critical_36 : decode cX9_critical 36 = .ok (.iconst 5, 1) := by decide +kernel
theorem dX9_critical_37 : decode cX9_critical 37 = .ok (.iaload, 1) := by decide +kernel
theorem dX9_critical_38 : decode cX9_critical 38 = .ok (.if_icmp .ge 65, 3) := by decide +kernel
theorem dX9_critical_41 : decode cX9_critical 41 = .ok (.aload_n 0, 1) := by decide +kernel
theorem dX9_critical_42 : decode cX9_critical 42 = .ok (.iload_n 3, 1) := by decide +kernel
theorem dX9_critical_43 : decode cX9_critical 43 = .ok (.invokevirtual 123, 3) := by decide +kernel
theorem dX9_critical_46 : decode cX9_critical 46 = .ok (.aload_n 0, 1) := by decide +kernel
theorem dX9_critical_47 : decode cX9_critical 47 = .ok (.invokevirtual 367, 3) := by decide +kernel
theorem dX9_critical_50 : decode cX9_critical 50 = .ok (.ifCond .eq 15, 3) := by decide +kernel
theorem dX9_critical_53 : decode cX9_critical 53 = .ok (.aload_n 0, 1) := by decide +kernel
theorem dX9_critical_54 : decode cX9_critical 54 = .ok (.getfield 355, 3) := by decide +kernel
theorem dX9_critical_57 : decode cX9_critical 57 = .ok (.iload_n 1, 1) := by decide +kernel
theorem dX9_critical_58 : decode cX9_critical 58 = .ok (.if_icmp .ge 7, 3) := by decide +kernel
theorem dX9_critical_61 : decode cX9_critical 61 = .ok (.iconst 1, 1) := by decide +kernel
theorem dX9_critical_62 : decode cX9_critical 62 = .ok (.goto 4, 3) := by decide +kernel
theorem dX9_critical_65 : decode cX9_critical 65 = .ok (.iconst 0, 1) := by decide +kernel
theorem dX9_critical_66 : decode cX9_critical 66 = .ok (.istore 4, 2) := by decide +kernel
theorem dX9_critical_68 : decode cX9_critical 68 = .ok (.iload 4, 2) := by decide +kernel
theorem dX9_critical_70 : decode cX9_critical 70 = .ok (.ifCond .eq 7, 3) := by decide +kernel
theorem dX9_critical_73 : decode cX9_critical 73 = .ok (.iload_n 3, 1) := by decide +kernel
theorem dX9_critical_74 : decode cX9_critical 74 = .ok (.goto 4, 3) := by decide +kernel
theorem dX9_critical_77 : decode cX9_critical 77 = .ok (.iload_n 2, 1) := by decide +kernel
theorem dX9_critical_78 : decode cX9_critical 78 = .ok (.istore_n 2, 1) := by decide +kernel
theorem dX9_critical_79 : decode cX9_critical 79 = .ok (.iload 4, 2) := by decide +kernel
theorem dX9_critical_81 : decode cX9_critical 81 = .ok (.ifCond .eq 10, 3) := by decide +kernel
theorem dX9_critical_84 : decode cX9_critical 84 = .ok (.aload_n 0, 1) := by decide +kernel
theorem dX9_critical_85 : decode cX9_critical 85 = .ok (.getfield 355, 3) := by decide +kernel
theorem dX9_critical_88 : decode cX9_critical 88 = .ok (.goto 4, 3) := by decide +kernel
theorem dX9_critical_91 : decode cX9_critical 91 = .ok (.iload_n 1, 1) := by decide +kernel
theorem dX9_critical_92 : decode cX9_critical 92 = .ok (.istore_n 1, 1) := by decide +kernel
theorem dX9_critical_93 : decode cX9_critical 93 = .ok (.aload_n 0, 1) := by decide +kernel
theorem dX9_critical_94 : decode cX9_critical 94 = .ok (.invokevirtual 259, 3) := by decide +kernel
theorem dX9_critical_97 : decode cX9_critical 97 = .ok (.iinc 3 1, 3) := by decide +kernel
theorem dX9_critical_100 : decode cX9_critical 100 = .ok (.goto (-69), 3) := by decide +kernel
theorem dX9_critical_103 : decode cX9_critical 103 = .ok (.iload_n 2, 1) := by decide +kernel
theorem dX9_critical_104 : decode cX9_critical 104 = .ok (.iconst (-1), 1) := by decide +kernel
theorem dX9_critical_105 : decode cX9_critical 105 = .ok (.if_icmp .ne 11, 3) := by decide +kernel
theorem dX9_critical_108 : decode cX9_critical 108 = .ok (.aload_n 0, 1) := by decide +kernel
theorem dX9_critical_109 : decode cX9_critical 109 = .ok (.iconst 2, 1) := by decide +kernel
theorem dX9_critical_110 : decode cX9_critical 110 = .ok (.invokevirtual 95, 3) := by decide +kernel
theorem dX9_critical_113 : decode cX9_critical 113 = .ok (.goto 4, 3) := by decide +kernel
theorem dX9_critical_116 : decode cX9_critical 116 = .ok (.iload_n 2, 1) := by decide +kernel
theorem dX9_critical_117 : decode cX9_critical 117 = .ok (.ireturn, 1) := by decide +kernel
theorem dX9_costOfWord_0 : decode cX9_costOfWord 0 = .ok (.aload_n 0, 1) := by decide +kernel
theorem dX9_costOfWord_1 : decode cX9_costOfWord 1 = .ok (.iconst 0, 1) := by decide +kernel
theorem dX9_costOfWord_2 : decode cX9_costOfWord 2 = .ok (.putfield 84, 3) := by decide +kernel
theorem dX9_costOfWord_5 : decode cX9_costOfWord 5 = .ok (.aload_n 0, 1) := by decide +kernel
theorem dX9_costOfWord_6 : decode cX9_costOfWord 6 = .ok (.iload_n 1, 1) := by decide +kernel
theorem dX9_costOfWord_7 : decode cX9_costOfWord 7 = .ok (.invokevirtual 120, 3) := by decide +kernel
theorem dX9_costOfWord_10 : decode cX9_costOfWord 10 = .ok (.ifCond .ne 9, 3) := by decide +kernel
theorem dX9_costOfWord_13 : decode cX9_costOfWord 13 = .ok (.aload_n 0, 1) := by decide +kernel
theorem dX9_costOfWord_14 : decode cX9_costOfWord 14 = .ok (.iconst 1, 1) := by decide +kernel
theorem dX9_costOfWord_15 : decode cX9_costOfWord 15 = .ok (.invokevirtual 95, 3) := by decide +kernel
theorem dX9_costOfWord_18 : decode cX9_costOfWord 18 = .ok (.ireturn, 1) := by decide +kernel
theorem dX9_costOfWord_19 : decode cX9_costOfWord 19 = .ok (.aload_n 0, 1) := by decide +kernel
theorem dX9_costOfWord_20 : decode cX9_costOfWord 20 = .ok (.iload_n 1, 1) := by decide +kernel
theorem dX9_costOfWord_21 : decode cX9_costOfWord 21 = .ok (.invokevirtual 127, 3) := by decide +kernel
theorem dX9_costOfWord_24 : decode cX9_costOfWord 24 = .ok (.ifCond .ne 9, 3) := by decide +kernel
theorem dX9_costOfWord_27 : decode cX9_costOfWord 27 = .ok (.aload_n 0, 1) := by decide +kernel
theorem dX9_costOfWord_28 : decode cX9_costOfWord 28 = .ok (.iconst 2, 1) := by decide +kernel
theorem dX9_costOfWord_29 : decode cX9_costOfWord 29 = .ok (.invokevirtual 95, 3) := by decide +kernel
theorem dX9_costOfWord_32 : decode cX9_costOfWord 32 = .ok (.ireturn, 1) := by decide +kernel
theorem dX9_costOfWord_33 : decode cX9_costOfWord 33 = .ok (.iload_n 2, 1) := by decide +kernel
theorem dX9_costOfWord_34 : decode cX9_costOfWord 34 = .ok (.iconst 1, 1) := by decide +kernel
theorem dX9_costOfWord_35 : decode cX9_costOfWord 35 = .ok (.bipush 12, 2) := by decide +kernel
theorem dX9_costOfWord_37 : decode cX9_costOfWord 37 = .ok (.invokestatic 87, 3) := by decide +kernel
theorem dX9_costOfWord_40 : decode cX9_costOfWord 40 = .ok (.ifCond .ne 9, 3) := by decide +kernel
theorem dX9_costOfWord_43 : decode cX9_costOfWord 43 = .ok (.aload_n 0, 1) := by decide +kernel
theorem dX9_costOfWord_44 : decode cX9_costOfWord 44 = .ok (.iconst 3, 1) := by decide +kernel
theorem dX9_costOfWord_45 : decode cX9_costOfWord 45 = .ok (.invokevirtual 95, 3) := by decide +kernel
theorem dX9_costOfWord_48 : decode cX9_costOfWord 48 = .ok (.ireturn, 1) := by decide +kernel
theorem dX9_costOfWord_49 : decode cX9_costOfWord 49 = .ok (.aload_n 0, 1) := by decide +kernel
theorem dX9_costOfWord_50 : decode cX9_costOfWord 50 = .ok (.iload_n 1, 1) := by decide +kernel
theorem dX9_costOfWord_51 : decode cX9_costOfWord 51 = .ok (.iconst 4, 1) := by decide +kernel
theorem dX9_costOfWord_52 : decode cX9_costOfWord 52 = .ok (.invokevirtual 91, 3) := by decide +kernel
theorem dX9_costOfWord_55 : decode cX9_costOfWord 55 = .ok (.bipush 12, 2) := by decide +kernel
theorem dX9_costOfWord_57 : decode cX9_costOfWord 57 = .ok (.if_icmp .eq 10, 3) := by decide +kernel
theorem dX9_costOfWord_60 : decode cX9_costOfWord 60 = .ok (.aload_n 0, 1) := by decide +kernel
theorem dX9_costOfWord_61 : decode cX9_costOfWord 61 = .ok (.invokevirtual 367, 3) := by decide +kernel
theorem dX9_costOfWord_64 : decode cX9_costOfWord 64 = .ok (.ifCond .ne 9, 3) := by decide +kernel
theorem dX9_costOfWord_67 : decode cX9_costOfWord 67 = .ok (.aload_n 0, 1) := by decide +kernel
theorem dX9_costOfWord_68 : decode cX9_costOfWord 68 = .ok (.iconst 4, 1) := by decide +kernel
theorem dX9_costOfWord_69 : decode cX9_costOfWord 69 = .ok (.invokevirtual 95, 3) := by decide +kernel
theorem dX9_costOfWord_72 : decode cX9_costOfWord 72 = .ok (.ireturn, 1) := by decide +kernel
theorem dX9_costOfWord_73 : decode cX9_costOfWord 73 = .ok (.aload_n 0, 1) := by decide +kernel
